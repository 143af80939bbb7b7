theorem xgo_abI {n t : Nat} {len f g ml mf mg : Nat → Int32} {L r s p u : Nat → Nat} (hn : n ≤ 6) (hr : ∀ k, k < n → r k < n ∧ s k < n ∧ r (s k) = k ∧ s (r k) = k ∧ f k = nI (r k)) (hu : ∀ k, k < n → p k < n ∧ u k < n ∧ p (u k) = k ∧ u (p k) = k ∧ g k = nI (p k)) (hL : ∀ k, k < n → len k = nI (L k)) (h50 : ∀ k, k < n → L k ≤ 50) (hm : ∀ k, k < n → mf k = f k ∧ mg k = g k ∧ ml k = len k) (ht : t < xS L n) : jf_Ex_carried_above_below (nI n) len f g (nI t) = some (nI (xI L r p u n t)) ∧ jf_Mo_goes_above_below mf mg ml (nI t) = some (nI (xI L r p u n t)) := by
  have hs : xS L n ≤ 50 * n := xS_le h50 n (Nat.le_refl n)
  have e := xS_perm n r s L (fun k hk => ⟨(hr k hk).1, (hr k hk).2.1, (hr k hk).2.2.1, (hr k hk).2.2.2.1⟩)
  have e9 := xS_perm n p u L (fun k hk => ⟨(hu k hk).1, (hu k hk).2.1, (hu k hk).2.2.1, (hu k hk).2.2.2.1⟩)
  have hf : ∀ k, k < n → f k = nI (r k) ∧ r k < n := fun k hk => ⟨(hr k hk).2.2.2.2, (hr k hk).1⟩
  have hg : ∀ k, k < n → g k = nI (p k) ∧ p k < n := fun k hk => ⟨(hu k hk).2.2.2.2, (hu k hk).1⟩
  have hf2 : ∀ k, k < n → mf k = nI (r k) ∧ r k < n := fun k hk => ⟨by rw [(hm k hk).1]; exact (hf k hk).1, (hf k hk).2⟩
  have hg2 : ∀ k, k < n → mg k = nI (p k) ∧ p k < n := fun k hk => ⟨by rw [(hm k hk).2.1]; exact (hg k hk).1, (hg k hk).2⟩
  have hL2 : ∀ k, k < n → ml k = nI (L k) := fun k hk => by rw [(hm k hk).2.2]; exact hL k hk
  obtain ⟨ht0, m4, m2⟩ := xidx_at (g := fun k => L (r k)) (t := t) n (by rw [e]; exact ht)
  have hI : xI L r p u n t = xS (fun k => L (p k)) (u (r (xidx (fun k => L (r k)) t n))) + (t - xS (fun k => L (r k)) (xidx (fun k => L (r k)) t n)) := rfl
  generalize xidx (fun k => L (r k)) t n = t0 at *
  have he : p (u (r t0)) = r t0 := (hu (r t0) (hf t0 ht0).2).2.2.1
  have hk1 : u (r t0) < n := (hu (r t0) (hf t0 ht0).2).2.1
  have hne : ∀ k, k < u (r t0) → p k ≠ r t0 := fun k hk e2 => by
    have := (hu k (by omega)).2.2.2.1
    rw [e2] at this; omega
  have a1 := (xfind_ab (len := len) hn ht0 (by omega) (by omega) m2 (by rw [e]; omega) hf hL t0 jF 0 (by omega) (jF_gt (by omega))).1
  have a2 := (xfind_ab (len := ml) hn ht0 (by omega) (by omega) m2 (by rw [e]; omega) hf2 hL2 t0 jF 0 (by omega) (jF_gt (by omega))).2
  have b1 := (xbegin_ab (f := f) (len := len) 0 0 hn ht0 hk1 he hne hf hg hL (u (r t0)) jF 0 (by omega) (jF_gt (by omega))).1
  have b2 := (xbegin_ab (f := mf) (len := ml) (nI t) (nI (xS (fun k => L (r k)) t0)) hn ht0 hk1 he hne hf2 hg2 hL2 (u (r t0)) jF 0 (by omega) (jF_gt (by omega))).2
  have hv : nI (xS (fun k => L (p k)) (u (r t0))) + nI t - nI (xS (fun k => L (r k)) t0) = nI (xI L r p u n t) := by
    rw [nI_add, pk_sub (by omega), hI, Nat.add_sub_assoc m4]
  constructor
  · unfold jf_Ex_carried_above_below jf_Ex_beginIn_below
    show Option.bind (jf_Ex_carried_above_below_L6 (nI n) len f (nI t) jF (nI (xS (fun k => L (r k)) 0)) (nI 0)) _ = _
    rw [a1]
    show Option.bind (Option.bind (jf_Ex_beginIn_below_L5 (nI n) len g (nI (r t0)) jF (nI (xS (fun k => L (p k)) 0)) (nI 0)) _) _ = _
    rw [b1, ← hv]
    rfl
  · unfold jf_Mo_goes_above_below
    show Option.bind (jf_Mo_goes_above_below_L6 mf ml (nI t) jF (nI 0) (nI (xS (fun k => L (r k)) 0))) _ = _
    rw [a2]
    show Option.bind (jf_Mo_goes_above_below_L48 mf mg ml (nI t) (nI t0) (nI (xS (fun k => L (r k)) t0)) jF (nI (xS (fun k => L (p k)) 0)) (nI 0)) _ = _
    rw [b2, ← hv]
    rfl
theorem nge300 {k : Nat} (h : k < 300) : ¬ (300 : Int32) ≤ nI k := nI_ge (b := 300) h (by decide)
theorem xc_rounds {n N s p : Nat} {len above below : Nat → Int32} {F : Nat → Nat} (hN : N ≤ 300) (hF : ∀ t, t < N → F t < N ∧ jf_Ex_imageOf (nI n) len above below (nI t) = some (nI (F t))) (hs : s < N) (hp : jPer F s p) (h5 : p ≤ N) : ∀ j m k, k + j = p → 1 ≤ k → j < m → jf_Ex_imagesRound_L8 (nI n) len above below (nI s) m (nI k) (nI (jit F k s)) = some (nI p) := by
  intro j
  induction j with
  | zero =>
    intro m k e hk hm
    obtain ⟨q, rfl⟩ : ∃ q, m = q + 1 := ⟨m - 1, by omega⟩
    have : k = p := by omega
    subst this
    rw [jf_Ex_imagesRound_L8, hp.2.1, if_pos rfl]
  | succ j ih =>
    intro m k e hk hm
    obtain ⟨q, rfl⟩ : ∃ q, m = q + 1 := ⟨m - 1, by omega⟩
    have hP : jit F k s < N := jit_P (P := fun t => t < N) (fun t h => (hF t h).1) hs k
    have hne : ¬ nI (jit F k s) = nI s := by
      rw [nI_eq (by omega) (by omega)]
      exact hp.2.2 k hk (by omega)
    rw [jf_Ex_imagesRound_L8, if_neg hne, if_neg (nge300 (by omega)), (hF _ hP).2, nI_1]
    exact ih q (k + 1) (by omega) (by omega) (by omega)
