theorem xgo_ab {n t : Nat} {len f g ml mf mg ia ib : Nat → Int32} {L : Nat → Nat} (hn : n ≤ 6) (hp : jPm n f ia) (hq : jPm n g ib) (hL : ∀ k, k < n → len k = nI (L k)) (h50 : ∀ k, k < n → L k ≤ 50) (hm : ∀ k, k < n → mf k = f k ∧ mg k = g k ∧ ml k = len k) (ht : t < xS L n) : ∃ v, jf_Ex_carried_above_below (nI n) len f g (nI t) = some v ∧ jf_Mo_goes_above_below mf mg ml (nI t) = some v := by
  obtain ⟨r, s, hr⟩ := hp
  obtain ⟨p, u, hu⟩ := hq
  have hs : xS L n ≤ 50 * n := xS_le h50 n (Nat.le_refl n)
  have e := xS_perm n r s L (fun k hk => ⟨(hr k hk).1, (hr k hk).2.1, (hr k hk).2.2.1, (hr k hk).2.2.2.1⟩)
  have hf : ∀ k, k < n → f k = nI (r k) ∧ r k < n := fun k hk => ⟨(hr k hk).2.2.2.2.1, (hr k hk).1⟩
  have hg : ∀ k, k < n → g k = nI (p k) ∧ p k < n := fun k hk => ⟨(hu k hk).2.2.2.2.1, (hu k hk).1⟩
  have hf2 : ∀ k, k < n → mf k = nI (r k) ∧ r k < n := fun k hk => ⟨by rw [(hm k hk).1]; exact (hf k hk).1, (hf k hk).2⟩
  have hg2 : ∀ k, k < n → mg k = nI (p k) ∧ p k < n := fun k hk => ⟨by rw [(hm k hk).2.1]; exact (hg k hk).1, (hg k hk).2⟩
  have hL2 : ∀ k, k < n → ml k = nI (L k) := fun k hk => by rw [(hm k hk).2.2]; exact hL k hk
  obtain ⟨m, m1, m2, m3⟩ := jleast (P := fun k => t < xS (fun k => L (r k)) k) n (by rw [e]; exact ht)
  cases m with
  | zero => exact absurd m2 (Nat.not_lt_zero _)
  | succ t0 =>
    have m4 := m3 t0 (Nat.lt_succ_self t0)
    have ht0 : t0 < n := by omega
    have he : p (u (r t0)) = r t0 := (hu (r t0) (hf t0 ht0).2).2.2.1
    have hk1 : u (r t0) < n := (hu (r t0) (hf t0 ht0).2).2.1
    have hne : ∀ k, k < u (r t0) → p k ≠ r t0 := fun k hk e2 => by
      have := (hu k (by omega)).2.2.2.1
      rw [e2] at this; omega
    have a1 := (xfind_ab (len := len) hn ht0 (by omega) (by omega) m2 (by rw [e]; omega) hf hL t0 jF 0 (by omega) (jF_gt (by omega))).1
    have a2 := (xfind_ab (len := ml) hn ht0 (by omega) (by omega) m2 (by rw [e]; omega) hf2 hL2 t0 jF 0 (by omega) (jF_gt (by omega))).2
    have b1 := (xbegin_ab (f := f) (len := len) 0 0 hn ht0 hk1 he hne hf hg hL (u (r t0)) jF 0 (by omega) (jF_gt (by omega))).1
    have b2 := (xbegin_ab (f := mf) (len := ml) (nI t) (nI (xS (fun k => L (r k)) t0)) hn ht0 hk1 he hne hf2 hg2 hL2 (u (r t0)) jF 0 (by omega) (jF_gt (by omega))).2
    refine ⟨nI (xS (fun k => L (p k)) (u (r t0))) + nI t - nI (xS (fun k => L (r k)) t0), ?_, ?_⟩
    · unfold jf_Ex_carried_above_below jf_Ex_beginIn_below
      show Option.bind (jf_Ex_carried_above_below_L6 (nI n) len f (nI t) jF (nI (xS (fun k => L (r k)) 0)) (nI 0)) _ = _
      rw [a1]
      show Option.bind (Option.bind (jf_Ex_beginIn_below_L5 (nI n) len g (nI (r t0)) jF (nI (xS (fun k => L (p k)) 0)) (nI 0)) _) _ = _
      rw [b1]
      rfl
    · unfold jf_Mo_goes_above_below
      show Option.bind (jf_Mo_goes_above_below_L6 mf ml (nI t) jF (nI 0) (nI (xS (fun k => L (r k)) 0))) _ = _
      rw [a2]
      show Option.bind (jf_Mo_goes_above_below_L48 mf mg ml (nI t) (nI t0) (nI (xS (fun k => L (r k)) t0)) jF (nI (xS (fun k => L (p k)) 0)) (nI 0)) _ = _
      rw [b2]
      rfl
theorem js_image : jS_image := by
  intro b _ _ _ _ _ _ _ ints len above below th _ _ mints _ _ _ _ _ ma mb ml x1 hI
  have hI0 := hI
  obtain ⟨-, -, -, n, hn, rfl, rfl, ⟨ia, ib, hpa, hpb⟩, hk⟩ := hI0
  have hl : ∀ k, k < n → len k = nI (len k).toNatClampNeg := fun k hkn => by
    obtain ⟨z, z1, z2, z3⟩ := (hk k hkn).2.2.2
    rw [z3, nI_clamp (by omega)]
  have h50 : ∀ k, k < n → (len k).toNatClampNeg ≤ 50 := fun k hkn => by
    obtain ⟨z, z1, z2, z3⟩ := (hk k hkn).2.2.2
    rw [z3, nI_clamp (by omega)]; exact z2
  have hl2 : ∀ k, k < n → ml k = nI (len k).toNatClampNeg := fun k hkn => by rw [(hk k hkn).2.2.1]; exact hl k hkn
  unfold jf_Bi_image jf_Mo_image jf_Ex_imageOf
  rw [xc_points (L := fun k => (len k).toNatClampNeg) hn hl]
  simp only [Option.bind]
  rcases xpoint (L := fun k => (len k).toNatClampNeg) hn hl2 h50 th x1 with ⟨t, ht, rfl, e1, e2⟩ | ⟨e1, e2⟩
  · obtain ⟨v, e3, e4⟩ := xgo_ab (t := t) hn hpa hpb hl h50 (fun k hkn => ⟨(hk k hkn).1, (hk k hkn).2.1, (hk k hkn).2.2.1⟩) ht
    refine ⟨(v, 0), ?_, Or.inl ⟨v, ?_, rfl, rfl, hI⟩⟩
    · rw [e2]
      simp only []
      rw [if_neg (show ¬ (1 : Int32) = 0 by decide), e4]
    · rw [e1]
      simp only [jsum]
      rw [e3]
  · rw [e1, e2]
    exact ⟨(0, 1), rfl, Or.inr ⟨rfl, rfl, hI⟩⟩
theorem xgo_ba {n t : Nat} {len f g ml mf mg ia ib : Nat → Int32} {L : Nat → Nat} (hn : n ≤ 6) (hp : jPm n f ia) (hq : jPm n g ib) (hL : ∀ k, k < n → len k = nI (L k)) (h50 : ∀ k, k < n → L k ≤ 50) (hm : ∀ k, k < n → mf k = f k ∧ mg k = g k ∧ ml k = len k) (ht : t < xS L n) : ∃ v, jf_Ex_carried_below_above (nI n) len g f (nI t) = some v ∧ jf_Mo_goes_below_above mg mf ml (nI t) = some v := by
  obtain ⟨r, s, hr⟩ := hp
  obtain ⟨p, u, hu⟩ := hq
  have hs : xS L n ≤ 50 * n := xS_le h50 n (Nat.le_refl n)
  have e := xS_perm n r s L (fun k hk => ⟨(hr k hk).1, (hr k hk).2.1, (hr k hk).2.2.1, (hr k hk).2.2.2.1⟩)
  have hf : ∀ k, k < n → f k = nI (r k) ∧ r k < n := fun k hk => ⟨(hr k hk).2.2.2.2.1, (hr k hk).1⟩
  have hg : ∀ k, k < n → g k = nI (p k) ∧ p k < n := fun k hk => ⟨(hu k hk).2.2.2.2.1, (hu k hk).1⟩
  have hf2 : ∀ k, k < n → mf k = nI (r k) ∧ r k < n := fun k hk => ⟨by rw [(hm k hk).1]; exact (hf k hk).1, (hf k hk).2⟩
  have hg2 : ∀ k, k < n → mg k = nI (p k) ∧ p k < n := fun k hk => ⟨by rw [(hm k hk).2.1]; exact (hg k hk).1, (hg k hk).2⟩
  have hL2 : ∀ k, k < n → ml k = nI (L k) := fun k hk => by rw [(hm k hk).2.2]; exact hL k hk
  obtain ⟨m, m1, m2, m3⟩ := jleast (P := fun k => t < xS (fun k => L (r k)) k) n (by rw [e]; exact ht)
  cases m with
  | zero => exact absurd m2 (Nat.not_lt_zero _)
  | succ t0 =>
    have m4 := m3 t0 (Nat.lt_succ_self t0)
    have ht0 : t0 < n := by omega
    have he : p (u (r t0)) = r t0 := (hu (r t0) (hf t0 ht0).2).2.2.1
    have hk1 : u (r t0) < n := (hu (r t0) (hf t0 ht0).2).2.1
    have hne : ∀ k, k < u (r t0) → p k ≠ r t0 := fun k hk e2 => by
      have := (hu k (by omega)).2.2.2.1
      rw [e2] at this; omega
    have a1 := (xfind_ba (len := len) hn ht0 (by omega) (by omega) m2 (by rw [e]; omega) hf hL t0 jF 0 (by omega) (jF_gt (by omega))).1
    have a2 := (xfind_ba (len := ml) hn ht0 (by omega) (by omega) m2 (by rw [e]; omega) hf2 hL2 t0 jF 0 (by omega) (jF_gt (by omega))).2
    have b1 := (xbegin_ba (f := f) (len := len) 0 0 hn ht0 hk1 he hne hf hg hL (u (r t0)) jF 0 (by omega) (jF_gt (by omega))).1
    have b2 := (xbegin_ba (f := mf) (len := ml) (nI t) (nI (xS (fun k => L (r k)) t0)) hn ht0 hk1 he hne hf2 hg2 hL2 (u (r t0)) jF 0 (by omega) (jF_gt (by omega))).2
    refine ⟨nI (xS (fun k => L (p k)) (u (r t0))) + nI t - nI (xS (fun k => L (r k)) t0), ?_, ?_⟩
    · unfold jf_Ex_carried_below_above jf_Ex_beginIn_above
      show Option.bind (jf_Ex_carried_below_above_L6 (nI n) len f (nI t) jF (nI (xS (fun k => L (r k)) 0)) (nI 0)) _ = _
      rw [a1]
      show Option.bind (Option.bind (jf_Ex_beginIn_above_L5 (nI n) len g (nI (r t0)) jF (nI (xS (fun k => L (p k)) 0)) (nI 0)) _) _ = _
      rw [b1]
      rfl
    · unfold jf_Mo_goes_below_above
      show Option.bind (jf_Mo_goes_below_above_L6 mf ml (nI t) jF (nI 0) (nI (xS (fun k => L (r k)) 0))) _ = _
      rw [a2]
      show Option.bind (jf_Mo_goes_below_above_L48 mg mf ml (nI t) (nI t0) (nI (xS (fun k => L (r k)) t0)) jF (nI (xS (fun k => L (p k)) 0)) (nI 0)) _ = _
      rw [b2]
      rfl
theorem js_back : jS_back := by
  intro b _ _ _ _ _ _ _ ints len above below th _ _ mints _ _ _ _ _ ma mb ml x1 hI
  have hI0 := hI
  obtain ⟨-, -, -, n, hn, rfl, rfl, ⟨ia, ib, hpa, hpb⟩, hk⟩ := hI0
  have hl : ∀ k, k < n → len k = nI (len k).toNatClampNeg := fun k hkn => by
    obtain ⟨z, z1, z2, z3⟩ := (hk k hkn).2.2.2
    rw [z3, nI_clamp (by omega)]
  have h50 : ∀ k, k < n → (len k).toNatClampNeg ≤ 50 := fun k hkn => by
    obtain ⟨z, z1, z2, z3⟩ := (hk k hkn).2.2.2
    rw [z3, nI_clamp (by omega)]; exact z2
  have hl2 : ∀ k, k < n → ml k = nI (len k).toNatClampNeg := fun k hkn => by rw [(hk k hkn).2.2.1]; exact hl k hkn
  unfold jf_Bi_back jf_Mo_back jf_Ex_originOf
  rw [xc_points (L := fun k => (len k).toNatClampNeg) hn hl]
  simp only [Option.bind]
  rcases xpoint (L := fun k => (len k).toNatClampNeg) hn hl2 h50 th x1 with ⟨t, ht, rfl, e1, e2⟩ | ⟨e1, e2⟩
  · obtain ⟨v, e3, e4⟩ := xgo_ba (t := t) hn hpb hpa hl h50 (fun k hkn => ⟨(hk k hkn).2.1, (hk k hkn).1, (hk k hkn).2.2.1⟩) ht
    refine ⟨(v, 0), ?_, Or.inl ⟨v, ?_, rfl, rfl, hI⟩⟩
    · rw [e2]
      simp only []
      rw [if_neg (show ¬ (1 : Int32) = 0 by decide), e4]
    · rw [e1]
      simp only [jsum]
      rw [e3]
  · rw [e1, e2]
    exact ⟨(0, 1), rfl, Or.inr ⟨rfl, rfl, hI⟩⟩
