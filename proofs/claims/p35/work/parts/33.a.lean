/-! p35: the EXCHANGE in one row: lengths, the order above from 6 on, the order below from 12 on, how many at 18 -/
def eR (e : Nat → Int32) (n : Nat) (L r p : Nat → Nat) : Prop := (∀ k, k < n → e k = nI (L k) ∧ e (6 + k) = nI (r k) ∧ e (12 + k) = nI (p k)) ∧ e 18 = nI n
/-- one of the two orders -/
def eO (e : Nat → Int32) (n a : Nat) (L r : Nat → Nat) : Prop := ∀ k, k < n → e (a + k) = nI (r k) ∧ r k < n ∧ e (r k) = nI (L (r k))
theorem j19 {k : Nat} (h : k < 19) : jin (nI k) 19 = true := jin_nI h (by decide)
theorem e_find {n a t0 t : Nat} {e : Nat → Int32} {L r : Nat → Nat} (hn : n ≤ 6) (ha : a ≤ 12) (hf : eO e n a L r) (ht0 : t0 < n) (ht : t < 2 ^ 20) (hlo : xS (fun k => L (r k)) t0 ≤ t) (hhi : t < xS (fun k => L (r k)) (t0 + 1)) (hb : ∀ k, k < n → L k ≤ 50) (z2 : Int32) : ∀ j m k, k + j = t0 → j < m → jf_Lw_goesTo_L6 e (nI a) z2 m (nI (t - xS (fun k => L (r k)) k)) (nI k) = some (nI (t - xS (fun k => L (r k)) t0), nI t0) := by
  intro j
  induction j with
  | zero =>
    intro m k e0 hm
    obtain ⟨q, rfl⟩ : ∃ q, m = q + 1 := ⟨m - 1, by omega⟩
    have : k = t0 := by omega
    subst this
    obtain ⟨h1, h2, h3⟩ := hf k ht0
    have hs2 : xS (fun k => L (r k)) k + L (r k) = xS (fun k => L (r k)) (k + 1) := rfl
    have h50 := hb _ h2
    rw [jf_Lw_goesTo_L6, nI_add, if_pos (j19 (by omega)), nI_clamp (by omega), h1, if_pos (j19 (by omega)), nI_clamp (by omega), h3, if_pos (nI_lt (by omega) (by omega))]
  | succ j ih =>
    intro m k e0 hm
    obtain ⟨q, rfl⟩ : ∃ q, m = q + 1 := ⟨m - 1, by omega⟩
    obtain ⟨h1, h2, h3⟩ := hf k (by omega)
    have hs2 : xS (fun k => L (r k)) k + L (r k) = xS (fun k => L (r k)) (k + 1) := rfl
    have hs : xS (fun k => L (r k)) (k + 1) ≤ t := by have := xS_mono (fun k => L (r k)) (k + 1) j; rw [show k + 1 + j = t0 by omega] at this; omega
    have h50 := hb _ h2
    rw [jf_Lw_goesTo_L6, nI_add, if_pos (j19 (by omega)), nI_clamp (by omega), h1, if_pos (j19 (by omega)), nI_clamp (by omega), h3, if_neg (nI_nlt (by omega) (by omega)), if_pos (j19 (by omega)), if_pos (j19 (by omega))]
    simp only [jlet]
    rw [pk_sub (by omega), nI_1, show t - xS (fun k => L (r k)) k - L (r k) = t - xS (fun k => L (r k)) (k + 1) by omega]
    exact ih q (k + 1) (by omega) (by omega)
theorem e_begin {n a c t0 k1 o : Nat} {e : Nat → Int32} {L r p : Nat → Nat} (hn : n ≤ 6) (ha : a ≤ 12) (hc : c ≤ 12) (hf : eO e n a L r) (hg : eO e n c L p) (ht0 : t0 < n) (hk1 : k1 < n) (he : p k1 = r t0) (hne : ∀ k, k < k1 → p k ≠ r t0) (hb : ∀ k, k < n → L k ≤ 50) (ho : o < 2 ^ 20) : ∀ j m k, k + j = k1 → j < m → jf_Lw_goesTo_L41 e (nI a) (nI c) (nI t0) m (nI (o + xS (fun k => L (p k)) k)) (nI k) = some (nI (o + xS (fun k => L (p k)) k1)) := by
  intro j
  obtain ⟨f1, f2, -⟩ := hf t0 ht0
  induction j with
  | zero =>
    intro m k e0 hm
    obtain ⟨q, rfl⟩ : ∃ q, m = q + 1 := ⟨m - 1, by omega⟩
    have : k = k1 := by omega
    subst this
    obtain ⟨h1, h2, -⟩ := hg k hk1
    rw [jf_Lw_goesTo_L41, nI_add, nI_add, if_pos (j19 (by omega)), if_pos (j19 (by omega)), nI_clamp (by omega), nI_clamp (by omega), h1, f1, he, if_pos rfl]
  | succ j ih =>
    intro m k e0 hm
    obtain ⟨q, rfl⟩ : ∃ q, m = q + 1 := ⟨m - 1, by omega⟩
    obtain ⟨h1, h2, h3⟩ := hg k (by omega)
    have hs2 : xS (fun k => L (p k)) k + L (p k) = xS (fun k => L (p k)) (k + 1) := rfl
    have hnn : ¬ nI (p k) = nI (r t0) := by rw [nI_eq (by omega) (by omega)]; exact hne k (by omega)
    rw [jf_Lw_goesTo_L41, nI_add, nI_add, if_pos (j19 (by omega)), if_pos (j19 (by omega)), nI_clamp (by omega), nI_clamp (by omega), h1, f1, if_neg hnn, if_pos (j19 (by omega)), if_pos (j19 (by omega)), nI_clamp (by omega), h3]
    simp only [jlet]
    rw [nI_add, nI_1, show o + xS (fun k => L (p k)) k + L (p k) = o + xS (fun k => L (p k)) (k + 1) by omega]
    exact ih q (k + 1) (by omega) (by omega)
theorem e_goes {n a c t : Nat} {e : Nat → Int32} {L r s p u : Nat → Nat} (hn : n ≤ 6) (ha : a ≤ 12) (hc : c ≤ 12) (hf : eO e n a L r) (hg : eO e n c L p) (hr : ∀ k, k < n → r k < n ∧ s k < n ∧ r (s k) = k ∧ s (r k) = k) (hu : ∀ k, k < n → p k < n ∧ u k < n ∧ p (u k) = k ∧ u (p k) = k) (hb : ∀ k, k < n → L k ≤ 50) (ht : t < xS L n) : jf_Lw_goesTo e (nI t) (nI a) (nI c) = some (nI (xI L r p u n t)) := by
  have hs : xS L n ≤ 50 * n := xS_le hb n (Nat.le_refl n)
  have e1 := xS_perm n r s L hr
  obtain ⟨ht0, m4, m2⟩ := xidx_at (g := fun k => L (r k)) (t := t) n (by rw [e1]; exact ht)
  have hI : xI L r p u n t = xS (fun k => L (p k)) (u (r (xidx (fun k => L (r k)) t n))) + (t - xS (fun k => L (r k)) (xidx (fun k => L (r k)) t n)) := rfl
  generalize xidx (fun k => L (r k)) t n = t0 at *
  have hr0 := (hr t0 ht0).1
  have he : p (u (r t0)) = r t0 := (hu (r t0) hr0).2.2.1
  have hk1 : u (r t0) < n := (hu (r t0) hr0).2.1
  have hne : ∀ k, k < u (r t0) → p k ≠ r t0 := fun k hk e2 => by
    have := (hu k (by omega)).2.2.2
    rw [e2] at this; omega
  have a1 := e_find hn ha hf ht0 (by omega) m4 m2 hb (nI c) t0 jF 0 (by omega) (jF_gt (by omega))
  have b1 := e_begin (o := t - xS (fun k => L (r k)) t0) hn ha hc hf hg ht0 hk1 he hne hb (by omega) (u (r t0)) jF 0 (by omega) (jF_gt (by omega))
  unfold jf_Lw_goesTo
  rw [show jf_Lw_goesTo_L6 e (nI a) (nI c) jF (nI t) 0 = some (nI (t - xS (fun k => L (r k)) t0), nI t0) from a1]
  simp only [Option.bind]
  rw [show jf_Lw_goesTo_L41 e (nI a) (nI c) (nI t0) jF (nI (t - xS (fun k => L (r k)) t0)) 0 = some (nI (t - xS (fun k => L (r k)) t0 + xS (fun k => L (p k)) (u (r t0)))) from b1, hI, Nat.add_comm]
/-- what the class answers of images, by numbers alone -/
def xOk (n : Nat) (len above below : Nat → Int32) (L r s p u : Nat → Nat) : Prop := (∀ k, k < n → r k < n ∧ s k < n ∧ r (s k) = k ∧ s (r k) = k ∧ above k = nI (r k)) ∧ (∀ k, k < n → p k < n ∧ u k < n ∧ p (u k) = k ∧ u (p k) = k ∧ below k = nI (p k)) ∧ (∀ k, k < n → len k = nI (L k)) ∧ ∀ k, k < n → 1 ≤ L k ∧ L k ≤ 50
theorem xOk_eO {n : Nat} {len above below e : Nat → Int32} {L r s p u : Nat → Nat} (h : xOk n len above below L r s p u) (he : eR e n L r p) : eO e n 6 L r ∧ eO e n 12 L p :=
  ⟨fun k hk => ⟨(he.1 k hk).2.1, (h.1 k hk).1, (he.1 _ (h.1 k hk).1).1⟩, fun k hk => ⟨(he.1 k hk).2.2, (h.2.1 k hk).1, (he.1 _ (h.2.1 k hk).1).1⟩⟩
theorem c_image {n t : Nat} {len above below : Nat → Int32} {L r s p u : Nat → Nat} (hn : n ≤ 6) (h : xOk n len above below L r s p u) (ht : t < xS L n) : jf_Ex_imageOf (nI n) len above below (nI t) = some (nI (xI L r p u n t)) := by
  unfold jf_Ex_imageOf
  rw [(xgo_abI (mf := above) (mg := below) (ml := len) hn h.1 h.2.1 h.2.2.1 (fun k hk => (h.2.2.2 k hk).2) (fun k hk => ⟨rfl, rfl, rfl⟩) ht).1]
  rfl
theorem c_place {x : Int32} {n : Nat} (h0 : 0 ≤ x) (h : x < nI n) : jf_Bi_checkPlace x (nI n) = .inl () := by
  unfold jf_Bi_checkPlace
  rw [if_neg (Int32.not_lt.mpr h0), if_pos h]
theorem c_noplace {x : Int32} {n : Nat} (h : x < 0 ∨ ¬ x < nI n) : jf_Bi_checkPlace x (nI n) = .inr eI := by
  unfold jf_Bi_checkPlace jf_Bi_checkPlace_b9
  by_cases c : x < 0
  · rw [if_pos c]
  · rw [if_neg c, if_neg (h.elim (fun z => absurd z c) id)]
theorem x_image {n t : Nat} {len above below : Nat → Int32} {L r s p u : Nat → Nat} (hn : n ≤ 6) (h : xOk n len above below L r s p u) (ht : t < xS L n) : jf_Lw_image (nI n) len above below (nI t) = some (nI (xI L r p u n t)) := by
  have hs : xS L n ≤ 50 * n := xS_le (fun k hk => (h.2.2.2 k hk).2) n (Nat.le_refl n)
  unfold jf_Lw_image jf_Bi_image
  rw [xc_points hn h.2.2.1]
  simp only [Option.bind]
  rw [c_place (nI_pos' (by omega)) (nI_lt ht (by omega))]
  simp only [jsum]
  rw [c_image hn h ht]
  rfl
theorem x_imageOut {n : Nat} {len above below : Nat → Int32} {L r s p u : Nat → Nat} (hn : n ≤ 6) (h : xOk n len above below L r s p u) : jf_Lw_image (nI n) len above below (nI (xS L n)) = some (-7100) := by
  have hs : xS L n ≤ 50 * n := xS_le (fun k hk => (h.2.2.2 k hk).2) n (Nat.le_refl n)
  unfold jf_Lw_image jf_Bi_image
  rw [xc_points hn h.2.2.1]
  simp only [Option.bind]
  rw [c_noplace (Or.inr (nI_nlt (Nat.le_refl _) (by omega)))]
  rfl
theorem x_backOut {n : Nat} {len above below : Nat → Int32} {L r s p u : Nat → Nat} (hn : n ≤ 6) (h : xOk n len above below L r s p u) : jf_Lw_back (nI n) len above below (-1) = some (-7100) := by
  unfold jf_Lw_back jf_Bi_back
  rw [xc_points hn h.2.2.1]
  simp only [Option.bind]
  rw [c_noplace (Or.inl (by decide))]
  rfl
theorem c_back {n t : Nat} {len above below : Nat → Int32} {L r s p u : Nat → Nat} (hn : n ≤ 6) (h : xOk n len above below L r s p u) (ht : t < xS L n) : jf_Ex_originOf (nI n) len above below (nI t) = some (nI (xI L p r s n t)) := by
  obtain ⟨hr, hu, hL, h50⟩ := h
  have hs : xS L n ≤ 50 * n := xS_le (fun k hk => (h50 k hk).2) n (Nat.le_refl n)
  have e := xS_perm n p u L (fun k hk => ⟨(hu k hk).1, (hu k hk).2.1, (hu k hk).2.2.1, (hu k hk).2.2.2.1⟩)
  have hf : ∀ k, k < n → below k = nI (p k) ∧ p k < n := fun k hk => ⟨(hu k hk).2.2.2.2, (hu k hk).1⟩
  have hg : ∀ k, k < n → above k = nI (r k) ∧ r k < n := fun k hk => ⟨(hr k hk).2.2.2.2, (hr k hk).1⟩
  obtain ⟨ht0, m4, m2⟩ := xidx_at (g := fun k => L (p k)) (t := t) n (by rw [e]; exact ht)
  have hI : xI L p r s n t = xS (fun k => L (r k)) (s (p (xidx (fun k => L (p k)) t n))) + (t - xS (fun k => L (p k)) (xidx (fun k => L (p k)) t n)) := rfl
  generalize xidx (fun k => L (p k)) t n = t0 at *
  have he : r (s (p t0)) = p t0 := (hr (p t0) (hf t0 ht0).2).2.2.1
  have hk1 : s (p t0) < n := (hr (p t0) (hf t0 ht0).2).2.1
  have hne : ∀ k, k < s (p t0) → r k ≠ p t0 := fun k hk e2 => by
    have := (hr k (by omega)).2.2.2.1
    rw [e2] at this; omega
  have a1 := (xfind_ba (len := len) hn ht0 (by omega) (by omega) m2 (by rw [e]; omega) hf hL t0 jF 0 (by omega) (jF_gt (by omega))).1
  have b1 := (xbegin_ba (f := below) (len := len) 0 0 hn ht0 hk1 he hne hf hg hL (s (p t0)) jF 0 (by omega) (jF_gt (by omega))).1
  have hv : nI (xS (fun k => L (r k)) (s (p t0))) + nI t - nI (xS (fun k => L (p k)) t0) = nI (xI L p r s n t) := by
    rw [nI_add, pk_sub (by omega), hI, Nat.add_sub_assoc m4]
  unfold jf_Ex_originOf jf_Ex_carried_below_above jf_Ex_beginIn_above
  rw [show jf_Ex_carried_below_above_L6 (nI n) len below (nI t) jF 0 0 = some (.inl (nI (xS (fun k => L (p k)) t0), nI (p t0))) from a1]
  simp only [Option.bind, jsum]
  rw [show jf_Ex_beginIn_above_L5 (nI n) len above (nI (p t0)) jF 0 0 = some (nI (xS (fun k => L (r k)) (s (p t0)))) from b1]
  simp only []
  rw [hv]
theorem x_back {n t : Nat} {len above below : Nat → Int32} {L r s p u : Nat → Nat} (hn : n ≤ 6) (h : xOk n len above below L r s p u) (ht : t < xS L n) : jf_Lw_back (nI n) len above below (nI t) = some (nI (xI L p r s n t)) := by
  have hs : xS L n ≤ 50 * n := xS_le (fun k hk => (h.2.2.2 k hk).2) n (Nat.le_refl n)
  unfold jf_Lw_back jf_Bi_back
  rw [xc_points hn h.2.2.1]
  simp only [Option.bind]
  rw [c_place (nI_pos' (by omega)) (nI_lt ht (by omega))]
  simp only [jsum]
  rw [c_back hn h ht]
  rfl
