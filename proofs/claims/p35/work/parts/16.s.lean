/-- where point t lies -/
theorem xfind_ab {n t0 t : Nat} {len f : Nat → Int32} {L r : Nat → Nat} (hn : n ≤ 6) (ht0 : t0 < n) (ht : t < 2 ^ 20) (hlo : xS (fun k => L (r k)) t0 ≤ t) (hhi : t < xS (fun k => L (r k)) (t0 + 1)) (hb : xS (fun k => L (r k)) n < 2 ^ 20) (hf : ∀ k, k < n → f k = nI (r k) ∧ r k < n) (hL : ∀ k, k < n → len k = nI (L k)) : ∀ j m k, k + j = t0 → j < m → jf_Ex_carried_above_below_L6 (nI n) len f (nI t) m (nI (xS (fun k => L (r k)) k)) (nI k) = some (.inl (nI (xS (fun k => L (r k)) t0), nI (r t0))) ∧ jf_Mo_goes_above_below_L6 f len (nI t) m (nI k) (nI (xS (fun k => L (r k)) k)) = some (nI t0, nI (xS (fun k => L (r k)) t0)) := by
  intro j
  induction j with
  | zero =>
    intro m k e hm
    obtain ⟨q, rfl⟩ : ∃ q, m = q + 1 := ⟨m - 1, by omega⟩
    have : k = t0 := by omega
    subst this
    obtain ⟨h1, h2⟩ := hf k ht0
    have hs : xS (fun k => L (r k)) (k + 1) < 2 ^ 20 := by have := xS_mono (fun k => L (r k)) (k + 1) (n - (k + 1)); rw [show k + 1 + (n - (k + 1)) = n by omega] at this; omega
    have hs2 : xS (fun k => L (r k)) k + L (r k) = xS (fun k => L (r k)) (k + 1) := rfl
    constructor
    · rw [jf_Ex_carried_above_below_L6, if_neg (nI_ge ht0 (by omega)), jat_nI f (by omega) (by decide), h1, ]
      simp only [jlet]
      rw [jat_nI len (by omega) (by decide), hL _ h2, nI_add, hs2, if_neg (nI_ge hhi (by omega))]
    · rw [jf_Mo_goes_above_below_L6, if_pos (jin_nI (n := 6) (by omega) (by decide)), nI_clamp (by omega), h1, if_pos (jin_nI (n := 6) (by omega) (by decide)), nI_clamp (by omega), hL _ h2, nI_add, hs2, if_pos (nI_lt hhi (by omega))]
  | succ j ih =>
    intro m k e hm
    obtain ⟨q, rfl⟩ : ∃ q, m = q + 1 := ⟨m - 1, by omega⟩
    obtain ⟨h1, h2⟩ := hf k (by omega)
    have hs2 : xS (fun k => L (r k)) k + L (r k) = xS (fun k => L (r k)) (k + 1) := rfl
    have hs : xS (fun k => L (r k)) (k + 1) ≤ t := by have := xS_mono (fun k => L (r k)) (k + 1) j; rw [show k + 1 + j = t0 by omega] at this; omega
    obtain ⟨i1, i2⟩ := ih q (k + 1) (by omega) (by omega)
    constructor
    · rw [jf_Ex_carried_above_below_L6, if_neg (nI_ge (by omega) (by omega)), jat_nI f (by omega) (by decide), h1]
      simp only [jlet]
      rw [jat_nI len (by omega) (by decide), hL _ h2, nI_add, hs2, if_pos (nI_le hs (by omega)), nI_1]
      exact i1
    · rw [jf_Mo_goes_above_below_L6, if_pos (jin_nI (n := 6) (by omega) (by decide)), nI_clamp (by omega), h1, if_pos (jin_nI (n := 6) (by omega) (by decide)), nI_clamp (by omega), hL _ h2, nI_add, hs2, if_neg (nI_nlt hs (by omega)), if_pos (jin_nI (n := 6) (by omega) (by decide)), if_pos (jin_nI (n := 6) (by omega) (by decide))]
      simp only [jlet]
      rw [nI_1]
      exact i2
/-- where an interval begins in the other row -/
theorem xbegin_ab {n t0 k1 : Nat} {len f g : Nat → Int32} {L r p : Nat → Nat} (z1 z5 : Int32) (hn : n ≤ 6) (ht0 : t0 < n) (hk1 : k1 < n) (he : p k1 = r t0) (hne : ∀ k, k < k1 → p k ≠ r t0) (hf : ∀ k, k < n → f k = nI (r k) ∧ r k < n) (hg : ∀ k, k < n → g k = nI (p k) ∧ p k < n) (hL : ∀ k, k < n → len k = nI (L k)) : ∀ j m k, k + j = k1 → j < m → jf_Ex_beginIn_below_L5 (nI n) len g (nI (r t0)) m (nI (xS (fun k => L (p k)) k)) (nI k) = some (nI (xS (fun k => L (p k)) k1)) ∧ jf_Mo_goes_above_below_L48 f g len z1 (nI t0) z5 m (nI (xS (fun k => L (p k)) k)) (nI k) = some (nI (xS (fun k => L (p k)) k1)) := by
  intro j
  obtain ⟨f1, f2⟩ := hf t0 ht0
  induction j with
  | zero =>
    intro m k e hm
    obtain ⟨q, rfl⟩ : ∃ q, m = q + 1 := ⟨m - 1, by omega⟩
    have : k = k1 := by omega
    subst this
    obtain ⟨h1, h2⟩ := hg k hk1
    constructor
    · rw [jf_Ex_beginIn_below_L5, if_neg (nI_ge hk1 (by omega)), jat_nI g (by omega) (by decide), h1, he, if_pos rfl]
    · rw [jf_Mo_goes_above_below_L48, if_pos (jin_nI (n := 6) (by omega) (by decide)), if_pos (jin_nI (n := 6) (by omega) (by decide)), nI_clamp (by omega), nI_clamp (by omega), h1, f1, he, if_pos rfl]
  | succ j ih =>
    intro m k e hm
    obtain ⟨q, rfl⟩ : ∃ q, m = q + 1 := ⟨m - 1, by omega⟩
    obtain ⟨h1, h2⟩ := hg k (by omega)
    have hs2 : xS (fun k => L (p k)) k + L (p k) = xS (fun k => L (p k)) (k + 1) := rfl
    have hnn : ¬ nI (p k) = nI (r t0) := by rw [nI_eq (by omega) (by omega)]; exact hne k (by omega)
    obtain ⟨i1, i2⟩ := ih q (k + 1) (by omega) (by omega)
    constructor
    · rw [jf_Ex_beginIn_below_L5, if_neg (nI_ge (by omega) (by omega)), jat_nI g (by omega) (by decide), h1, if_neg hnn]
      simp only [jlet]
      rw [jat_nI len (by omega) (by decide), hL _ h2, nI_add, hs2, nI_1]
      exact i1
    · rw [jf_Mo_goes_above_below_L48, if_pos (jin_nI (n := 6) (by omega) (by decide)), if_pos (jin_nI (n := 6) (by omega) (by decide)), nI_clamp (by omega), nI_clamp (by omega), h1, f1, if_neg hnn, if_pos (jin_nI (n := 6) (by omega) (by decide)), if_pos (jin_nI (n := 6) (by omega) (by decide)), nI_clamp (by omega), hL _ h2]
      simp only [jlet]
      rw [nI_add, hs2, nI_1]
      exact i2
/-- where point t lies -/
theorem xfind_ba {n t0 t : Nat} {len f : Nat → Int32} {L r : Nat → Nat} (hn : n ≤ 6) (ht0 : t0 < n) (ht : t < 2 ^ 20) (hlo : xS (fun k => L (r k)) t0 ≤ t) (hhi : t < xS (fun k => L (r k)) (t0 + 1)) (hb : xS (fun k => L (r k)) n < 2 ^ 20) (hf : ∀ k, k < n → f k = nI (r k) ∧ r k < n) (hL : ∀ k, k < n → len k = nI (L k)) : ∀ j m k, k + j = t0 → j < m → jf_Ex_carried_below_above_L6 (nI n) len f (nI t) m (nI (xS (fun k => L (r k)) k)) (nI k) = some (.inl (nI (xS (fun k => L (r k)) t0), nI (r t0))) ∧ jf_Mo_goes_below_above_L6 f len (nI t) m (nI k) (nI (xS (fun k => L (r k)) k)) = some (nI t0, nI (xS (fun k => L (r k)) t0)) := by
  intro j
  induction j with
  | zero =>
    intro m k e hm
    obtain ⟨q, rfl⟩ : ∃ q, m = q + 1 := ⟨m - 1, by omega⟩
    have : k = t0 := by omega
    subst this
    obtain ⟨h1, h2⟩ := hf k ht0
    have hs : xS (fun k => L (r k)) (k + 1) < 2 ^ 20 := by have := xS_mono (fun k => L (r k)) (k + 1) (n - (k + 1)); rw [show k + 1 + (n - (k + 1)) = n by omega] at this; omega
    have hs2 : xS (fun k => L (r k)) k + L (r k) = xS (fun k => L (r k)) (k + 1) := rfl
    constructor
    · rw [jf_Ex_carried_below_above_L6, if_neg (nI_ge ht0 (by omega)), jat_nI f (by omega) (by decide), h1, ]
      simp only [jlet]
      rw [jat_nI len (by omega) (by decide), hL _ h2, nI_add, hs2, if_neg (nI_ge hhi (by omega))]
    · rw [jf_Mo_goes_below_above_L6, if_pos (jin_nI (n := 6) (by omega) (by decide)), nI_clamp (by omega), h1, if_pos (jin_nI (n := 6) (by omega) (by decide)), nI_clamp (by omega), hL _ h2, nI_add, hs2, if_pos (nI_lt hhi (by omega))]
  | succ j ih =>
    intro m k e hm
    obtain ⟨q, rfl⟩ : ∃ q, m = q + 1 := ⟨m - 1, by omega⟩
    obtain ⟨h1, h2⟩ := hf k (by omega)
    have hs2 : xS (fun k => L (r k)) k + L (r k) = xS (fun k => L (r k)) (k + 1) := rfl
    have hs : xS (fun k => L (r k)) (k + 1) ≤ t := by have := xS_mono (fun k => L (r k)) (k + 1) j; rw [show k + 1 + j = t0 by omega] at this; omega
    obtain ⟨i1, i2⟩ := ih q (k + 1) (by omega) (by omega)
    constructor
    · rw [jf_Ex_carried_below_above_L6, if_neg (nI_ge (by omega) (by omega)), jat_nI f (by omega) (by decide), h1]
      simp only [jlet]
      rw [jat_nI len (by omega) (by decide), hL _ h2, nI_add, hs2, if_pos (nI_le hs (by omega)), nI_1]
      exact i1
    · rw [jf_Mo_goes_below_above_L6, if_pos (jin_nI (n := 6) (by omega) (by decide)), nI_clamp (by omega), h1, if_pos (jin_nI (n := 6) (by omega) (by decide)), nI_clamp (by omega), hL _ h2, nI_add, hs2, if_neg (nI_nlt hs (by omega)), if_pos (jin_nI (n := 6) (by omega) (by decide)), if_pos (jin_nI (n := 6) (by omega) (by decide))]
      simp only [jlet]
      rw [nI_1]
      exact i2
/-- where an interval begins in the other row -/
theorem xbegin_ba {n t0 k1 : Nat} {len f g : Nat → Int32} {L r p : Nat → Nat} (z1 z5 : Int32) (hn : n ≤ 6) (ht0 : t0 < n) (hk1 : k1 < n) (he : p k1 = r t0) (hne : ∀ k, k < k1 → p k ≠ r t0) (hf : ∀ k, k < n → f k = nI (r k) ∧ r k < n) (hg : ∀ k, k < n → g k = nI (p k) ∧ p k < n) (hL : ∀ k, k < n → len k = nI (L k)) : ∀ j m k, k + j = k1 → j < m → jf_Ex_beginIn_above_L5 (nI n) len g (nI (r t0)) m (nI (xS (fun k => L (p k)) k)) (nI k) = some (nI (xS (fun k => L (p k)) k1)) ∧ jf_Mo_goes_below_above_L48 g f len z1 (nI t0) z5 m (nI (xS (fun k => L (p k)) k)) (nI k) = some (nI (xS (fun k => L (p k)) k1)) := by
  intro j
  obtain ⟨f1, f2⟩ := hf t0 ht0
  induction j with
  | zero =>
    intro m k e hm
    obtain ⟨q, rfl⟩ : ∃ q, m = q + 1 := ⟨m - 1, by omega⟩
    have : k = k1 := by omega
    subst this
    obtain ⟨h1, h2⟩ := hg k hk1
    constructor
    · rw [jf_Ex_beginIn_above_L5, if_neg (nI_ge hk1 (by omega)), jat_nI g (by omega) (by decide), h1, he, if_pos rfl]
    · rw [jf_Mo_goes_below_above_L48, if_pos (jin_nI (n := 6) (by omega) (by decide)), if_pos (jin_nI (n := 6) (by omega) (by decide)), nI_clamp (by omega), nI_clamp (by omega), h1, f1, he, if_pos rfl]
  | succ j ih =>
    intro m k e hm
    obtain ⟨q, rfl⟩ : ∃ q, m = q + 1 := ⟨m - 1, by omega⟩
    obtain ⟨h1, h2⟩ := hg k (by omega)
    have hs2 : xS (fun k => L (p k)) k + L (p k) = xS (fun k => L (p k)) (k + 1) := rfl
    have hnn : ¬ nI (p k) = nI (r t0) := by rw [nI_eq (by omega) (by omega)]; exact hne k (by omega)
    obtain ⟨i1, i2⟩ := ih q (k + 1) (by omega) (by omega)
    constructor
    · rw [jf_Ex_beginIn_above_L5, if_neg (nI_ge (by omega) (by omega)), jat_nI g (by omega) (by decide), h1, if_neg hnn]
      simp only [jlet]
      rw [jat_nI len (by omega) (by decide), hL _ h2, nI_add, hs2, nI_1]
      exact i1
    · rw [jf_Mo_goes_below_above_L48, if_pos (jin_nI (n := 6) (by omega) (by decide)), if_pos (jin_nI (n := 6) (by omega) (by decide)), nI_clamp (by omega), nI_clamp (by omega), h1, f1, if_neg hnn, if_pos (jin_nI (n := 6) (by omega) (by decide)), if_pos (jin_nI (n := 6) (by omega) (by decide)), nI_clamp (by omega), hL _ h2]
      simp only [jlet]
      rw [nI_add, hs2, nI_1]
      exact i2

