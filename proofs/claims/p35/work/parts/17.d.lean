theorem jmax_n {a b : Nat} (ha : a < 2 ^ 31) (hb : b < 2 ^ 31) : jmax (nI a) (nI b) = nI (max a b) := by
  unfold jmax
  by_cases c : a < b
  · rw [if_pos (nI_lt c hb)]; congr 1; omega
  · rw [if_neg (nI_nlt (by omega) ha)]; congr 1; omega
theorem jmin_n {a b : Nat} (ha : a < 2 ^ 31) (hb : b < 2 ^ 31) : jmin (nI a) (nI b) = nI (min a b) := by
  unfold jmin
  by_cases c : b < a
  · rw [if_pos (nI_lt c ha)]; congr 1; omega
  · rw [if_neg (nI_nlt (by omega) hb)]; congr 1; omega
theorem lc_col (b : Int64) {x y ox oy u : Nat} (h1 : x < 8) (h2 : y < 8) (h3 : ox < 8) (h4 : oy < 8) (hu : u < 8) : ∀ j k m, k + j = max y oy + 1 → j < m → ∃ g : Bool, jf_La_isFreeBetween_L25 b (nI x) (nI y) (nI ox) (nI oy) (nI u) m (nI k) = some (if g then .inr () else .inl ()) ∧ (g = true ↔ ∀ v, k ≤ v → v ≤ max y oy → lMet x y ox oy u v = true → jbit b (u + 8 * v) = false) := by
  intro j
  induction j with
  | zero =>
    intro k m e hm
    obtain ⟨q, rfl⟩ : ∃ q, m = q + 1 := ⟨m - 1, by omega⟩
    refine ⟨true, ?_, fun _ v a1 a2 => by omega, fun _ => rfl⟩
    rw [jf_La_isFreeBetween_L25, jmax_n (by omega) (by omega), if_pos (nI_lt (by omega) (by omega))]
    rfl
  | succ j ih =>
    intro k m e hm
    obtain ⟨q, rfl⟩ : ∃ q, m = q + 1 := ⟨m - 1, by omega⟩
    have hk : k < 8 := by omega
    obtain ⟨g, e1, e2⟩ := ih (k + 1) q (by omega) (by omega)
    rw [jf_La_isFreeBetween_L25, jmax_n (by omega) (by omega), if_neg (nI_nlt (by omega) (by omega)), jbl_block b hu hk (lcell u hu k hk).1, lc_met h1 h2 h3 h4 hu hk]
    unfold jf_La_isFreeBetween_b70
    rw [nI_1]
    have step : (jbit b (u + 8 * k) = true → ¬ lMet x y ox oy u k = true) → (g = true ↔ ∀ v, k ≤ v → v ≤ max y oy → lMet x y ox oy u v = true → jbit b (u + 8 * v) = false) := by
      intro hn
      rw [e2]
      constructor
      · intro h v a1 a2 a3
        by_cases c0 : v = k
        · subst c0
          cases hb : jbit b (u + 8 * v) with
          | false => rfl
          | true => exact absurd a3 (hn hb)
        · exact h v (by omega) a2 a3
      · intro h v a1 a2 a3
        exact h v (by omega) a2 a3
    cases hb : jbit b (u + 8 * k) with
    | false =>
      rw [if_pos (by decide)]
      exact ⟨g, e1, step (fun h => by rw [hb] at h; cases h)⟩
    | true =>
      rw [if_neg (by decide)]
      cases hc : lMet x y ox oy u k with
      | true =>
        rw [if_neg (by decide)]
        refine ⟨false, rfl, ?_⟩
        constructor
        · intro h; cases h
        · intro h
          have := h k (Nat.le_refl k) (by omega) hc
          rw [hb] at this; cases this
      | false =>
        rw [if_pos (by decide)]
        exact ⟨g, e1, step (fun _ h => by rw [hc] at h; cases h)⟩
theorem lc_rect (b : Int64) {x y ox oy : Nat} (h1 : x < 8) (h2 : y < 8) (h3 : ox < 8) (h4 : oy < 8) : ∀ j k m, k + j = max x ox + 1 → j < m → ∃ g : Bool, jf_La_isFreeBetween_L7 b (nI x) (nI y) (nI ox) (nI oy) m (nI k) = some (if g then .inr () else .inl ()) ∧ (g = true ↔ ∀ u v, k ≤ u → u ≤ max x ox → min y oy ≤ v → v ≤ max y oy → lMet x y ox oy u v = true → jbit b (u + 8 * v) = false) := by
  intro j
  induction j with
  | zero =>
    intro k m e hm
    obtain ⟨q, rfl⟩ : ∃ q, m = q + 1 := ⟨m - 1, by omega⟩
    refine ⟨true, ?_, fun _ u v a1 a2 => by omega, fun _ => rfl⟩
    rw [jf_La_isFreeBetween_L7, jmax_n (by omega) (by omega), if_pos (nI_lt (by omega) (by omega))]
    rfl
  | succ j ih =>
    intro k m e hm
    obtain ⟨q, rfl⟩ : ∃ q, m = q + 1 := ⟨m - 1, by omega⟩
    have hk : k < 8 := by omega
    obtain ⟨g, e1, e2⟩ := ih (k + 1) q (by omega) (by omega)
    obtain ⟨g1, f1, f2⟩ := lc_col b h1 h2 h3 h4 hk (max y oy + 1 - min y oy) (min y oy) jF (by omega) (jF_gt (by omega))
    rw [jf_La_isFreeBetween_L7, jmax_n (by omega) (by omega), if_neg (nI_nlt (by omega) (by omega)), jmin_n (by omega) (by omega)]
    simp only [jlet]
    rw [f1]
    simp only [Option.bind]
    cases g1 with
    | false =>
      refine ⟨false, rfl, ?_⟩
      constructor
      · intro h; cases h
      · intro h
        exact f2.2 (fun v a1 a2 a3 => h k v (Nat.le_refl k) (by omega) a1 a2 a3)
    | true =>
      refine ⟨g, ?_, ?_⟩
      · show jf_La_isFreeBetween_L7 b (nI x) (nI y) (nI ox) (nI oy) q (nI k + 1) = _
        rw [nI_1]; exact e1
      · rw [e2]
        constructor
        · intro h u v a1 a2 a3 a4 a5
          by_cases c0 : u = k
          · subst c0; exact f2.1 rfl v a3 a4 a5
          · exact h u v (by omega) a2 a3 a4 a5
        · intro h u v a1 a2 a3 a4 a5
          exact h u v (by omega) a2 a3 a4 a5
theorem lc_sight (b : Int64) {x y ox oy : Nat} (h1 : x < 8) (h2 : y < 8) (h3 : ox < 8) (h4 : oy < 8) : ∃ g : Bool, jf_La_isFreeBetween b (nI x) (nI y) (nI ox) (nI oy) = some (if g then 1 else 0) ∧ (g = true ↔ lFree (jbit b) x y ox oy) := by
  obtain ⟨g, e1, e2⟩ := lc_rect b h1 h2 h3 h4 (max x ox + 1 - min x ox) (min x ox) jF (by omega) (jF_gt (by omega))
  refine ⟨g, ?_, e2⟩
  unfold jf_La_isFreeBetween
  simp only [jlet]
  rw [jmin_n (by omega) (by omega), e1]
  cases g <;> rfl
