theorem lm_loop {isB : Nat → Int32} {B : Nat → Bool} (hB : jBl isB B) {x y ox oy : Nat} (h1 : x < 8) (h2 : y < 8) (h3 : ox < 8) (h4 : oy < 8) : ∀ j k m, k + j = 64 → j + 1 < m → ∃ g : Bool, jf_Mo_areInSight_L29 isB (nI x) (nI y) (nI ox) (nI oy) m 1 (nI k) = some (if g then 1 else 0) ∧ (g = true ↔ ∀ c, k ≤ c → c < 64 → (min x ox ≤ c % 8 ∧ c % 8 ≤ max x ox ∧ min y oy ≤ c / 8 ∧ c / 8 ≤ max y oy) ∧ lMet x y ox oy (c % 8) (c / 8) = true → B c = false) := by
  intro j
  induction j with
  | zero =>
    intro k m e hm
    obtain ⟨q, rfl⟩ : ∃ q, m = q + 1 := ⟨m - 1, by omega⟩
    have : k = 64 := by omega
    subst this
    exact ⟨true, by rw [jf_Mo_areInSight_L29, if_pos (show (64 : Int32) ≤ nI 64 by decide)]; rfl, fun _ c h1 h2 => by omega, fun _ => rfl⟩
  | succ j ih =>
    intro k m e hm
    obtain ⟨q, rfl⟩ : ∃ q, m = q + 1 := ⟨m - 1, by omega⟩
    have hk : k < 64 := by omega
    obtain ⟨g, e1, e2⟩ := ih (k + 1) q (by omega) (by omega)
    rw [jf_Mo_areInSight_L29, if_neg (show ¬ (64 : Int32) ≤ nI k from nI_ge (b := 64) hk (by decide)), if_neg (show ¬ (1 : Int32) = 0 by decide), if_pos (jin_nI (n := 64) hk (by decide)), nI_clamp (by omega), hB k hk, show (8 : Int32) = nI 8 from rfl, pk_rem (by omega) (by omega) (by omega), pk_div (by omega) (by omega) (by omega), lm_met h1 h2 h3 h4 (by omega) (by omega)]
    unfold jf_Mo_areInSight_b72 jf_Mo_areInSight_b77
    rw [nI_1]
    have step : (B k = true → ¬ ((min x ox ≤ k % 8 ∧ k % 8 ≤ max x ox ∧ min y oy ≤ k / 8 ∧ k / 8 ≤ max y oy) ∧ lMet x y ox oy (k % 8) (k / 8) = true)) → (g = true ↔ ∀ c, k ≤ c → c < 64 → (min x ox ≤ c % 8 ∧ c % 8 ≤ max x ox ∧ min y oy ≤ c / 8 ∧ c / 8 ≤ max y oy) ∧ lMet x y ox oy (c % 8) (c / 8) = true → B c = false) := by
      intro hn
      rw [e2]
      constructor
      · intro h c hc1 hc2 hc3
        by_cases c0 : c = k
        · subst c0
          cases hb : B c with
          | false => rfl
          | true => exact absurd hc3 (hn hb)
        · exact h c (by omega) hc2 hc3
      · intro h c hc1 hc2 hc3
        exact h c (by omega) hc2 hc3
    cases hb : B k with
    | false =>
      rw [if_pos (by decide)]
      exact ⟨g, e1, step (fun h => by rw [hb] at h; cases h)⟩
    | true =>
      rw [if_neg (by decide)]
      by_cases hc : (min x ox ≤ k % 8 ∧ k % 8 ≤ max x ox ∧ min y oy ≤ k / 8 ∧ k / 8 ≤ max y oy) ∧ lMet x y ox oy (k % 8) (k / 8) = true
      · rw [if_pos hc, if_neg (by decide)]
        refine ⟨false, ?_, ?_⟩
        · obtain ⟨q2, rfl⟩ : ∃ q2, q = q2 + 1 := ⟨q - 1, by omega⟩
          rw [jf_Mo_areInSight_L29, if_pos rfl]
          split <;> rfl
        · constructor
          · intro h; cases h
          · intro h
            have := h k (Nat.le_refl k) hk hc
            rw [hb] at this; cases this
      · rw [if_neg hc, if_pos rfl]
        exact ⟨g, e1, step (fun _ => hc)⟩
theorem lm_sight {isB : Nat → Int32} {B : Nat → Bool} (hB : jBl isB B) {x y ox oy : Nat} (h1 : x < 8) (h2 : y < 8) (h3 : ox < 8) (h4 : oy < 8) : ∃ g : Bool, jf_Mo_areInSight isB (nI x) (nI y) (nI ox) (nI oy) = some (if g then 1 else 0) ∧ (g = true ↔ lFree B x y ox oy) := by
  unfold jf_Mo_areInSight jf_Mo_areInSight_b23 jf_Mo_areInSight_b24
  have hz : jf_Mo_areInSight_L29 isB (nI x) (nI y) (nI ox) (nI oy) jF 0 0 = some 0 := by
    have hj : jF = (jF - 1) + 1 := by have := jF_gt (n := 1) (by omega); omega
    rw [hj, jf_Mo_areInSight_L29, if_pos rfl]
    split <;> rfl
  rw [hz, jbl_floor hB h1 h2 (lcell x h1 y h2).2, jbl_floor hB h3 h4 (lcell ox h3 oy h4).2]
  cases hb : B (x + 8 * y) with
  | true =>
    refine ⟨false, rfl, ?_⟩
    constructor
    · intro h; cases h
    · intro h
      have := h x y (by omega) (by omega) (by omega) (by omega) (lMet_0 x y ox oy)
      rw [hb] at this; cases this
  | false =>
    cases hb2 : B (ox + 8 * oy) with
    | true =>
      refine ⟨false, rfl, ?_⟩
      constructor
      · intro h; cases h
      · intro h
        have := h ox oy (by omega) (by omega) (by omega) (by omega) (lMet_1 x y ox oy)
        rw [hb2] at this; cases this
    | false =>
      obtain ⟨g, e1, e2⟩ := lm_loop hB h1 h2 h3 h4 64 0 jF (by omega) (jF_gt (by omega))
      refine ⟨g, ?_, ?_⟩
      · simp only [Option.bind]
        rw [if_neg (show ¬ (if false = true then (0 : Int32) else 1) = 0 by decide), show (0 : Int32) = nI 0 from rfl, e1]
        cases g <;> rfl
      · rw [e2]
        constructor
        · intro h u v a1 a2 a3 a4 a5
          have hu : u < 8 := by omega
          have hv : v < 8 := by omega
          have q1 : (u + 8 * v) % 8 = u := by omega
          have q2 : (u + 8 * v) / 8 = v := by omega
          refine h (u + 8 * v) (by omega) (by omega) ?_
          rw [q1, q2]
          exact ⟨⟨a1, a2, a3, a4⟩, a5⟩
        · intro h c _ c2 c3
          have := h (c % 8) (c / 8) c3.1.1 c3.1.2.1 c3.1.2.2.1 c3.1.2.2.2 c3.2
          rwa [show c % 8 + 8 * (c / 8) = c by omega] at this
theorem jmax_n {a b : Nat} (ha : a < 2 ^ 31) (hb : b < 2 ^ 31) : jmax (nI a) (nI b) = nI (max a b) := by
  unfold jmax
  by_cases c : a < b
  · rw [if_pos (nI_lt c hb)]; congr 1; omega
  · rw [if_neg (nI_nlt (by omega) ha)]; congr 1; omega
theorem jmin_n {a b : Nat} (ha : a < 2 ^ 31) (hb : b < 2 ^ 31) : jmin (nI a) (nI b) = nI (min a b) := by
  unfold jmin
  by_cases c : b < a
  · rw [if_pos (nI_lt c ha)]; congr 1; omega
  · rw [if_neg (nI_nlt (by omega) hb)]; congr 1; omega
theorem lc_col (b : Int64) {x y ox oy u : Nat} (h1 : x < 8) (h2 : y < 8) (h3 : ox < 8) (h4 : oy < 8) (hu : u < 8) : ∀ j k m, k + j = max y oy + 1 → j < m → ∃ g : Bool, jf_La_isFreeBetween_L25 b (nI x) (nI y) (nI ox) (nI oy) (nI u) m (nI k) = some (if g then .inr () else .inl ()) ∧ (g = true ↔ ∀ v, k ≤ v → v ≤ max y oy → lMet x y ox oy u v = true → jbit b (u + 8 * v) = false) := by
  intro j
  induction j with
  | zero =>
    intro k m e hm
    obtain ⟨q, rfl⟩ : ∃ q, m = q + 1 := ⟨m - 1, by omega⟩
    refine ⟨true, ?_, fun _ v a1 a2 => by omega, fun _ => rfl⟩
    rw [jf_La_isFreeBetween_L25, jmax_n (by omega) (by omega), if_pos (nI_lt (by omega) (by omega))]
    rfl
  | succ j ih =>
    intro k m e hm
    obtain ⟨q, rfl⟩ : ∃ q, m = q + 1 := ⟨m - 1, by omega⟩
    have hk : k < 8 := by omega
    obtain ⟨g, e1, e2⟩ := ih (k + 1) q (by omega) (by omega)
    rw [jf_La_isFreeBetween_L25, jmax_n (by omega) (by omega), if_neg (nI_nlt (by omega) (by omega)), jbl_block b hu hk (lcell u hu k hk).1, lc_met h1 h2 h3 h4 hu hk]
    unfold jf_La_isFreeBetween_b70
    rw [nI_1]
    have step : (jbit b (u + 8 * k) = true → ¬ lMet x y ox oy u k = true) → (g = true ↔ ∀ v, k ≤ v → v ≤ max y oy → lMet x y ox oy u v = true → jbit b (u + 8 * v) = false) := by
      intro hn
      rw [e2]
      constructor
      · intro h v a1 a2 a3
        by_cases c0 : v = k
        · subst c0
          cases hb : jbit b (u + 8 * v) with
          | false => rfl
          | true => exact absurd a3 (hn hb)
        · exact h v (by omega) a2 a3
      · intro h v a1 a2 a3
        exact h v (by omega) a2 a3
    cases hb : jbit b (u + 8 * k) with
    | false =>
      rw [if_pos (by decide)]
      exact ⟨g, e1, step (fun h => by rw [hb] at h; cases h)⟩
    | true =>
      rw [if_neg (by decide)]
      cases hc : lMet x y ox oy u k with
      | true =>
        rw [if_neg (by decide)]
        refine ⟨false, rfl, ?_⟩
        constructor
        · intro h; cases h
        · intro h
          have := h k (Nat.le_refl k) (by omega) hc
          rw [hb] at this; cases this
      | false =>
        rw [if_pos (by decide)]
        exact ⟨g, e1, step (fun _ h => by rw [hc] at h; cases h)⟩
theorem lc_rect (b : Int64) {x y ox oy : Nat} (h1 : x < 8) (h2 : y < 8) (h3 : ox < 8) (h4 : oy < 8) : ∀ j k m, k + j = max x ox + 1 → j < m → ∃ g : Bool, jf_La_isFreeBetween_L7 b (nI x) (nI y) (nI ox) (nI oy) m (nI k) = some (if g then .inr () else .inl ()) ∧ (g = true ↔ ∀ u v, k ≤ u → u ≤ max x ox → min y oy ≤ v → v ≤ max y oy → lMet x y ox oy u v = true → jbit b (u + 8 * v) = false) := by
  intro j
  induction j with
  | zero =>
    intro k m e hm
    obtain ⟨q, rfl⟩ : ∃ q, m = q + 1 := ⟨m - 1, by omega⟩
    refine ⟨true, ?_, fun _ u v a1 a2 => by omega, fun _ => rfl⟩
    rw [jf_La_isFreeBetween_L7, jmax_n (by omega) (by omega), if_pos (nI_lt (by omega) (by omega))]
    rfl
  | succ j ih =>
    intro k m e hm
    obtain ⟨q, rfl⟩ : ∃ q, m = q + 1 := ⟨m - 1, by omega⟩
    have hk : k < 8 := by omega
    obtain ⟨g, e1, e2⟩ := ih (k + 1) q (by omega) (by omega)
    obtain ⟨g1, f1, f2⟩ := lc_col b h1 h2 h3 h4 hk (max y oy + 1 - min y oy) (min y oy) jF (by omega) (jF_gt (by omega))
    rw [jf_La_isFreeBetween_L7, jmax_n (by omega) (by omega), if_neg (nI_nlt (by omega) (by omega)), jmin_n (by omega) (by omega)]
    simp only [jlet]
    rw [f1]
    simp only [Option.bind]
    cases g1 with
    | false =>
      refine ⟨false, rfl, ?_⟩
      constructor
      · intro h; cases h
      · intro h
        exact f2.2 (fun v a1 a2 a3 => h k v (Nat.le_refl k) (by omega) a1 a2 a3)
    | true =>
      refine ⟨g, ?_, ?_⟩
      · show jf_La_isFreeBetween_L7 b (nI x) (nI y) (nI ox) (nI oy) q (nI k + 1) = _
        rw [nI_1]; exact e1
      · rw [e2]
        constructor
        · intro h u v a1 a2 a3 a4 a5
          by_cases c0 : u = k
          · subst c0; exact f2.1 rfl v a3 a4 a5
          · exact h u v (by omega) a2 a3 a4 a5
        · intro h u v a1 a2 a3 a4 a5
          exact h u v (by omega) a2 a3 a4 a5
theorem lc_sight (b : Int64) {x y ox oy : Nat} (h1 : x < 8) (h2 : y < 8) (h3 : ox < 8) (h4 : oy < 8) : ∃ g : Bool, jf_La_isFreeBetween b (nI x) (nI y) (nI ox) (nI oy) = some (if g then 1 else 0) ∧ (g = true ↔ lFree (jbit b) x y ox oy) := by
  obtain ⟨g, e1, e2⟩ := lc_rect b h1 h2 h3 h4 (max x ox + 1 - min x ox) (min x ox) jF (by omega) (jF_gt (by omega))
  refine ⟨g, ?_, e2⟩
  unfold jf_La_isFreeBetween
  simp only [jlet]
  rw [jmin_n (by omega) (by omega), e1]
  cases g <;> rfl
theorem l_sight {b : Int64} {isB : Nat → Int32} (hB : jBl isB (jbit b)) {x y ox oy : Nat} (h1 : x < 8) (h2 : y < 8) (h3 : ox < 8) (h4 : oy < 8) : ∃ g : Bool, jf_La_isFreeBetween b (nI x) (nI y) (nI ox) (nI oy) = some (if g then 1 else 0) ∧ jf_Mo_areInSight isB (nI x) (nI y) (nI ox) (nI oy) = some (if g then 1 else 0) ∧ (g = true ↔ lFree (jbit b) x y ox oy) := by
  obtain ⟨g, e1, e2⟩ := lc_sight b h1 h2 h3 h4
  obtain ⟨g2, e3, e4⟩ := lm_sight hB h1 h2 h3 h4
  have : g2 = g := by rw [Bool.eq_iff_iff, e2, e4]
  rw [this] at e3
  exact ⟨g, e1, e3, e2⟩
