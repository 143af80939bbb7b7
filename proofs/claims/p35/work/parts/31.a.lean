/-! p35: sight where the line comes to whole numbers; sets of CELLS are numbers -/
def jex : Nat → (Nat → Bool) → Bool
  | 0, _ => false
  | n + 1, f => f 0 || jex n (fun k => f (k + 1))
theorem jex_iff : ∀ (n : Nat) (f : Nat → Bool), jex n f = true ↔ ∃ k, k < n ∧ f k = true
  | 0, f => ⟨fun h => (by cases h), fun ⟨k, h, _⟩ => absurd h (Nat.not_lt_zero k)⟩
  | n + 1, f => by
    rw [jex, Bool.or_eq_true, jex_iff n]
    constructor
    · rintro (h | ⟨k, h1, h2⟩)
      · exact ⟨0, Nat.succ_pos n, h⟩
      · exact ⟨k + 1, Nat.succ_lt_succ h1, h2⟩
    · rintro ⟨k, h1, h2⟩
      cases k with
      | zero => exact Or.inl h2
      | succ k => exact Or.inr ⟨k, Nat.lt_of_succ_lt_succ h1, h2⟩
theorem jex_eq {n : Nat} {f g : Nat → Bool} (h : ∀ k, k < n → f k = g k) : jex n f = jex n g := by
  rw [Bool.eq_iff_iff, jex_iff, jex_iff]
  exact ⟨fun ⟨k, a, c⟩ => ⟨k, a, by rw [← h k a]; exact c⟩, fun ⟨k, a, c⟩ => ⟨k, a, by rw [h k a]; exact c⟩⟩
theorem jex_or (f g : Nat → Bool) : ∀ n, jex n (fun k => f k || g k) = (jex n f || jex n g) := fun n => by
  rw [Bool.eq_iff_iff, Bool.or_eq_true, jex_iff, jex_iff, jex_iff]
  constructor
  · rintro ⟨k, a, c⟩
    rcases Bool.or_eq_true _ _ ▸ c with d | d
    · exact Or.inl ⟨k, a, d⟩
    · exact Or.inr ⟨k, a, d⟩
  · rintro (⟨k, a, c⟩ | ⟨k, a, c⟩)
    · exact ⟨k, a, by rw [c]; rfl⟩
    · exact ⟨k, a, by rw [c, Bool.or_true]⟩
/-- whether a CELL of a set is a BLOCK -/
def mHit (B : Nat → Bool) (M : Nat) : Bool := jex 64 (fun c => M.testBit c && B c)
theorem mHit_0 (B : Nat → Bool) : mHit B 0 = false := by
  cases h : mHit B 0 with
  | false => rfl
  | true =>
    obtain ⟨k, -, h2⟩ := (jex_iff _ _).1 h
    rw [Nat.zero_testBit] at h2
    cases h2
theorem mHit_or (B : Nat → Bool) (M N : Nat) : mHit B (M ||| N) = (mHit B M || mHit B N) := by
  unfold mHit
  rw [← jex_or]
  refine jex_eq (fun k _ => ?_)
  rw [Nat.testBit_or]
  cases M.testBit k <;> cases N.testBit k <;> cases B k <;> rfl
theorem mHit_1 (B : Nat → Bool) {c : Nat} (hc : c < 64) : mHit B (2 ^ c) = B c := by
  rw [Bool.eq_iff_iff]
  unfold mHit
  rw [jex_iff]
  constructor
  · rintro ⟨k, h1, h2⟩
    rw [Bool.and_eq_true, Nat.testBit_two_pow] at h2
    obtain ⟨h3, h4⟩ := h2
    rw [of_decide_eq_true h3]; exact h4
  · intro h
    exact ⟨c, hc, by rw [Nat.testBit_two_pow, h]; simp⟩
def mOr : Nat → (Nat → Nat) → Nat
  | 0, _ => 0
  | n + 1, f => Nat.lor (f 0) (mOr n (fun k => f (k + 1)))
theorem mHit_mOr (B : Nat → Bool) : ∀ (n : Nat) (f : Nat → Nat), mHit B (mOr n f) = jex n (fun k => mHit B (f k))
  | 0, f => mHit_0 B
  | n + 1, f => by
    show mHit B (f 0 ||| mOr n (fun k => f (k + 1))) = _
    rw [mHit_or, mHit_mOr B n]
    rfl
theorem mOr_iff (B : Nat → Bool) (n : Nat) (f : Nat → Nat) : mHit B (mOr n f) = true ↔ ∃ k, k < n ∧ mHit B (f k) = true := by rw [mHit_mOr, jex_iff]
/-- the first of the places round a number told times D -/
def hLo (X D : Nat) : Nat := if X % D = 0 then X / D - 1 else X / D
def hM (X Y D : Nat) : Nat := mOr (X / D + 1 - hLo X D) (fun i => mOr (Y / D + 1 - hLo Y D) (fun j => 2 ^ (hLo X D + i + 8 * (hLo Y D + j))))
def hOk (X Y D : Nat) : Bool := decide (0 < D) && decide (D < 1000) && decide (X < 100000) && decide (Y < 100000) && decide (X / D < 8) && decide (Y / D < 8) && (decide (X % D ≠ 0) || decide (1 ≤ X / D)) && (decide (Y % D ≠ 0) || decide (1 ≤ Y / D))
theorem h_col (b : Int64) {X Y D u v1 : Nat} (hD : 0 < D) (hD2 : D < 1000) (hY2 : Y < 100000) (hv : v1 = Y / D) (hv8 : v1 < 8) (hu : u < 8) : ∀ j v m, v + j = v1 + 1 → j < m → jf_Lw_isHidden_L46 (nI X) (nI Y) (nI D) b (nI u) m (nI v) = some (if jex j (fun i => jbit b (u + 8 * (v + i))) then .inl () else .inr ()) := by
  have hd : ¬ nI D = 0 := nI_ne0 hD (by omega)
  have hq : nI Y / nI D = nI v1 := by rw [pk_div (by omega) (by omega) (by omega), hv]
  intro j
  induction j with
  | zero =>
    intro v m e hm
    obtain ⟨q, rfl⟩ : ∃ q, m = q + 1 := ⟨m - 1, by omega⟩
    rw [jf_Lw_isHidden_L46, if_neg hd, hq, if_pos (nI_lt (by omega) (by omega))]
    rfl
  | succ j ih =>
    intro v m e hm
    obtain ⟨q, rfl⟩ : ∃ q, m = q + 1 := ⟨m - 1, by omega⟩
    have hv9 : v < 8 := by omega
    rw [jf_Lw_isHidden_L46, if_neg hd, hq, if_neg (nI_nlt (by omega) (by omega)), if_neg (nI_pos (by omega)), if_neg (nI_pos (by omega)), if_neg (ge_8 hu), if_neg (ge_8 hv9), show (8 : Int32) = nI 8 from rfl, nI_mul, nI_add, show 8 * v + u = u + 8 * v by omega, l_bit b (by omega)]
    have e0 : jex (j + 1) (fun i => jbit b (u + 8 * (v + i))) = (jbit b (u + 8 * v) || jex j (fun i => jbit b (u + 8 * (v + 1 + i)))) := by
      rw [jex]
      congr 1
      exact jex_eq (fun k _ => by rw [show v + (k + 1) = v + 1 + k by omega])
    rw [e0]
    cases jbit b (u + 8 * v) with
    | true => rw [if_pos rfl, if_pos (by decide)]; rfl
    | false =>
      rw [if_neg (by decide), Bool.false_or]
      unfold jf_Lw_isHidden_b97
      rw [nI_1]
      exact ih (v + 1) q (by omega) (by omega)
theorem h_rect (b : Int64) {X Y D u1 : Nat} (hD : 0 < D) (hD2 : D < 1000) (hX2 : X < 100000) (hY2 : Y < 100000) (hu : u1 = X / D) (hu8 : u1 < 8) (hv8 : Y / D < 8) (hlo : Y % D ≠ 0 ∨ 1 ≤ Y / D) : ∀ j u m, u + j = u1 + 1 → j < m → jf_Lw_isHidden_L19 (nI X) (nI Y) (nI D) b m (nI u) = some (if jex j (fun i => jex (Y / D + 1 - hLo Y D) (fun k => jbit b (u + i + 8 * (hLo Y D + k)))) then .inl () else .inr ()) := by
  have hd : ¬ nI D = 0 := nI_ne0 hD (by omega)
  have hq : nI X / nI D = nI u1 := by rw [pk_div (by omega) (by omega) (by omega), hu]
  have hq2 : nI Y / nI D = nI (Y / D) := by rw [pk_div (by omega) (by omega) (by omega)]
  intro j
  induction j with
  | zero =>
    intro u m e hm
    obtain ⟨q, rfl⟩ : ∃ q, m = q + 1 := ⟨m - 1, by omega⟩
    rw [jf_Lw_isHidden_L19, if_neg hd, hq, if_pos (nI_lt (by omega) (by omega))]
    rfl
  | succ j ih =>
    intro u m e hm
    obtain ⟨q, rfl⟩ : ∃ q, m = q + 1 := ⟨m - 1, by omega⟩
    have hbk : jf_Lw_isHidden_b44 (jf_Lw_isHidden_L19 (nI X) (nI Y) (nI D) b q) (nI X) (nI Y) (nI D) b (nI u) (nI (hLo Y D)) = some (if jex (j + 1) (fun i => jex (Y / D + 1 - hLo Y D) (fun k => jbit b (u + i + 8 * (hLo Y D + k)))) then .inl () else .inr ()) := by
      have hl : hLo Y D ≤ Y / D := by unfold hLo; split <;> omega
      unfold jf_Lw_isHidden_b44
      rw [h_col b (X := X) (u := u) hD hD2 hY2 rfl hv8 (by omega) (Y / D + 1 - hLo Y D) (hLo Y D) jF (by omega) (jF_gt (by omega))]
      simp only [Option.bind]
      rw [jex]
      have e0 : jex j (fun i => jex (Y / D + 1 - hLo Y D) (fun k => jbit b (u + (i + 1) + 8 * (hLo Y D + k)))) = jex j (fun i => jex (Y / D + 1 - hLo Y D) (fun k => jbit b (u + 1 + i + 8 * (hLo Y D + k)))) := jex_eq (fun i _ => jex_eq (fun k _ => by rw [show u + (i + 1) = u + 1 + i by omega]))
      rw [e0]
      show jsum _ _ (if jex (Y / D + 1 - hLo Y D) (fun k => jbit b (u + 8 * (hLo Y D + k))) = true then _ else _) = _
      rw [show u + 0 = u from rfl]
      cases jex (Y / D + 1 - hLo Y D) (fun k => jbit b (u + 8 * (hLo Y D + k))) with
      | true => rfl
      | false =>
        rw [if_neg (by decide), Bool.false_or]
        simp only [jsum]
        rw [nI_1]
        exact ih (u + 1) q (by omega) (by omega)
    rw [jf_Lw_isHidden_L19, if_neg hd, hq, if_neg (nI_nlt (by omega) (by omega)), if_neg hd, pk_rem (by omega) (by omega) (by omega), if_neg hd, if_neg hd, hq2]
    by_cases c : Y % D = 0
    · have h1 : 1 ≤ Y / D := hlo.elim (fun z => absurd c z) id
      obtain ⟨t, ht⟩ : ∃ t, Y / D = t + 1 := ⟨Y / D - 1, by omega⟩
      have e1 : hLo Y D = t := by unfold hLo; rw [if_pos c]; omega
      rw [if_pos (show nI (Y % D) = 0 by rw [c]; rfl), show nI (Y / D) - 1 = nI (hLo Y D) by rw [ht, nI_pred, e1]]
      exact hbk
    · rw [if_neg (nI_ne0 (by omega) (by have := Nat.mod_lt Y hD; omega))]
      have e1 : hLo Y D = Y / D := by unfold hLo; rw [if_neg c]
      rw [show nI (Y / D) = nI (hLo Y D) by rw [e1]]
      exact hbk
theorem h_hid (b : Int64) {X Y D : Nat} (h : hOk X Y D = true) : jf_Lw_isHidden (nI X) (nI Y) (nI D) b = some (if mHit (jbit b) (hM X Y D) then 1 else 0) := by
  unfold hOk at h
  simp only [Bool.and_eq_true, Bool.or_eq_true, decide_eq_true_eq] at h
  obtain ⟨⟨⟨⟨⟨⟨⟨hD, hD2⟩, hX2⟩, hY2⟩, hX8⟩, hY8⟩, hlx⟩, hly⟩ := h
  have hd : ¬ nI D = 0 := nI_ne0 hD (by omega)
  have hl : hLo X D ≤ X / D := by unfold hLo; split <;> omega
  have hl2 : hLo Y D ≤ Y / D := by unfold hLo; split <;> omega
  have hb : jf_Lw_isHidden_b17 (nI X) (nI Y) (nI D) b (nI (hLo X D)) = some (if mHit (jbit b) (hM X Y D) then 1 else 0) := by
    unfold jf_Lw_isHidden_b17
    rw [h_rect b hD hD2 hX2 hY2 rfl hX8 hY8 hly (X / D + 1 - hLo X D) (hLo X D) jF (by omega) (jF_gt (by omega))]
    have e : mHit (jbit b) (hM X Y D) = jex (X / D + 1 - hLo X D) (fun i => jex (Y / D + 1 - hLo Y D) (fun k => jbit b (hLo X D + i + 8 * (hLo Y D + k)))) := by
      unfold hM
      rw [mHit_mOr]
      refine jex_eq (fun i hi => ?_)
      rw [mHit_mOr]
      exact jex_eq (fun k hk => mHit_1 _ (by omega))
    rw [e]
    simp only [Option.bind]
    cases jex (X / D + 1 - hLo X D) (fun i => jex (Y / D + 1 - hLo Y D) (fun k => jbit b (hLo X D + i + 8 * (hLo Y D + k)))) <;> rfl
  unfold jf_Lw_isHidden
  rw [if_neg hd, pk_rem (by omega) (by omega) (by omega), if_neg hd, if_neg hd, pk_div (by omega) (by omega) (by omega)]
  by_cases c : X % D = 0
  · have h1 : 1 ≤ X / D := hlx.elim (fun z => absurd c z) id
    obtain ⟨t, ht⟩ : ∃ t, X / D = t + 1 := ⟨X / D - 1, by omega⟩
    rw [if_pos (show nI (X % D) = 0 by rw [c]; rfl), ht, nI_pred]
    rw [show hLo X D = t by unfold hLo; rw [if_pos c]; omega] at hb
    exact hb
  · rw [if_neg (nI_ne0 (by omega) (by have := Nat.mod_lt X hD; omega))]
    rw [show hLo X D = X / D by unfold hLo; rw [if_neg c]] at hb
    exact hb
