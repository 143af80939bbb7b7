/-! p35: the law's sight and the class's -/
def dN (x ox : Nat) : Nat := if x ≤ ox then ox - x else x - ox
def sX (x ox t : Nat) : Nat := if x ≤ ox then (2 * x + 1 + (2 * t + 1)) * (2 * dN x ox) else (2 * x + 1 - (2 * t + 1)) * (2 * dN x ox)
def sY (y oy t w : Nat) : Nat := if y ≤ oy then (2 * y + 1) * (2 * w) + 2 * (oy - y) * (2 * t + 1) else (2 * y + 1) * (2 * w) - 2 * (y - oy) * (2 * t + 1)
theorem s_a0 : jall 8 (fun x => jall 8 (fun ox => decide (0 ≤ nI ox - nI x ↔ x ≤ ox) && decide (2 * (if x ≤ ox then nI ox - nI x else -(nI ox - nI x)) = nI (2 * dN x ox)))) = true := by decide +kernel
theorem s_a {x ox : Nat} (hx : x < 8) (ho : ox < 8) : (0 ≤ nI ox - nI x ↔ x ≤ ox) ∧ 2 * (if x ≤ ox then nI ox - nI x else -(nI ox - nI x)) = nI (2 * dN x ox) := by
  have h := jall_at (jall_at s_a0 x hx) ox ho
  rw [Bool.and_eq_true] at h
  exact ⟨of_decide_eq_true h.1, of_decide_eq_true h.2⟩
theorem s_x0 : jall 8 (fun x => jall 8 (fun ox => jall (dN x ox) (fun t => decide ((2 * nI x + 1 + (if x ≤ ox then nI (2 * t + 1) else -(nI (2 * t + 1)))) * nI (2 * dN x ox) = nI (sX x ox t))))) = true := by decide +kernel
theorem s_x {x ox t : Nat} (hx : x < 8) (ho : ox < 8) (ht : t < dN x ox) : (2 * nI x + 1 + (if x ≤ ox then nI (2 * t + 1) else -(nI (2 * t + 1)))) * nI (2 * dN x ox) = nI (sX x ox t) := of_decide_eq_true (jall_at (jall_at (jall_at s_x0 x hx) ox ho) t ht)
theorem s_y0 : jall 8 (fun y => jall 8 (fun oy => jall 8 (fun w => jall w (fun t => decide ((2 * nI y + 1) * nI (2 * w) + 2 * (nI oy - nI y) * nI (2 * t + 1) = nI (sY y oy t w)))))) = true := by decide +kernel
theorem s_y {y oy w t : Nat} (hy : y < 8) (ho : oy < 8) (hw : w < 8) (ht : t < w) : (2 * nI y + 1) * nI (2 * w) + 2 * (nI oy - nI y) * nI (2 * t + 1) = nI (sY y oy t w) := of_decide_eq_true (jall_at (jall_at (jall_at (jall_at s_y0 y hy) oy ho) w hw) t ht)
theorem dN_lt {x ox : Nat} (hx : x < 8) (ho : ox < 8) : dN x ox < 8 := by unfold dN; split <;> omega
theorem dN_abs (x ox : Nat) : dN x ox = ((ox : Int) - x).natAbs := by unfold dN; split <;> omega
/-- the CELLS that the law looks at, and those that the document names -/
def mL (x y ox oy : Nat) : Nat := Nat.lor (Nat.lor (2 ^ (x + 8 * y)) (2 ^ (ox + 8 * oy))) (Nat.lor (mOr (dN x ox) (fun t => hM (sX x ox t) (sY y oy t (dN x ox)) (4 * dN x ox))) (mOr (dN y oy) (fun t => hM (sY x ox t (dN y oy)) (sX y oy t) (4 * dN y oy))))
def mS (x y ox oy : Nat) : Nat := mOr (dN x ox + 1) (fun kx => mOr (dN y oy + 1) (fun ky => if aRel (dN x ox) (dN y oy) kx ky then 2 ^ (aP x ox kx + 8 * aP y oy ky) else 0))
def mOk (x y ox oy : Nat) : Bool := Nat.beq (mL x y ox oy) (mS x y ox oy) && Nat.beq (mS x y ox oy) (mS ox oy x y) && jall (dN x ox) (fun t => hOk (sX x ox t) (sY y oy t (dN x ox)) (4 * dN x ox)) && jall (dN y oy) (fun t => hOk (sY x ox t (dN y oy)) (sX y oy t) (4 * dN y oy))
theorem m_all0 : jall 8 (fun x => jall 8 (fun y => jall 8 (fun ox => jall 8 (fun oy => mOk x y ox oy)))) = true := by decide +kernel
theorem m_all {x y ox oy : Nat} (h1 : x < 8) (h2 : y < 8) (h3 : ox < 8) (h4 : oy < 8) : mL x y ox oy = mS x y ox oy ∧ mS x y ox oy = mS ox oy x y ∧ (∀ t, t < dN x ox → hOk (sX x ox t) (sY y oy t (dN x ox)) (4 * dN x ox) = true) ∧ ∀ t, t < dN y oy → hOk (sY x ox t (dN y oy)) (sX y oy t) (4 * dN y oy) = true := by
  have h := jall_at (jall_at (jall_at (jall_at m_all0 x h1) y h2) ox h3) oy h4
  unfold mOk at h
  simp only [Bool.and_eq_true] at h
  exact ⟨Nat.eq_of_beq_eq_true h.1.1.1, Nat.eq_of_beq_eq_true h.1.1.2, jall_at h.1.2, jall_at h.2⟩
theorem s_loop1 (b : Int64) {x y ox oy : Nat} (h1 : x < 8) (h2 : y < 8) (h3 : ox < 8) (h4 : oy < 8) (z9 : Int32) : ∀ j t m, t + j = dN x ox → j < m → jf_Lw_isSight_L69 (nI x) (nI y) b (nI ox - nI x) (nI oy - nI y) (nI (2 * dN x ox)) z9 m (nI (2 * t + 1)) = some (if jex j (fun i => mHit (jbit b) (hM (sX x ox (t + i)) (sY y oy (t + i) (dN x ox)) (4 * dN x ox))) then .inl () else .inr ()) := by
  have hw := dN_lt h1 h3
  intro j
  induction j with
  | zero =>
    intro t m e hm
    obtain ⟨q, rfl⟩ : ∃ q, m = q + 1 := ⟨m - 1, by omega⟩
    rw [jf_Lw_isSight_L69, if_pos (nI_le (by omega) (by omega))]
    rfl
  | succ j ih =>
    intro t m e hm
    obtain ⟨q, rfl⟩ : ∃ q, m = q + 1 := ⟨m - 1, by omega⟩
    have ht : t < dN x ox := by omega
    have hk := (m_all h1 h2 h3 h4).2.2.1 t ht
    have hx := s_x h1 h3 ht
    have hbk : ∀ s1, s1 = (if x ≤ ox then nI (2 * t + 1) else -(nI (2 * t + 1))) → jf_Lw_isSight_b112 (jf_Lw_isSight_L69 (nI x) (nI y) b (nI ox - nI x) (nI oy - nI y) (nI (2 * dN x ox)) z9 q) (nI x) (nI y) b (nI ox - nI x) (nI oy - nI y) (nI (2 * dN x ox)) z9 (nI (2 * t + 1)) (nI (sY y oy t (dN x ox))) (2 * nI x + 1) s1 = some (if jex (j + 1) (fun i => mHit (jbit b) (hM (sX x ox (t + i)) (sY y oy (t + i) (dN x ox)) (4 * dN x ox))) then .inl () else .inr ()) := by
      rintro s1 rfl
      unfold jf_Lw_isSight_b112
      rw [hx, show (2 : Int32) * nI (2 * dN x ox) = nI (4 * dN x ox) by rw [show (2 : Int32) = nI 2 from rfl, nI_mul]; congr 1; omega, h_hid b hk]
      simp only [Option.bind]
      rw [jex]
      show (if (if mHit (jbit b) (hM (sX x ox (t + 0)) (sY y oy (t + 0) (dN x ox)) (4 * dN x ox)) = true then (1 : Int32) else 0) = 0 then _ else _) = _
      have e0 : jex j (fun i => mHit (jbit b) (hM (sX x ox (t + (i + 1))) (sY y oy (t + (i + 1)) (dN x ox)) (4 * dN x ox))) = jex j (fun i => mHit (jbit b) (hM (sX x ox (t + 1 + i)) (sY y oy (t + 1 + i) (dN x ox)) (4 * dN x ox))) := jex_eq (fun i _ => by rw [show t + (i + 1) = t + 1 + i by omega])
      rw [e0]
      cases mHit (jbit b) (hM (sX x ox (t + 0)) (sY y oy (t + 0) (dN x ox)) (4 * dN x ox)) with
      | true => rfl
      | false =>
        rw [if_pos (show (if false = true then (1 : Int32) else 0) = 0 by decide), Bool.false_or, show (2 : Int32) = nI 2 from rfl, nI_add]
        exact ih (t + 1) q (by omega) (by omega)
    rw [jf_Lw_isSight_L69, if_neg (nI_ge (by omega) (by omega))]
    simp only [jlet]
    rw [s_y h2 h4 hw ht]
    by_cases c : x ≤ ox
    · rw [if_pos ((s_a h1 h3).1.2 c)]
      exact hbk _ (by rw [if_pos c])
    · rw [if_neg (fun z => c ((s_a h1 h3).1.1 z))]
      exact hbk _ (by rw [if_neg c])
theorem s_loop2 (b : Int64) {x y ox oy : Nat} (h1 : x < 8) (h2 : y < 8) (h3 : ox < 8) (h4 : oy < 8) : ∀ j t m, t + j = dN y oy → j < m → jf_Lw_isSight_L141 (nI x) (nI y) b (nI ox - nI x) (nI oy - nI y) (nI (2 * dN y oy)) m (nI (2 * t + 1)) = some (if jex j (fun i => mHit (jbit b) (hM (sY x ox (t + i) (dN y oy)) (sX y oy (t + i)) (4 * dN y oy))) then .inl () else .inr ()) := by
  have hw := dN_lt h2 h4
  intro j
  induction j with
  | zero =>
    intro t m e hm
    obtain ⟨q, rfl⟩ : ∃ q, m = q + 1 := ⟨m - 1, by omega⟩
    rw [jf_Lw_isSight_L141, if_pos (nI_le (by omega) (by omega))]
    rfl
  | succ j ih =>
    intro t m e hm
    obtain ⟨q, rfl⟩ : ∃ q, m = q + 1 := ⟨m - 1, by omega⟩
    have ht : t < dN y oy := by omega
    have hk := (m_all h1 h2 h3 h4).2.2.2 t ht
    have hx := s_x h2 h4 ht
    have hbk : ∀ s1, s1 = (if y ≤ oy then nI (2 * t + 1) else -(nI (2 * t + 1))) → jf_Lw_isSight_b186 (jf_Lw_isSight_L141 (nI x) (nI y) b (nI ox - nI x) (nI oy - nI y) (nI (2 * dN y oy)) q) (nI x) (nI y) b (nI ox - nI x) (nI oy - nI y) (nI (2 * dN y oy)) (nI (2 * t + 1)) (nI (sY x ox t (dN y oy))) (2 * nI y + 1) s1 = some (if jex (j + 1) (fun i => mHit (jbit b) (hM (sY x ox (t + i) (dN y oy)) (sX y oy (t + i)) (4 * dN y oy))) then .inl () else .inr ()) := by
      rintro s1 rfl
      unfold jf_Lw_isSight_b186
      rw [hx, show (2 : Int32) * nI (2 * dN y oy) = nI (4 * dN y oy) by rw [show (2 : Int32) = nI 2 from rfl, nI_mul]; congr 1; omega, h_hid b hk]
      simp only [Option.bind]
      rw [jex]
      show (if (if mHit (jbit b) (hM (sY x ox (t + 0) (dN y oy)) (sX y oy (t + 0)) (4 * dN y oy)) = true then (1 : Int32) else 0) = 0 then _ else _) = _
      have e0 : jex j (fun i => mHit (jbit b) (hM (sY x ox (t + (i + 1)) (dN y oy)) (sX y oy (t + (i + 1))) (4 * dN y oy))) = jex j (fun i => mHit (jbit b) (hM (sY x ox (t + 1 + i) (dN y oy)) (sX y oy (t + 1 + i)) (4 * dN y oy))) := jex_eq (fun i _ => by rw [show t + (i + 1) = t + 1 + i by omega])
      rw [e0]
      cases mHit (jbit b) (hM (sY x ox (t + 0) (dN y oy)) (sX y oy (t + 0)) (4 * dN y oy)) with
      | true => rfl
      | false =>
        rw [if_pos (show (if false = true then (1 : Int32) else 0) = 0 by decide), Bool.false_or, show (2 : Int32) = nI 2 from rfl, nI_add]
        exact ih (t + 1) q (by omega) (by omega)
    rw [jf_Lw_isSight_L141, if_neg (nI_ge (by omega) (by omega))]
    simp only [jlet]
    rw [s_y h1 h3 hw ht]
    by_cases c : y ≤ oy
    · rw [if_pos ((s_a h2 h4).1.2 c)]
      exact hbk _ (by rw [if_pos c])
    · rw [if_neg (fun z => c ((s_a h2 h4).1.1 z))]
      exact hbk _ (by rw [if_neg c])
theorem s_law (b : Int64) {x y ox oy : Nat} (h1 : x < 8) (h2 : y < 8) (h3 : ox < 8) (h4 : oy < 8) : jf_Lw_isSight (nI x) (nI y) (nI ox) (nI oy) b = some (if mHit (jbit b) (mS x y ox oy) then 0 else 1) := by
  rw [← (m_all h1 h2 h3 h4).1]
  have e : mHit (jbit b) (mL x y ox oy) = ((jbit b (x + 8 * y) || jbit b (ox + 8 * oy)) || (jex (dN x ox) (fun t => mHit (jbit b) (hM (sX x ox t) (sY y oy t (dN x ox)) (4 * dN x ox))) || jex (dN y oy) (fun t => mHit (jbit b) (hM (sY x ox t (dN y oy)) (sX y oy t) (4 * dN y oy))))) := by
    show mHit (jbit b) ((2 ^ (x + 8 * y) ||| 2 ^ (ox + 8 * oy)) ||| (mOr _ _ ||| mOr _ _)) = _
    rw [mHit_or, mHit_or, mHit_or, mHit_1 _ (by omega), mHit_1 _ (by omega), mHit_mOr, mHit_mOr]
  rw [e]
  have hz : jf_Lw_isSight_b46 (nI x) (nI y) b (nI ox - nI x) (nI oy - nI y) 2 (if x ≤ ox then nI ox - nI x else -(nI ox - nI x)) = some (if (jex (dN x ox) (fun t => mHit (jbit b) (hM (sX x ox t) (sY y oy t (dN x ox)) (4 * dN x ox))) || jex (dN y oy) (fun t => mHit (jbit b) (hM (sY x ox t (dN y oy)) (sX y oy t) (4 * dN y oy)))) then 0 else 1) := by
    have hb63 : jf_Lw_isSight_b63 (nI x) (nI y) b (nI ox - nI x) (nI oy - nI y) (nI (2 * dN x ox)) 2 (if y ≤ oy then nI oy - nI y else -(nI oy - nI y)) = some (if (jex (dN x ox) (fun t => mHit (jbit b) (hM (sX x ox t) (sY y oy t (dN x ox)) (4 * dN x ox))) || jex (dN y oy) (fun t => mHit (jbit b) (hM (sY x ox t (dN y oy)) (sX y oy t) (4 * dN y oy)))) then 0 else 1) := by
      unfold jf_Lw_isSight_b63
      rw [(s_a h2 h4).2]
      simp only [jlet]
      have w1 := dN_lt h1 h3
      have w2 := dN_lt h2 h4
      have l1 := s_loop1 b h1 h2 h3 h4 (nI (2 * dN y oy)) (dN x ox) 0 jF (by omega) (jF_gt (by omega))
      have l2 := s_loop2 b h1 h2 h3 h4 (dN y oy) 0 jF (by omega) (jF_gt (by omega))
      simp only [Nat.zero_add] at l1 l2
      rw [show (1 : Int32) = nI (2 * 0 + 1) from rfl, l1]
      simp only [Option.bind]
      cases jex (dN x ox) (fun t => mHit (jbit b) (hM (sX x ox t) (sY y oy t (dN x ox)) (4 * dN x ox))) with
      | true => rfl
      | false =>
        rw [if_neg (by decide)]
        simp only [jsum]
        rw [l2, Bool.false_or]
        cases jex (dN y oy) (fun t => mHit (jbit b) (hM (sY x ox t (dN y oy)) (sX y oy t) (4 * dN y oy))) <;> rfl
    unfold jf_Lw_isSight_b46
    rw [(s_a h1 h3).2]
    simp only [jlet]
    by_cases c : y ≤ oy
    · rw [if_pos ((s_a h2 h4).1.2 c)]; rw [if_pos c] at hb63; exact hb63
    · rw [if_neg (fun z => c ((s_a h2 h4).1.1 z))]; rw [if_neg c] at hb63; exact hb63
  unfold jf_Lw_isSight
  rw [l_floor b h1 h2, l_floor b h3 h4]
  cases jbit b (x + 8 * y) with
  | true => rw [if_pos rfl, if_pos rfl]; rfl
  | false =>
    rw [if_neg (show ¬ (if false = true then (0 : Int32) else 1) = 0 by decide), Bool.false_or]
    cases jbit b (ox + 8 * oy) with
    | true => rw [if_pos (show (if true = true then (0 : Int32) else 1) = 0 by decide)]; rfl
    | false =>
      rw [if_neg (show ¬ (if false = true then (0 : Int32) else 1) = 0 by decide), Bool.false_or]
      simp only [jlet]
      by_cases c : x ≤ ox
      · rw [if_pos ((s_a h1 h3).1.2 c)]; rw [if_pos c] at hz; exact hz
      · rw [if_neg (fun z => c ((s_a h1 h3).1.1 z))]; rw [if_neg c] at hz; exact hz
theorem s_free {B : Nat → Bool} {x y ox oy : Nat} (h1 : x < 8) (h2 : y < 8) (h3 : ox < 8) (h4 : oy < 8) : lFree B x y ox oy ↔ mHit B (mS x y ox oy) = false := by
  rw [a_free, ← dN_abs, ← dN_abs]
  have key : mHit B (mS x y ox oy) = true ↔ ∃ kx, kx < dN x ox + 1 ∧ ∃ ky, ky < dN y oy + 1 ∧ aRel (dN x ox) (dN y oy) kx ky = true ∧ B (aP x ox kx + 8 * aP y oy ky) = true := by
    unfold mS
    rw [mOr_iff]
    constructor
    · rintro ⟨kx, a1, a2⟩
      obtain ⟨ky, a3, a4⟩ := (mOr_iff _ _ _).1 a2
      by_cases c : aRel (dN x ox) (dN y oy) kx ky = true
      · rw [if_pos c, mHit_1 _ (by have := aP_lt h1 h3 (dN_abs x ox) (show kx ≤ _ by omega); have := aP_lt h2 h4 (dN_abs y oy) (show ky ≤ _ by omega); omega)] at a4
        exact ⟨kx, a1, ky, a3, c, a4⟩
      · rw [if_neg c, mHit_0] at a4; cases a4
    · rintro ⟨kx, a1, ky, a3, c, a4⟩
      refine ⟨kx, a1, (mOr_iff _ _ _).2 ⟨ky, a3, ?_⟩⟩
      rw [if_pos c, mHit_1 _ (by have := aP_lt h1 h3 (dN_abs x ox) (show kx ≤ _ by omega); have := aP_lt h2 h4 (dN_abs y oy) (show ky ≤ _ by omega); omega)]
      exact a4
  constructor
  · intro h
    cases g : mHit B (mS x y ox oy) with
    | false => rfl
    | true =>
      obtain ⟨kx, a1, ky, a3, c, a4⟩ := key.1 g
      have := h kx ky (by omega) (by omega) c
      rw [a4] at this; cases this
  · intro h kx ky a1 a3 c
    cases g : B (aP x ox kx + 8 * aP y oy ky) with
    | false => rfl
    | true =>
      have := key.2 ⟨kx, by omega, ky, by omega, c, g⟩
      rw [h] at this; cases this
/-- whether a CELL sees another one -/
def sSee (B : Nat → Bool) (x y ox oy : Nat) : Bool := !mHit B (mS x y ox oy)
theorem sSee_sym {B : Nat → Bool} {x y ox oy : Nat} (h1 : x < 8) (h2 : y < 8) (h3 : ox < 8) (h4 : oy < 8) : sSee B x y ox oy = sSee B ox oy x y := by unfold sSee; rw [(m_all h1 h2 h3 h4).2.1]
theorem s_see (b : Int64) {x y ox oy : Nat} (h1 : x < 8) (h2 : y < 8) (h3 : ox < 8) (h4 : oy < 8) : jf_Lw_isSight (nI x) (nI y) (nI ox) (nI oy) b = some (if sSee (jbit b) x y ox oy then 1 else 0) := by
  rw [s_law b h1 h2 h3 h4]
  unfold sSee
  cases mHit (jbit b) (mS x y ox oy) <;> rfl
theorem s_between (b : Int64) {x y ox oy : Nat} (h1 : x < 8) (h2 : y < 8) (h3 : ox < 8) (h4 : oy < 8) : jf_La_isFreeBetween b (nI x) (nI y) (nI ox) (nI oy) = some (if sSee (jbit b) x y ox oy then 1 else 0) := by
  obtain ⟨g, g1, g2⟩ := lc_sight b h1 h2 h3 h4
  rw [g1]
  have : g = sSee (jbit b) x y ox oy := by
    rw [Bool.eq_iff_iff, g2, s_free h1 h2 h3 h4]
    unfold sSee
    cases mHit (jbit b) (mS x y ox oy) <;> simp
  rw [this]
theorem s_along (b : Int64) {x y ox oy : Nat} (h1 : x < 8) (h2 : y < 8) (h3 : ox < 8) (h4 : oy < 8) : jf_La_isFreeAlong b (nI x) (nI y) (nI ox) (nI oy) = some (if sSee (jbit b) x y ox oy then 1 else 0) := by
  obtain ⟨g, g1, g2⟩ := a_sight b h1 h2 h3 h4
  rw [g1]
  have : g = sSee (jbit b) x y ox oy := by
    rw [Bool.eq_iff_iff, g2, s_free h1 h2 h3 h4]
    unfold sSee
    cases mHit (jbit b) (mS x y ox oy) <;> simp
  rw [this]
theorem s_sees (b : Int64) {x y ox oy : Nat} (h1 : x < 8) (h2 : y < 8) (h3 : ox < 8) (h4 : oy < 8) : jf_Lw_sees b (nI x) (nI y) (nI ox) (nI oy) = some (if sSee (jbit b) x y ox oy then 1 else 0) := by
  unfold jf_Lw_sees jf_Bi_sees
  rw [c_cell h1 h2, c_cell h3 h4]
  simp only [jsum]
  rw [s_between b h1 h2 h3 h4]
  cases sSee (jbit b) x y ox oy <;> rfl
theorem s_seesAnew (b : Int64) {x y ox oy : Nat} (h1 : x < 8) (h2 : y < 8) (h3 : ox < 8) (h4 : oy < 8) : jf_Lw_seesAnew b (nI x) (nI y) (nI ox) (nI oy) = some (if sSee (jbit b) x y ox oy then 1 else 0) := by
  unfold jf_Lw_seesAnew jf_Bi_seesAnew
  rw [c_cell h1 h2, c_cell h3 h4]
  simp only [jsum]
  rw [s_along b h1 h2 h3 h4]
  cases sSee (jbit b) x y ox oy <;> rfl
