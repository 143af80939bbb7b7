theorem jnot {b : Bool} (h : (!b) = true) : b = false := by cases b <;> first | rfl | cases h
theorem aP_up {x ox k w : Nat} (hw : w = ((ox : Int) - x).natAbs) (hk : k + 1 ≤ w) : (if nI ox ≤ nI x then nI (aP x ox k) - 1 else nI (aP x ox k) + 1) = nI (aP x ox (k + 1)) ∨ 2 ^ 31 ≤ x ∨ 2 ^ 31 ≤ ox := by
  by_cases b1 : x < 2 ^ 31
  · by_cases b2 : ox < 2 ^ 31
    · left
      unfold aP
      by_cases c : x < ox
      · rw [if_pos c, if_pos c, if_neg (nI_ge c b2), nI_1]; rfl
      · rw [if_neg c, if_neg c, if_pos (nI_le (by omega) b1)]
        obtain ⟨q, hq⟩ : ∃ q, x - k = q + 1 := ⟨x - k - 1, by omega⟩
        rw [hq, nI_pred]
        congr 1; omega
    · right; right; omega
  · right; left; omega
theorem aP_lt {x ox k w : Nat} (hx : x < 8) (hox : ox < 8) (hw : w = ((ox : Int) - x).natAbs) (hk : k ≤ w) : aP x ox k < 8 := by
  unfold aP
  split <;> omega
theorem a_mul {c h : Nat} (hc : c ≤ 7) (hh : h ≤ 7) : ((2 : Int32) * nI c + 1) * nI h = nI ((2 * c + 1) * h) ∧ (2 * c + 1) * h ≤ 105 := by
  constructor
  · rw [show (2 : Int32) = nI 2 from rfl, pk_mul, nI_1, pk_mul]
  · exact Nat.mul_le_mul (show 2 * c + 1 ≤ 15 by omega) hh
theorem a_loop (b : Int64) {x y ox oy w h : Nat} (h1 : x < 8) (h2 : y < 8) (h3 : ox < 8) (h4 : oy < 8) (hw : w = ((ox : Int) - x).natAbs) (hh : h = ((oy : Int) - y).natAbs) : ∀ j l cx cy m, l + j = 14 → cx ≤ w → cy ≤ h → j + 1 < m → jf_La_isFreeAlong_L48 b (nI x) (nI y) (nI ox) (nI oy) (nI w) (nI h) m (nI cx) (nI cy) (nI (aP x ox cx)) (nI (aP y oy cy)) 1 (nI l) = some (if aAll w h (aC b x y ox oy) j cx cy then 1 else 0) := by
  intro j
  induction j with
  | zero =>
    intro l cx cy m e hcx hcy hm
    obtain ⟨q, rfl⟩ : ∃ q, m = q + 1 := ⟨m - 1, by omega⟩
    have : l = 14 := by omega
    subst this
    rw [jf_La_isFreeAlong_L48, if_pos (show (14 : Int32) ≤ nI 14 by decide)]
    rfl
  | succ j ih =>
    intro l cx cy m e hcx hcy hm
    obtain ⟨q, rfl⟩ : ∃ q, m = q + 2 := ⟨m - 2, by omega⟩
    rw [jf_La_isFreeAlong_L48, if_neg (show ¬ (14 : Int32) ≤ nI l from nI_ge (b := 14) (by omega) (by decide)), if_neg (show ¬ (1 : Int32) = 0 by decide), nI_add, nI_add]
    rw [aAll]
    by_cases c : w + h ≤ cx + cy
    · rw [if_pos c, if_pos (nI_le c (by omega))]; rfl
    rw [if_neg c, if_neg (nI_ge (by omega) (by omega))]
    obtain ⟨p1, p2⟩ := a_mul (c := cx) (h := h) (by omega) (by omega)
    obtain ⟨p3, p4⟩ := a_mul (c := cy) (h := w) (by omega) (by omega)
    obtain ⟨l1, l2⟩ := a_le (w := w) (h := h) (by omega) (by omega) hcx hcy (by omega)
    have hX : (if (2 * cy + 1) * w < (2 * cx + 1) * h then nI (aP x ox cx) else if nI ox ≤ nI x then nI (aP x ox cx) - 1 else nI (aP x ox cx) + 1) = nI (aP x ox (aX w h cx cy)) := by
      unfold aX at *
      by_cases d : (2 * cx + 1) * h ≤ (2 * cy + 1) * w
      · rw [if_pos d] at l1 ⊢
        rw [if_neg (by omega)]
        rcases aP_up hw l1 with k | k | k
        · exact k
        · omega
        · omega
      · rw [if_neg d, if_pos (by omega)]
    have hY : (if (2 * cx + 1) * h < (2 * cy + 1) * w then nI (aP y oy cy) else if nI oy ≤ nI y then nI (aP y oy cy) - 1 else nI (aP y oy cy) + 1) = nI (aP y oy (aY w h cx cy)) := by
      unfold aY at *
      by_cases d : (2 * cy + 1) * w ≤ (2 * cx + 1) * h
      · rw [if_pos d] at l2 ⊢
        rw [if_neg (by omega)]
        rcases aP_up hh l2 with k | k | k
        · exact k
        · omega
        · omega
      · rw [if_neg d, if_pos (by omega)]
    have hx1 : nI (aX w h cx cy) = if (2 * cy + 1) * w < (2 * cx + 1) * h then nI cx + 0 else nI cx + 1 := by
      unfold aX
      by_cases d : (2 * cx + 1) * h ≤ (2 * cy + 1) * w
      · rw [if_pos d, if_neg (by omega), nI_1]
      · rw [if_neg d, if_pos (by omega), Int32.add_zero]
    have hy1 : nI (aY w h cx cy) = if (2 * cx + 1) * h < (2 * cy + 1) * w then nI cy + 0 else nI cy + 1 := by
      unfold aY
      by_cases d : (2 * cy + 1) * w ≤ (2 * cx + 1) * h
      · rw [if_pos d, if_neg (by omega), nI_1]
      · rw [if_neg d, if_pos (by omega), Int32.add_zero]
    have i1 := ih (l + 1) (aX w h cx cy) (aY w h cx cy) (q + 1) (by omega) l1 l2 (by omega)
    have i0 : jf_La_isFreeAlong_L48 b (nI x) (nI y) (nI ox) (nI oy) (nI w) (nI h) (q + 1) (nI (aX w h cx cy)) (nI (aY w h cx cy)) (nI (aP x ox (aX w h cx cy))) (nI (aP y oy (aY w h cx cy))) 0 (nI (l + 1)) = some 0 := by
      rw [jf_La_isFreeAlong_L48, if_pos rfl]
      split <;> rfl
    have fin : jf_La_isFreeAlong_L48 b (nI x) (nI y) (nI ox) (nI oy) (nI w) (nI h) (q + 1) (nI (aX w h cx cy)) (nI (aY w h cx cy)) (nI (aP x ox (aX w h cx cy))) (nI (aP y oy (aY w h cx cy))) (if (aC b x y ox oy (aX w h cx cy) (aY w h cx cy) && (aC b x y ox oy (aX w h cx cy) cy && aC b x y ox oy cx (aY w h cx cy))) = true then 1 else 0) (nI l + 1) = some (if ((aC b x y ox oy (aX w h cx cy) (aY w h cx cy) && (aC b x y ox oy (aX w h cx cy) cy && aC b x y ox oy cx (aY w h cx cy))) && aAll w h (aC b x y ox oy) j (aX w h cx cy) (aY w h cx cy)) = true then 1 else 0) := by
      rw [nI_1]
      cases (aC b x y ox oy (aX w h cx cy) (aY w h cx cy) && (aC b x y ox oy (aX w h cx cy) cy && aC b x y ox oy cx (aY w h cx cy))) with
      | true => rw [if_pos rfl, Bool.true_and]; exact i1
      | false => rw [if_neg (by decide), Bool.false_and]; exact i0
    rw [hx1, hy1] at fin
    simp only [jlet]
    rw [p1, p3, a_cmp (by omega) (by omega)]
    have b1 := aP_lt h1 h3 hw hcx
    have b2 := aP_lt h2 h4 hh hcy
    have b3 := aP_lt h1 h3 hw l1
    have b4 := aP_lt h2 h4 hh l2
    have eX : (2 * cy + 1) * w < (2 * cx + 1) * h → aX w h cx cy = cx := fun d => by unfold aX; rw [if_neg (by omega)]
    have eY : (2 * cx + 1) * h < (2 * cy + 1) * w → aY w h cx cy = cy := fun d => by unfold aY; rw [if_neg (by omega)]
    have this : ∀ (p : Prop) [Decidable p] (f : Int32 → Option Int32) (a c : Int32), (if p then f a else f c) = f (if p then a else c) := fun p _ f a c => by split <;> rfl
    generalize (2 * cx + 1) * h = A at *
    generalize (2 * cy + 1) * w = D at *
    by_cases q1 : A < D
    · have e := eY q1
      rw [if_neg (by omega)] at hX
      rw [if_pos q1, if_neg (show ¬ D < A by omega)] at fin
      rw [if_pos q1, if_pos (show (-1 : Int32) ≤ 0 by decide)]
      rw [e] at fin b4 ⊢
      unfold jf_La_isFreeAlong_b122
      rw [if_neg (show ¬ (0 : Int32) ≤ -1 by decide), if_neg (show ¬ (0 : Int32) ≤ -1 by decide), this _ (fun s => jf_La_isFreeAlong_b151 (jf_La_isFreeAlong_L48 b (nI x) (nI y) (nI ox) (nI oy) (nI w) (nI h) (q + 1)) b (nI x) (nI y) (nI ox) (nI oy) (nI w) (nI h) (nI cx) (nI cy) (nI (aP x ox cx)) (nI (aP y oy cy)) (nI l) (-1) s (nI (aP y oy cy))), hX, a_151 _ b _ _ _ _ _ _ _ _ _ _ b1 b2 b3 b4]
      unfold jf_La_isFreeAlong_b191 jf_La_isFreeAlong_b205 jf_La_isFreeAlong_b220
      simp only [jlet]
      rw [if_pos (show (-1 : Int32) ≤ 0 by decide), if_neg (show ¬ (0 : Int32) ≤ -1 by decide)]
      exact fin
    · rw [if_neg q1] at hY fin ⊢
      by_cases q2 : D < A
      · have e := eX q2
        rw [if_pos q2] at fin ⊢
        rw [e] at fin b3 ⊢
        rw [if_neg (show ¬ (1 : Int32) ≤ 0 by decide)]
        unfold jf_La_isFreeAlong_b122
        rw [if_pos (show (0 : Int32) ≤ 1 by decide), this _ (fun s => jf_La_isFreeAlong_b151 (jf_La_isFreeAlong_L48 b (nI x) (nI y) (nI ox) (nI oy) (nI w) (nI h) (q + 1)) b (nI x) (nI y) (nI ox) (nI oy) (nI w) (nI h) (nI cx) (nI cy) (nI (aP x ox cx)) (nI (aP y oy cy)) (nI l) 1 (nI (aP x ox cx)) s), hY, a_151 _ b _ _ _ _ _ _ _ _ _ _ b1 b2 b3 b4]
        unfold jf_La_isFreeAlong_b191 jf_La_isFreeAlong_b205 jf_La_isFreeAlong_b220
        simp only [jlet]
        rw [if_neg (show ¬ (1 : Int32) ≤ 0 by decide), if_pos (show (0 : Int32) ≤ 1 by decide)]
        exact fin
      · rw [if_neg q2] at hX fin ⊢
        rw [if_pos (show (0 : Int32) ≤ 0 by decide)]
        unfold jf_La_isFreeAlong_b122
        rw [if_pos (show (0 : Int32) ≤ 0 by decide), if_pos (show (0 : Int32) ≤ 0 by decide), this _ (fun s => jf_La_isFreeAlong_b151 (jf_La_isFreeAlong_L48 b (nI x) (nI y) (nI ox) (nI oy) (nI w) (nI h) (q + 1)) b (nI x) (nI y) (nI ox) (nI oy) (nI w) (nI h) (nI cx) (nI cy) (nI (aP x ox cx)) (nI (aP y oy cy)) (nI l) 0 (nI (aP x ox cx) - 1) s), this _ (fun s => jf_La_isFreeAlong_b151 (jf_La_isFreeAlong_L48 b (nI x) (nI y) (nI ox) (nI oy) (nI w) (nI h) (q + 1)) b (nI x) (nI y) (nI ox) (nI oy) (nI w) (nI h) (nI cx) (nI cy) (nI (aP x ox cx)) (nI (aP y oy cy)) (nI l) 0 (nI (aP x ox cx) + 1) s), hY, this _ (fun s => jf_La_isFreeAlong_b151 (jf_La_isFreeAlong_L48 b (nI x) (nI y) (nI ox) (nI oy) (nI w) (nI h) (q + 1)) b (nI x) (nI y) (nI ox) (nI oy) (nI w) (nI h) (nI cx) (nI cy) (nI (aP x ox cx)) (nI (aP y oy cy)) (nI l) 0 s (nI (aP y oy (aY w h cx cy)))), hX, a_151 _ b _ _ _ _ _ _ _ _ _ _ b1 b2 b3 b4]
        unfold jf_La_isFreeAlong_b191 jf_La_isFreeAlong_b205 jf_La_isFreeAlong_b220
        simp only [jlet]
        rw [if_pos (show (0 : Int32) ≤ 0 by decide), if_pos (show (0 : Int32) ≤ 0 by decide)]
        exact fin
theorem a_free {B : Nat → Bool} {x y ox oy : Nat} : lFree B x y ox oy ↔ ∀ kx ky, kx ≤ ((ox : Int) - x).natAbs → ky ≤ ((oy : Int) - y).natAbs → aRel ((ox : Int) - x).natAbs ((oy : Int) - y).natAbs kx ky = true → (!B (aP x ox kx + 8 * aP y oy ky)) = true := by
  constructor
  · intro h kx ky h1 h2 h3
    rw [← a_met h1 h2] at h3
    have ⟨b1, b2⟩ : min x ox ≤ aP x ox kx ∧ aP x ox kx ≤ max x ox := by unfold aP; split <;> omega
    have ⟨b3, b4⟩ : min y oy ≤ aP y oy ky ∧ aP y oy ky ≤ max y oy := by unfold aP; split <;> omega
    rw [h _ _ b1 b2 b3 b4 h3]; rfl
  · intro h u v b1 b2 b3 b4 h3
    have e1 : aP x ox ((u : Int) - x).natAbs = u := by unfold aP; split <;> omega
    have e2 : aP y oy ((v : Int) - y).natAbs = v := by unfold aP; split <;> omega
    have l1 : ((u : Int) - x).natAbs ≤ ((ox : Int) - x).natAbs := by omega
    have l2 : ((v : Int) - y).natAbs ≤ ((oy : Int) - y).natAbs := by omega
    have := h _ _ l1 l2 (by rw [← a_met l1 l2, e1, e2]; exact h3)
    rw [e1, e2] at this
    exact jnot this
theorem a_sight (b : Int64) {x y ox oy : Nat} (h1 : x < 8) (h2 : y < 8) (h3 : ox < 8) (h4 : oy < 8) : ∃ g : Bool, jf_La_isFreeAlong b (nI x) (nI y) (nI ox) (nI oy) = some (if g then 1 else 0) ∧ (g = true ↔ lFree (jbit b) x y ox oy) := by
  have hc := a_cells (w := ((ox : Int) - x).natAbs) (h := ((oy : Int) - y).natAbs) (by omega) (by omega) (aC b x y ox oy)
  have hf : lFree (jbit b) x y ox oy ↔ _ := a_free
  have ha : ∀ a c : Nat, a < 8 → c < 8 → jabs (nI c - nI a) = nI ((c : Int) - a).natAbs := fun a c h h' => by
    rw [zI_n c, zI_n a, zI_sub, zI_abs (by omega), zI_n]
  have hl := a_loop b h1 h2 h3 h4 rfl rfl 14 0 0 0 jF (by omega) (Nat.zero_le _) (Nat.zero_le _) (jF_gt (by omega))
  have h00 : aC b x y ox oy 0 0 = !jbit b (x + 8 * y) := by
    unfold aC aP
    rw [show (if x < ox then x + 0 else x - 0) = x by split <;> omega, show (if y < oy then y + 0 else y - 0) = y by split <;> omega]
  have hP : aP x ox 0 = x ∧ aP y oy 0 = y := by unfold aP; constructor <;> split <;> omega
  rw [hP.1, hP.2] at hl
  have hz : jf_La_isFreeAlong_L48 b (nI x) (nI y) (nI ox) (nI oy) (nI ((ox : Int) - x).natAbs) (nI ((oy : Int) - y).natAbs) jF 0 0 (nI x) (nI y) 0 0 = some 0 := by
    have hj : jF = (jF - 1) + 1 := by have := jF_gt (n := 1) (by omega); omega
    rw [hj, jf_La_isFreeAlong_L48, if_pos rfl]
    split <;> rfl
  unfold jf_La_isFreeAlong jf_La_isFreeAlong_b43
  simp only [jlet]
  rw [ha x ox h1 h3, ha y oy h2 h4, jbl_block b h1 h2 (lcell x h1 y h2).1, hz]
  rw [h00] at hc
  unfold aC at hc hl
  rw [hf, ← hc]
  cases hb : jbit b (x + 8 * y) with
  | true =>
    refine ⟨false, rfl, ?_⟩
    constructor
    · intro h; cases h
    · intro h; cases h.1
  | false =>
    rw [if_pos (by decide)]
    have hl2 : jf_La_isFreeAlong_L48 b (nI x) (nI y) (nI ox) (nI oy) (nI ((ox : Int) - x).natAbs) (nI ((oy : Int) - y).natAbs) jF 0 0 (nI x) (nI y) 1 0 = _ := hl
    rw [hl2]
    generalize aAll ((ox : Int) - x).natAbs ((oy : Int) - y).natAbs (fun kx ky => !jbit b (aP x ox kx + 8 * aP y oy ky)) 14 0 0 = g at *
    refine ⟨g, ?_, ?_⟩
    · cases g <;> rfl
    · constructor
      · intro h; exact ⟨rfl, h⟩
      · intro h; exact h.2
