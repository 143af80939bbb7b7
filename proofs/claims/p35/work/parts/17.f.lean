/-! along the line, from one line between cells to the next -/
def aX (w h cx cy : Nat) : Nat := if (2 * cx + 1) * h ≤ (2 * cy + 1) * w then cx + 1 else cx
def aY (w h cx cy : Nat) : Nat := if (2 * cy + 1) * w ≤ (2 * cx + 1) * h then cy + 1 else cy
def aP (x ox k : Nat) : Nat := if x < ox then x + k else x - k
def aAll (w h : Nat) (C : Nat → Nat → Bool) : Nat → Nat → Nat → Bool
  | 0, _, _ => true
  | j + 1, cx, cy => if w + h ≤ cx + cy then true else (C (aX w h cx cy) (aY w h cx cy) && (C (aX w h cx cy) cy && C cx (aY w h cx cy))) && aAll w h C j (aX w h cx cy) (aY w h cx cy)
def aCells (w h : Nat) : Nat → Nat → Nat → List (Nat × Nat)
  | 0, _, _ => []
  | j + 1, cx, cy => if w + h ≤ cx + cy then [] else (aX w h cx cy, aY w h cx cy) :: (aX w h cx cy, cy) :: (cx, aY w h cx cy) :: aCells w h j (aX w h cx cy) (aY w h cx cy)
theorem aAll_cells (w h : Nat) (C : Nat → Nat → Bool) : ∀ j cx cy, aAll w h C j cx cy = (aCells w h j cx cy).all (fun p => C p.1 p.2)
  | 0, _, _ => rfl
  | j + 1, cx, cy => by
    rw [aAll, aCells]
    by_cases c : w + h ≤ cx + cy
    · rw [if_pos c, if_pos c]; rfl
    · rw [if_neg c, if_neg c, aAll_cells w h C j]
      simp only [List.all_cons, Bool.and_assoc]
theorem a_le0 : jall 8 (fun w => jall 8 (fun h => jall 8 (fun cx => jall 8 (fun cy => decide (cx ≤ w → cy ≤ h → cx + cy < w + h → aX w h cx cy ≤ w ∧ aY w h cx cy ≤ h))))) = true := by decide +kernel
theorem a_le {w h cx cy : Nat} (hw : w < 8) (hh : h < 8) (h1 : cx ≤ w) (h2 : cy ≤ h) (h3 : cx + cy < w + h) : aX w h cx cy ≤ w ∧ aY w h cx cy ≤ h :=
  of_decide_eq_true (jall_at (jall_at (jall_at (jall_at a_le0 w hw) h hh) cx (by omega)) cy (by omega)) h1 h2 h3
def aRel (w h kx ky : Nat) : Bool := decide (2 * (w * ky) ≤ 2 * (h * kx) + (w + h)) && decide (2 * (h * kx) ≤ 2 * (w * ky) + (w + h))
theorem a_cells0 : jall 8 (fun w => jall 8 (fun h => (aCells w h 14 0 0).all (fun p => decide (p.1 ≤ w) && decide (p.2 ≤ h) && aRel w h p.1 p.2) && jall (w + 1) (fun kx => jall (h + 1) (fun ky => !aRel w h kx ky || (kx == 0 && ky == 0) || (aCells w h 14 0 0).any (fun p => p.1 == kx && p.2 == ky))))) = true := by decide +kernel
theorem a_cells {w h : Nat} (hw : w < 8) (hh : h < 8) (C : Nat → Nat → Bool) : (C 0 0 = true ∧ aAll w h C 14 0 0 = true) ↔ ∀ kx ky, kx ≤ w → ky ≤ h → aRel w h kx ky = true → C kx ky = true := by
  have k := jall_at (jall_at a_cells0 w hw) h hh
  rw [Bool.and_eq_true] at k
  obtain ⟨k1, k2⟩ := k
  rw [List.all_eq_true] at k1
  rw [aAll_cells, List.all_eq_true]
  constructor
  · intro ⟨c0, c⟩ kx ky h1 h2 h3
    have k3 := jall_at (jall_at k2 kx (by omega)) ky (by omega)
    rw [h3, Bool.not_true, Bool.false_or, Bool.or_eq_true] at k3
    rcases k3 with k3 | k3
    · rw [Bool.and_eq_true, beq_iff_eq, beq_iff_eq] at k3
      rw [k3.1, k3.2]; exact c0
    · rw [List.any_eq_true] at k3
      obtain ⟨p, hp, k4⟩ := k3
      rw [Bool.and_eq_true, beq_iff_eq, beq_iff_eq] at k4
      have := c p hp
      rw [k4.1, k4.2] at this; exact this
  · intro c
    refine ⟨c 0 0 (by omega) (by omega) ?_, fun p hp => ?_⟩
    · unfold aRel; simp
    · have := k1 p hp
      rw [Bool.and_eq_true, Bool.and_eq_true, decide_eq_true_iff, decide_eq_true_iff] at this
      exact c p.1 p.2 this.1.1 this.1.2 this.2
theorem a_met {x y ox oy kx ky : Nat} (h1 : kx ≤ ((ox : Int) - x).natAbs) (h2 : ky ≤ ((oy : Int) - y).natAbs) : lMet x y ox oy (aP x ox kx) (aP y oy ky) = aRel ((ox : Int) - x).natAbs ((oy : Int) - y).natAbs kx ky := by
  have hw : ∃ w : Nat, w = ((ox : Int) - x).natAbs := ⟨_, rfl⟩
  have hh : ∃ h : Nat, h = ((oy : Int) - y).natAbs := ⟨_, rfl⟩
  obtain ⟨w, hw⟩ := hw
  obtain ⟨h, hh⟩ := hh
  unfold lMet aRel aP
  rw [← hw, ← hh]
  rw [← hw] at h1
  rw [← hh] at h2
  have p1 : ((w * ky : Nat) : Int) = (w : Int) * (ky : Int) := Int.natCast_mul w ky
  have p2 : ((h * kx : Nat) : Int) = (h : Int) * (kx : Int) := Int.natCast_mul h kx
  have key : ∀ D : Int, (D = (w * ky : Nat) - (h * kx : Nat) ∨ D = (h * kx : Nat) - (w * ky : Nat)) → decide (2 * D.natAbs ≤ w + h) = (decide (2 * (w * ky) ≤ 2 * (h * kx) + (w + h)) && decide (2 * (h * kx) ≤ 2 * (w * ky) + (w + h))) := by
    intro D hD
    rw [Bool.eq_iff_iff, Bool.and_eq_true, decide_eq_true_iff, decide_eq_true_iff, decide_eq_true_iff]
    generalize w * ky = P at *
    generalize h * kx = Q at *
    omega
  by_cases cx : x < ox
  · rw [if_pos cx, show ((x + kx : Nat) : Int) - x = kx by omega, show (ox : Int) - x = w by omega]
    by_cases cy : y < oy
    · rw [if_pos cy, show ((y + ky : Nat) : Int) - y = ky by omega, show (oy : Int) - y = h by omega]
      exact key _ (Or.inl (by rw [p1, p2]))
    · rw [if_neg cy, show ((y - ky : Nat) : Int) - y = -(ky : Int) by omega, show (oy : Int) - y = -(h : Int) by omega]
      exact key _ (Or.inr (by rw [p1, p2, Int.mul_neg, Int.neg_mul]; omega))
  · rw [if_neg cx, show ((x - kx : Nat) : Int) - x = -(kx : Int) by omega, show (ox : Int) - x = -(w : Int) by omega]
    by_cases cy : y < oy
    · rw [if_pos cy, show ((y + ky : Nat) : Int) - y = ky by omega, show (oy : Int) - y = h by omega]
      exact key _ (Or.inr (by rw [p1, p2, Int.mul_neg, Int.neg_mul]; omega))
    · rw [if_neg cy, show ((y - ky : Nat) : Int) - y = -(ky : Int) by omega, show (oy : Int) - y = -(h : Int) by omega]
      exact key _ (Or.inl (by rw [p1, p2, Int.neg_mul_neg, Int.neg_mul_neg]))
theorem a_cmp {a c : Nat} (ha : a < 2 ^ 31) (hc : c < 2 ^ 31) : jf_In_compare (nI a) (nI c) = if a < c then -1 else if c < a then 1 else 0 := by
  unfold jf_In_compare
  by_cases h : a < c
  · rw [if_pos h, if_neg (nI_ge h hc)]
  · rw [if_neg h, if_pos (nI_le (by omega) ha)]
    by_cases h2 : c < a
    · rw [if_pos h2, if_neg (by rw [nI_eq ha hc]; omega)]
    · rw [if_neg h2, if_pos (by rw [nI_eq ha hc]; omega)]
def aC (b : Int64) (x y ox oy kx ky : Nat) : Bool := !jbit b (aP x ox kx + 8 * aP y oy ky)
theorem aC_at (b : Int64) {x y ox oy kx ky : Nat} (h1 : aP x ox kx < 8) (h2 : aP y oy ky < 8) : jf_Ro_isBlock b (nI (aP x ox kx)) (nI (aP y oy ky)) = if aC b x y ox oy kx ky then 0 else 1 := by
  rw [jbl_block b h1 h2 (lcell _ h1 _ h2).1]
  unfold aC
  cases jbit b (aP x ox kx + 8 * aP y oy ky) <;> rfl
theorem a_151 (self : Int32 → Int32 → Int32 → Int32 → Int32 → Int32 → Option Int32) (b : Int64) {x y ox oy cx cy kx ky : Nat} (z1 z2 z3 z4 z5 z6 z7 z8 z12 z13 : Int32) (h1 : aP x ox cx < 8) (h2 : aP y oy cy < 8) (h3 : aP x ox kx < 8) (h4 : aP y oy ky < 8) : jf_La_isFreeAlong_b151 self b z1 z2 z3 z4 z5 z6 z7 z8 (nI (aP x ox cx)) (nI (aP y oy cy)) z12 z13 (nI (aP x ox kx)) (nI (aP y oy ky)) = jf_La_isFreeAlong_b191 self b z1 z2 z3 z4 z5 z6 z7 z8 z12 z13 (nI (aP x ox kx)) (nI (aP y oy ky)) (if (aC b x y ox oy kx ky && (aC b x y ox oy kx cy && aC b x y ox oy cx ky)) = true then 1 else 0) := by
  unfold jf_La_isFreeAlong_b151 jf_La_isFreeAlong_b190
  rw [aC_at b h3 h4, aC_at b h3 h2, aC_at b h1 h4]
  cases aC b x y ox oy kx ky <;> cases aC b x y ox oy kx cy <;> cases aC b x y ox oy cx ky <;> rfl

