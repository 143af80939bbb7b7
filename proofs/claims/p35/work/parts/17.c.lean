/-! lamps: small whole numbers of either sign -/
def zI (z : Int) : Int32 := Int32.ofInt z
theorem zI_n (n : Nat) : nI n = zI n := Int32.ofInt_eq_ofNat.symm
theorem zI_add (a b : Int) : zI a + zI b = zI (a + b) := (Int32.ofInt_add a b).symm
theorem zI_sub (a b : Int) : zI a - zI b = zI (a - b) := (Int32.ofInt_sub a b).symm
theorem zI_mul (a b : Int) : zI a * zI b = zI (a * b) := (Int32.ofInt_mul a b).symm
theorem zI_toInt {a : Int} (h : -1000 ≤ a ∧ a ≤ 1000) : (zI a).toInt = a := Int32.toInt_ofInt_of_le (by omega) (by omega)
theorem zI_le {a b : Int} (h : -1000 ≤ a ∧ a ≤ 1000) (h2 : -1000 ≤ b ∧ b ≤ 1000) : zI a ≤ zI b ↔ a ≤ b := by
  rw [Int32.le_iff_toInt_le, zI_toInt h, zI_toInt h2]
theorem zI_lt {a b : Int} (h : -1000 ≤ a ∧ a ≤ 1000) (h2 : -1000 ≤ b ∧ b ≤ 1000) : zI a < zI b ↔ a < b := by
  rw [Int32.lt_iff_toInt_lt, zI_toInt h, zI_toInt h2]
theorem zI_abs {a : Int} (h : -1000 ≤ a ∧ a ≤ 1000) : jabs (zI a) = zI (a.natAbs : Int) := by
  unfold jabs
  rw [show (0 : Int32) = zI 0 from rfl]
  by_cases c : 0 ≤ a
  · rw [if_pos ((zI_le (by omega) h).2 c)]; congr 1; omega
  · rw [if_neg (fun k => c ((zI_le (by omega) h).1 k)), zI_sub]; congr 1; omega
theorem zI_least {a b : Int} (h : -1000 ≤ a ∧ a ≤ 1000) (h2 : -1000 ≤ b ∧ b ≤ 1000) : jf_Mo_least (zI a) (zI b) = zI (min a b) := by
  unfold jf_Mo_least
  by_cases c : b ≤ a
  · rw [if_pos ((zI_le h2 h).2 c)]; congr 1; omega
  · rw [if_neg (fun k => c ((zI_le h2 h).1 k))]; congr 1; omega
theorem zI_most {a b : Int} (h : -1000 ≤ a ∧ a ≤ 1000) (h2 : -1000 ≤ b ∧ b ≤ 1000) : jf_Mo_most (zI a) (zI b) = zI (max a b) := by
  unfold jf_Mo_most
  by_cases c : a ≤ b
  · rw [if_pos ((zI_le h h2).2 c)]; congr 1; omega
  · rw [if_neg (fun k => c ((zI_le h h2).1 k))]; congr 1; omega
theorem z_mul7 {a b : Int} (ha : -7 ≤ a ∧ a ≤ 7) (hb : -7 ≤ b ∧ b ≤ 7) : -49 ≤ a * b ∧ a * b ≤ 49 := by
  have h1 := Int.natAbs_mul a b
  have h2 : a.natAbs * b.natAbs ≤ 7 * 7 := Nat.mul_le_mul (by omega) (by omega)
  omega
theorem z_lin (d v y : Int) : d * (2 * v - 2 * y - 1) = 2 * (d * (v - y)) - d := by
  have e1 := Int.mul_sub d (2 * v - 2 * y) 1
  have e2 := Int.mul_sub d (2 * v) (2 * y)
  have e3 := Int.mul_left_comm d 2 v
  have e4 := Int.mul_left_comm d 2 y
  have e5 := Int.mul_sub d v y
  rw [Int.mul_one] at e1
  omega
theorem z_lin1 (d v y : Int) : d * (v + 1 - y) = d * (v - y) + d := by
  rw [show v + 1 - y = (v - y) + 1 by omega, Int.mul_add, Int.mul_one]
theorem z_4 {a b c d : Int} (ha : -500 ≤ a ∧ a ≤ 500) (hb : -500 ≤ b ∧ b ≤ 500) (hc : -500 ≤ c ∧ c ≤ 500) (hd : -500 ≤ d ∧ d ≤ 500) : (if zI 0 < jf_Mo_least (jf_Mo_least (zI a) (zI b)) (jf_Mo_least (zI c) (zI d)) then zI 0 else if jf_Mo_most (jf_Mo_most (zI a) (zI b)) (jf_Mo_most (zI c) (zI d)) < zI 0 then zI 0 else zI 1) = if (0 < a ∧ 0 < b ∧ 0 < c ∧ 0 < d) ∨ (a < 0 ∧ b < 0 ∧ c < 0 ∧ d < 0) then zI 0 else zI 1 := by
  rw [zI_least (by omega) (by omega), zI_least (by omega) (by omega), zI_most (by omega) (by omega), zI_most (by omega) (by omega)]
  have b1 : -500 ≤ min a b ∧ min a b ≤ 500 := by omega
  have b2 : -500 ≤ min c d ∧ min c d ≤ 500 := by omega
  have b3 : -500 ≤ max a b ∧ max a b ≤ 500 := by omega
  have b4 : -500 ≤ max c d ∧ max c d ≤ 500 := by omega
  rw [zI_least (by omega) (by omega), zI_most (by omega) (by omega)]
  have b5 : -500 ≤ min (min a b) (min c d) ∧ min (min a b) (min c d) ≤ 500 := by omega
  have b6 : -500 ≤ max (max a b) (max c d) ∧ max (max a b) (max c d) ≤ 500 := by omega
  by_cases h1 : 0 < min (min a b) (min c d)
  · rw [if_pos ((zI_lt (by omega) (by omega)).2 h1), if_pos (by omega)]
  · rw [if_neg (fun k => h1 ((zI_lt (by omega) (by omega)).1 k))]
    by_cases h2 : max (max a b) (max c d) < 0
    · rw [if_pos ((zI_lt (by omega) (by omega)).2 h2), if_pos (by omega)]
    · rw [if_neg (fun k => h2 ((zI_lt (by omega) (by omega)).1 k)), if_neg (by omega)]
/-- whether the line from a cell's middle to another's meets a third cell -/
def lMet (x y ox oy u v : Nat) : Bool := decide (2 * (((ox : Int) - x) * ((v : Int) - y) - ((oy : Int) - y) * ((u : Int) - x)).natAbs ≤ ((ox : Int) - x).natAbs + ((oy : Int) - y).natAbs)
def lFree (B : Nat → Bool) (x y ox oy : Nat) : Prop := ∀ u v, min x ox ≤ u → u ≤ max x ox → min y oy ≤ v → v ≤ max y oy → lMet x y ox oy u v = true → B (u + 8 * v) = false
theorem lc_met {x y ox oy u v : Nat} (h1 : x < 8) (h2 : y < 8) (h3 : ox < 8) (h4 : oy < 8) (h5 : u < 8) (h6 : v < 8) : jf_La_isMet (nI ox - nI x) (nI oy - nI y) (nI u - nI x) (nI v - nI y) = if lMet x y ox oy u v then 1 else 0 := by
  unfold jf_La_isMet lMet
  simp only [jlet, zI_n, zI_sub, zI_mul]
  have m1 := z_mul7 (a := (ox : Int) - x) (b := (v : Int) - y) (by omega) (by omega)
  have m2 := z_mul7 (a := (oy : Int) - y) (b := (u : Int) - x) (by omega) (by omega)
  generalize ((ox : Int) - x) * ((v : Int) - y) = P at *
  generalize ((oy : Int) - y) * ((u : Int) - x) = Q at *
  rw [zI_abs (by omega), zI_abs (by omega), zI_abs (by omega), show (2 : Int32) = zI 2 from rfl, zI_mul, zI_add]
  by_cases c : 2 * (P - Q).natAbs ≤ ((ox : Int) - x).natAbs + ((oy : Int) - y).natAbs
  · rw [if_neg (fun k => by rw [zI_lt (by omega) (by omega)] at k; omega), if_pos (decide_eq_true c)]
  · rw [if_pos ((zI_lt (by omega) (by omega)).2 (by omega)), if_neg (by rw [decide_eq_true_iff]; exact c)]
theorem lm_met {x y ox oy u v : Nat} (h1 : x < 8) (h2 : y < 8) (h3 : ox < 8) (h4 : oy < 8) (h5 : u < 8) (h6 : v < 8) : jf_Mo_meets (nI x) (nI y) (nI ox) (nI oy) (nI u) (nI v) = if (min x ox ≤ u ∧ u ≤ max x ox ∧ min y oy ≤ v ∧ v ≤ max y oy) ∧ lMet x y ox oy u v = true then 1 else 0 := by
  have key : (jlet (nI ox - nI x) (fun y6_1 => jlet (nI oy - nI y) (fun y7_1 => jlet (jf_Mo_sideOf (nI x) (nI y) y6_1 y7_1 (nI u) (nI v)) (fun y8_1 => jlet (jf_Mo_sideOf (nI x) (nI y) y6_1 y7_1 (nI u + 1) (nI v)) (fun y9_1 => jlet (jf_Mo_sideOf (nI x) (nI y) y6_1 y7_1 (nI u) (nI v + 1)) (fun y10_1 => jlet (jf_Mo_sideOf (nI x) (nI y) y6_1 y7_1 (nI u + 1) (nI v + 1)) (fun y11_1 => if 0 < (jf_Mo_least (jf_Mo_least y8_1 y9_1) (jf_Mo_least y10_1 y11_1)) then (0 : Int32) else (if (jf_Mo_most (jf_Mo_most y8_1 y9_1) (jf_Mo_most y10_1 y11_1)) < 0 then 0 else 1)))))))) = if lMet x y ox oy u v = true then 1 else 0 := by
    unfold jf_Mo_sideOf lMet
    simp only [jlet, zI_n, show (1 : Int32) = zI 1 from rfl, show (2 : Int32) = zI 2 from rfl, show (0 : Int32) = zI 0 from rfl, zI_sub, zI_add, zI_mul, z_lin, z_lin1]
    have m1 := z_mul7 (a := (ox : Int) - x) (b := (v : Int) - y) (by omega) (by omega)
    have m2 := z_mul7 (a := (oy : Int) - y) (b := (u : Int) - x) (by omega) (by omega)
    generalize ((ox : Int) - x) * ((v : Int) - y) = P at *
    generalize ((oy : Int) - y) * ((u : Int) - x) = Q at *
    have d1 : -7 ≤ (ox : Int) - x ∧ (ox : Int) - x ≤ 7 := by omega
    have d2 : -7 ≤ (oy : Int) - y ∧ (oy : Int) - y ≤ 7 := by omega
    generalize (ox : Int) - x = X at *
    generalize (oy : Int) - y = Y at *
    clear h1 h2 h3 h4 h5 h6
    rw [z_4 (by omega) (by omega) (by omega) (by omega)]
    by_cases c : 2 * (P - Q).natAbs ≤ X.natAbs + Y.natAbs
    · rw [if_pos (decide_eq_true c), if_neg (by omega)]
    · rw [if_neg (show ¬ decide (2 * (P - Q).natAbs ≤ X.natAbs + Y.natAbs) = true by rw [decide_eq_true_iff]; exact c), if_pos (by omega)]
  unfold jf_Mo_meets
  have a1 : jf_Mo_least (nI x) (nI ox) = nI (min x ox) := by
    unfold jf_Mo_least
    by_cases c : ox ≤ x
    · rw [if_pos (nI_le c (by omega))]; congr 1; omega
    · rw [if_neg (nI_ge (by omega) (by omega))]; congr 1; omega
  have a2 : jf_Mo_least (nI y) (nI oy) = nI (min y oy) := by
    unfold jf_Mo_least
    by_cases c : oy ≤ y
    · rw [if_pos (nI_le c (by omega))]; congr 1; omega
    · rw [if_neg (nI_ge (by omega) (by omega))]; congr 1; omega
  have a3 : jf_Mo_most (nI x) (nI ox) = nI (max x ox) := by
    unfold jf_Mo_most
    by_cases c : x ≤ ox
    · rw [if_pos (nI_le c (by omega))]; congr 1; omega
    · rw [if_neg (nI_ge (by omega) (by omega))]; congr 1; omega
  have a4 : jf_Mo_most (nI y) (nI oy) = nI (max y oy) := by
    unfold jf_Mo_most
    by_cases c : y ≤ oy
    · rw [if_pos (nI_le c (by omega))]; congr 1; omega
    · rw [if_neg (nI_ge (by omega) (by omega))]; congr 1; omega
  rw [a1, a2, a3, a4, key]
  clear a1 a2 a3 a4 key
  by_cases c1 : u < min x ox
  · rw [if_pos (nI_lt c1 (by omega)), if_neg (by omega)]
  rw [if_neg (nI_nlt (by omega) (by omega))]
  by_cases c2 : max x ox < u
  · rw [if_pos (nI_lt c2 (by omega)), if_neg (by omega)]
  rw [if_neg (nI_nlt (by omega) (by omega))]
  by_cases c3 : v < min y oy
  · rw [if_pos (nI_lt c3 (by omega)), if_neg (by omega)]
  rw [if_neg (nI_nlt (by omega) (by omega))]
  by_cases c4 : v ≤ max y oy
  · rw [if_pos (nI_le c4 (by omega))]
    by_cases c5 : lMet x y ox oy u v = true
    · rw [if_pos c5, if_pos ⟨by omega, c5⟩]
    · rw [if_neg c5, if_neg (fun k => c5 k.2)]
  · rw [if_neg (nI_ge (by omega) (by omega)), if_neg (by omega)]
theorem lcell : ∀ u, u < 8 → ∀ v, v < 8 → jf_Bi_isCell (nI u) (nI v) = 1 ∧ jf_Mo_isCell (nI u) (nI v) = 1 := by
  have h : jall 8 (fun u => jall 8 (fun v => decide (jf_Bi_isCell (nI u) (nI v) = 1 ∧ jf_Mo_isCell (nI u) (nI v) = 1))) = true := by decide +kernel
  intro u hu v hv
  exact of_decide_eq_true (jall_at (jall_at h u hu) v hv)
theorem lMet_0 (x y ox oy : Nat) : lMet x y ox oy x y = true := by
  unfold lMet
  rw [Int.sub_self, Int.sub_self, Int.mul_zero, Int.mul_zero]
  simp
theorem lMet_1 (x y ox oy : Nat) : lMet x y ox oy ox oy = true := by
  unfold lMet
  rw [Int.mul_comm ((ox : Int) - x), Int.sub_self]
  simp
