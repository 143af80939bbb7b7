/-! lamps: small whole numbers of either sign -/
def zI (z : Int) : Int32 := Int32.ofInt z
theorem zI_n (n : Nat) : nI n = zI n := Int32.ofInt_eq_ofNat.symm
theorem zI_add (a b : Int) : zI a + zI b = zI (a + b) := (Int32.ofInt_add a b).symm
theorem zI_sub (a b : Int) : zI a - zI b = zI (a - b) := (Int32.ofInt_sub a b).symm
theorem zI_mul (a b : Int) : zI a * zI b = zI (a * b) := (Int32.ofInt_mul a b).symm
theorem zI_toInt {a : Int} (h : -1000 ≤ a ∧ a ≤ 1000) : (zI a).toInt = a := Int32.toInt_ofInt_of_le (by omega) (by omega)
theorem zI_le {a b : Int} (h : -1000 ≤ a ∧ a ≤ 1000) (h2 : -1000 ≤ b ∧ b ≤ 1000) : zI a ≤ zI b ↔ a ≤ b := by
  rw [Int32.le_iff_toInt_le, zI_toInt h, zI_toInt h2]
theorem zI_lt {a b : Int} (h : -1000 ≤ a ∧ a ≤ 1000) (h2 : -1000 ≤ b ∧ b ≤ 1000) : zI a < zI b ↔ a < b := by
  rw [Int32.lt_iff_toInt_lt, zI_toInt h, zI_toInt h2]
theorem zI_abs {a : Int} (h : -1000 ≤ a ∧ a ≤ 1000) : jabs (zI a) = zI (a.natAbs : Int) := by
  unfold jabs
  rw [show (0 : Int32) = zI 0 from rfl]
  by_cases c : 0 ≤ a
  · rw [if_pos ((zI_le (by omega) h).2 c)]; congr 1; omega
  · rw [if_neg (fun k => c ((zI_le (by omega) h).1 k)), zI_sub]; congr 1; omega
theorem z_mul7 {a b : Int} (ha : -7 ≤ a ∧ a ≤ 7) (hb : -7 ≤ b ∧ b ≤ 7) : -49 ≤ a * b ∧ a * b ≤ 49 := by
  have h1 := Int.natAbs_mul a b
  have h2 : a.natAbs * b.natAbs ≤ 7 * 7 := Nat.mul_le_mul (by omega) (by omega)
  omega
/-- whether the line from a cell's middle to another's meets a third cell -/
def lMet (x y ox oy u v : Nat) : Bool := decide (2 * (((ox : Int) - x) * ((v : Int) - y) - ((oy : Int) - y) * ((u : Int) - x)).natAbs ≤ ((ox : Int) - x).natAbs + ((oy : Int) - y).natAbs)
def lFree (B : Nat → Bool) (x y ox oy : Nat) : Prop := ∀ u v, min x ox ≤ u → u ≤ max x ox → min y oy ≤ v → v ≤ max y oy → lMet x y ox oy u v = true → B (u + 8 * v) = false
theorem lc_met {x y ox oy u v : Nat} (h1 : x < 8) (h2 : y < 8) (h3 : ox < 8) (h4 : oy < 8) (h5 : u < 8) (h6 : v < 8) : jf_La_isMet (nI ox - nI x) (nI oy - nI y) (nI u - nI x) (nI v - nI y) = if lMet x y ox oy u v then 1 else 0 := by
  unfold jf_La_isMet lMet
  simp only [jlet, zI_n, zI_sub, zI_mul]
  have m1 := z_mul7 (a := (ox : Int) - x) (b := (v : Int) - y) (by omega) (by omega)
  have m2 := z_mul7 (a := (oy : Int) - y) (b := (u : Int) - x) (by omega) (by omega)
  generalize ((ox : Int) - x) * ((v : Int) - y) = P at *
  generalize ((oy : Int) - y) * ((u : Int) - x) = Q at *
  rw [zI_abs (by omega), zI_abs (by omega), zI_abs (by omega), show (2 : Int32) = zI 2 from rfl, zI_mul, zI_add]
  by_cases c : 2 * (P - Q).natAbs ≤ ((ox : Int) - x).natAbs + ((oy : Int) - y).natAbs
  · rw [if_neg (fun k => by rw [zI_lt (by omega) (by omega)] at k; omega), if_pos (decide_eq_true c)]
  · rw [if_pos ((zI_lt (by omega) (by omega)).2 (by omega)), if_neg (by rw [decide_eq_true_iff]; exact c)]
theorem lcell : ∀ u, u < 8 → ∀ v, v < 8 → jf_Bi_isCell (nI u) (nI v) = 1 ∧ jf_Mo_isCell (nI u) (nI v) = 1 := by
  have h : jall 8 (fun u => jall 8 (fun v => decide (jf_Bi_isCell (nI u) (nI v) = 1 ∧ jf_Mo_isCell (nI u) (nI v) = 1))) = true := by decide +kernel
  intro u hu v hv
  exact of_decide_eq_true (jall_at (jall_at h u hu) v hv)
