def jU (b : Int64) : Nat := b.toBitVec.toNat
theorem jU_lt (b : Int64) : jU b < 2 ^ 64 := b.toBitVec.isLt
theorem jU_shr (b : Int64) {k : Nat} (hk : k < 64) : jU (jlushr b (nI k)) = jU b / 2 ^ k := by rw [jU, jlushr_nat b hk, Nat.shiftRight_eq_div_pow]; rfl
theorem jU_and (a b : Int64) : jU (a &&& b) = jU a &&& jU b := by unfold jU; rw [Int64.toBitVec_and, BitVec.toNat_and]
theorem jU_add {a b : Int64} (h : jU a + jU b < 2 ^ 64) : jU (a + b) = jU a + jU b := by
  unfold jU at *
  rw [Int64.toBitVec_add, BitVec.toNat_add, Nat.mod_eq_of_lt h]
theorem jU_sub {a b : Int64} (h : jU b ≤ jU a) : jU (a - b) = jU a - jU b := by
  unfold jU at *
  rw [Int64.toBitVec_sub, BitVec.toNat_sub_of_le (BitVec.le_def.2 h)]
theorem jU_5 : jU 6148914691236517205 = pM 0x55 8 := by decide +kernel
theorem jU_3 : jU 3689348814741910323 = pM 0x33 8 := by decide +kernel
theorem jU_f : jU 1085102592571150095 = pM 0x0f 8 := by decide +kernel
theorem pM3_8 : pM 0x33 8 ≤ 3689348814741910323 := by decide +kernel
theorem jbits (b : Int64) : jf_Lo_bitCount b = nI (jcnt 64 (jbit b)) := by
  have hx := jU_lt b
  obtain ⟨y, hy, h8, hlt, hS⟩ := pG_bits hx
  have n1 : jU (b - ((jlushr b 1) &&& 6148914691236517205)) = pF1 8 (jU b) := by
    have e : jU ((jlushr b 1) &&& 6148914691236517205) = (jU b >>> 1) &&& pM 0x55 8 := by
      rw [jU_and, jU_5, show (1 : Int32) = nI 1 from rfl, jU_shr b (by decide), Nat.shiftRight_eq_div_pow]
    rw [jU_sub (by rw [e]; exact pF1_le 8 _), e]; rfl
  unfold jf_Lo_bitCount
  simp only [jlet]
  generalize b - ((jlushr b 1) &&& 6148914691236517205) = b1 at *
  have n2 : jU ((b1 &&& 3689348814741910323) + ((jlushr b1 2) &&& 3689348814741910323)) = pF2 8 (jU b1) ∧ pF2 8 (jU b1) ≤ 2 * 3689348814741910323 := by
    have e : jU (b1 &&& 3689348814741910323) = jU b1 &&& pM 0x33 8 := by rw [jU_and, jU_3]
    have e2 : jU ((jlushr b1 2) &&& 3689348814741910323) = (jU b1 >>> 2) &&& pM 0x33 8 := by
      rw [jU_and, jU_3, show (2 : Int32) = nI 2 from rfl, jU_shr b1 (by decide), Nat.shiftRight_eq_div_pow]
    have l1 : jU b1 &&& pM 0x33 8 ≤ 3689348814741910323 := Nat.le_trans Nat.and_le_right pM3_8
    have l2 : (jU b1 >>> 2) &&& pM 0x33 8 ≤ 3689348814741910323 := Nat.le_trans Nat.and_le_right pM3_8
    refine ⟨?_, ?_⟩
    · rw [jU_add (by rw [e, e2]; omega), e, e2]; rfl
    · unfold pF2; omega
  generalize ((b1 &&& 3689348814741910323) + ((jlushr b1 2) &&& 3689348814741910323)) = b2 at *
  obtain ⟨n2, l2⟩ := n2
  have n3 : jU ((b2 + (jlushr b2 4)) &&& 1085102592571150095) = pF3 8 (jU b2) := by
    have e : jU (jlushr b2 4) = jU b2 >>> 4 := by rw [show (4 : Int32) = nI 4 from rfl, jU_shr b2 (by decide), Nat.shiftRight_eq_div_pow]
    have l : jU b2 + jU b2 >>> 4 < 2 ^ 64 := by rw [Nat.shiftRight_eq_div_pow]; omega
    rw [jU_and, jU_f, jU_add (by rw [e]; exact l), e]; rfl
  generalize ((b2 + (jlushr b2 4)) &&& 1085102592571150095) = b3 at *
  have hb3 : jU b3 = y := by rw [n3, n2, n1, hy]
  have hf := pfold (y := y) h8 hlt rfl rfl rfl
  have m8 : jU (jlushr b3 8) = y / 256 := by rw [show (8 : Int32) = nI 8 from rfl, jU_shr b3 (by decide), hb3]
  have n4 : jU (b3 + jlushr b3 8) = y + y / 256 := by rw [jU_add (by rw [m8, hb3]; exact hf.2.2.1), m8, hb3]
  generalize b3 + jlushr b3 8 = b4 at *
  have m16 : jU (jlushr b4 16) = (y + y / 256) / 65536 := by rw [show (16 : Int32) = nI 16 from rfl, jU_shr b4 (by decide), n4]
  have n5 : jU (b4 + jlushr b4 16) = y + y / 256 + (y + y / 256) / 65536 := by rw [jU_add (by rw [m16, n4]; exact hf.2.2.2), m16, n4]
  generalize b4 + jlushr b4 16 = b5 at *
  have m32 : jU (jlushr b5 32) = (y + y / 256 + (y + y / 256) / 65536) / 4294967296 := by rw [show (32 : Int32) = nI 32 from rfl, jU_shr b5 (by decide), n5]
  have n6 : jU (b5 + jlushr b5 32) = y + y / 256 + (y + y / 256) / 65536 + (y + y / 256 + (y + y / 256) / 65536) / 4294967296 := by rw [jU_add (by rw [m32, n5]; exact hf.2.1), m32, n5]
  generalize b5 + jlushr b5 32 = b6 at *
  rw [pk_and b6.toInt32 7 (by decide)]
  congr 1
  have e7 : b6.toInt32.toBitVec.toNat = jU b6 % 2 ^ 32 := by rw [Int64.toBitVec_toInt32, BitVec.signExtend_eq_setWidth_of_le _ (by decide), BitVec.toNat_setWidth]; rfl
  rw [e7, Nat.mod_mod_of_dvd _ (by decide), n6]
  rw [show (2 : Nat) ^ 7 = 128 from rfl, hf.1, hS]
  rfl
