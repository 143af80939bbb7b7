theorem dvn (a K n : Nat) (h : a < n) : (a + n * K) / n = K := by
  rw [Nat.add_mul_div_left _ _ (by omega), Nat.div_eq_of_lt h, Nat.zero_add]
theorem mdn (a K n : Nat) (h : a < n) : (a + n * K) % n = a := by
  rw [Nat.add_mul_mod_self_left, Nat.mod_eq_of_lt h]
theorem pf_A (c0 c1 c2 c3 c4 c5 c6 c7 : Nat) : (c0 + 256 * (c1 + 256 * (c2 + 256 * (c3 + 256 * (c4 + 256 * (c5 + 256 * (c6 + 256 * c7))))))) + (c1 + 256 * (c2 + 256 * (c3 + 256 * (c4 + 256 * (c5 + 256 * (c6 + 256 * c7)))))) = ((c0 + c1 + 256 * (c1 + c2)) + 65536 * ((c2 + c3) + 256 * (c3 + c4) + 65536 * ((c4 + c5) + 256 * (c5 + c6) + 65536 * ((c6 + c7) + 256 * c7)))) := by omega
theorem pf_B (c0 c1 c2 c3 c4 c5 c6 c7 : Nat) : ((c0 + c1 + 256 * (c1 + c2)) + 65536 * ((c2 + c3) + 256 * (c3 + c4) + 65536 * ((c4 + c5) + 256 * (c5 + c6) + 65536 * ((c6 + c7) + 256 * c7)))) + ((c2 + c3) + 256 * (c3 + c4) + 65536 * ((c4 + c5) + 256 * (c5 + c6) + 65536 * ((c6 + c7) + 256 * c7))) = (((c0 + c1 + c2 + c3) + 256 * (c1 + c2 + c3 + c4) + 65536 * (c2 + c3 + c4 + c5) + 16777216 * (c3 + c4 + c5 + c6)) + 4294967296 * ((c4 + c5 + c6 + c7) + 256 * (c5 + c6 + c7) + 65536 * (c6 + c7) + 16777216 * c7)) := by omega
theorem pf_C (c0 c1 c2 c3 c4 c5 c6 c7 : Nat) : (((c0 + c1 + c2 + c3) + 256 * (c1 + c2 + c3 + c4) + 65536 * (c2 + c3 + c4 + c5) + 16777216 * (c3 + c4 + c5 + c6)) + 4294967296 * ((c4 + c5 + c6 + c7) + 256 * (c5 + c6 + c7) + 65536 * (c6 + c7) + 16777216 * c7)) + ((c4 + c5 + c6 + c7) + 256 * (c5 + c6 + c7) + 65536 * (c6 + c7) + 16777216 * c7) = ((c0 + c1 + c2 + c3 + c4 + c5 + c6 + c7) + 128 * (2 * (c1 + c2 + c3 + c4 + c5 + c6 + c7) + 512 * (c2 + c3 + c4 + c5 + c6 + c7) + 131072 * (c3 + c4 + c5 + c6 + c7) + 33554432 * ((c4 + c5 + c6 + c7) + 256 * (c5 + c6 + c7) + 65536 * (c6 + c7) + 16777216 * c7))) := by omega
theorem pf_a (c0 c1 c2 c3 c4 c5 c6 c7 : Nat) (h0 : c0 ≤ 8) (h1 : c1 ≤ 8) (h2 : c2 ≤ 8) (h3 : c3 ≤ 8) (h4 : c4 ≤ 8) (h5 : c5 ≤ 8) (h6 : c6 ≤ 8) (h7 : c7 ≤ 8) : c0 + c1 + 256 * (c1 + c2) < 65536 := by omega
theorem pf_b (c0 c1 c2 c3 c4 c5 c6 c7 : Nat) (h0 : c0 ≤ 8) (h1 : c1 ≤ 8) (h2 : c2 ≤ 8) (h3 : c3 ≤ 8) (h4 : c4 ≤ 8) (h5 : c5 ≤ 8) (h6 : c6 ≤ 8) (h7 : c7 ≤ 8) : ((c0 + c1 + c2 + c3) + 256 * (c1 + c2 + c3 + c4) + 65536 * (c2 + c3 + c4 + c5) + 16777216 * (c3 + c4 + c5 + c6)) < 4294967296 := by omega
theorem pf_c (c0 c1 c2 c3 c4 c5 c6 c7 : Nat) (h0 : c0 ≤ 8) (h1 : c1 ≤ 8) (h2 : c2 ≤ 8) (h3 : c3 ≤ 8) (h4 : c4 ≤ 8) (h5 : c5 ≤ 8) (h6 : c6 ≤ 8) (h7 : c7 ≤ 8) : c0 + c1 + c2 + c3 + c4 + c5 + c6 + c7 < 128 := by omega
theorem pf_lA (c0 c1 c2 c3 c4 c5 c6 c7 : Nat) (h0 : c0 ≤ 8) (h1 : c1 ≤ 8) (h2 : c2 ≤ 8) (h3 : c3 ≤ 8) (h4 : c4 ≤ 8) (h5 : c5 ≤ 8) (h6 : c6 ≤ 8) (h7 : c7 ≤ 8) : ((c0 + c1 + 256 * (c1 + c2)) + 65536 * ((c2 + c3) + 256 * (c3 + c4) + 65536 * ((c4 + c5) + 256 * (c5 + c6) + 65536 * ((c6 + c7) + 256 * c7)))) < 2 ^ 64 := by omega
theorem pf_lB (c0 c1 c2 c3 c4 c5 c6 c7 : Nat) (h0 : c0 ≤ 8) (h1 : c1 ≤ 8) (h2 : c2 ≤ 8) (h3 : c3 ≤ 8) (h4 : c4 ≤ 8) (h5 : c5 ≤ 8) (h6 : c6 ≤ 8) (h7 : c7 ≤ 8) : (((c0 + c1 + c2 + c3) + 256 * (c1 + c2 + c3 + c4) + 65536 * (c2 + c3 + c4 + c5) + 16777216 * (c3 + c4 + c5 + c6)) + 4294967296 * ((c4 + c5 + c6 + c7) + 256 * (c5 + c6 + c7) + 65536 * (c6 + c7) + 16777216 * c7)) < 2 ^ 64 := by omega
theorem pf_lC (c0 c1 c2 c3 c4 c5 c6 c7 : Nat) (h0 : c0 ≤ 8) (h1 : c1 ≤ 8) (h2 : c2 ≤ 8) (h3 : c3 ≤ 8) (h4 : c4 ≤ 8) (h5 : c5 ≤ 8) (h6 : c6 ≤ 8) (h7 : c7 ≤ 8) : ((c0 + c1 + c2 + c3 + c4 + c5 + c6 + c7) + 128 * (2 * (c1 + c2 + c3 + c4 + c5 + c6 + c7) + 512 * (c2 + c3 + c4 + c5 + c6 + c7) + 131072 * (c3 + c4 + c5 + c6 + c7) + 33554432 * ((c4 + c5 + c6 + c7) + 256 * (c5 + c6 + c7) + 65536 * (c6 + c7) + 16777216 * c7))) < 2 ^ 64 := by omega
theorem pfold8 (c0 c1 c2 c3 c4 c5 c6 c7 : Nat) (h0 : c0 ≤ 8) (h1 : c1 ≤ 8) (h2 : c2 ≤ 8) (h3 : c3 ≤ 8) (h4 : c4 ≤ 8) (h5 : c5 ≤ 8) (h6 : c6 ≤ 8) (h7 : c7 ≤ 8) {y A B C : Nat}
    (hy : y = (c0 + 256 * (c1 + 256 * (c2 + 256 * (c3 + 256 * (c4 + 256 * (c5 + 256 * (c6 + 256 * c7))))))))
    (hA : A = y + y / 256) (hB : B = A + A / 65536) (hC : C = B + B / 4294967296) : C % 128 = c0 + c1 + c2 + c3 + c4 + c5 + c6 + c7 ∧ C < 2 ^ 64 ∧ A < 2 ^ 64 ∧ B < 2 ^ 64 := by
  rw [hy, dvn c0 (c1 + 256 * (c2 + 256 * (c3 + 256 * (c4 + 256 * (c5 + 256 * (c6 + 256 * c7)))))) 256 (Nat.lt_of_le_of_lt h0 (by decide)), pf_A] at hA
  rw [hA, dvn _ _ 65536 (pf_a c0 c1 c2 c3 c4 c5 c6 c7 h0 h1 h2 h3 h4 h5 h6 h7), pf_B] at hB
  rw [hB, dvn _ _ 4294967296 (pf_b c0 c1 c2 c3 c4 c5 c6 c7 h0 h1 h2 h3 h4 h5 h6 h7), pf_C] at hC
  refine ⟨?_, ?_, ?_, ?_⟩
  · rw [hC]; exact mdn _ _ _ (pf_c c0 c1 c2 c3 c4 c5 c6 c7 h0 h1 h2 h3 h4 h5 h6 h7)
  · rw [hC]; exact pf_lC c0 c1 c2 c3 c4 c5 c6 c7 h0 h1 h2 h3 h4 h5 h6 h7
  · rw [hA]; exact pf_lA c0 c1 c2 c3 c4 c5 c6 c7 h0 h1 h2 h3 h4 h5 h6 h7
  · rw [hB]; exact pf_lB c0 c1 c2 c3 c4 c5 c6 c7 h0 h1 h2 h3 h4 h5 h6 h7
theorem pS_at (y : Nat) (hy : y < 256 ^ 8) : ∃ c0 c1 c2 c3 c4 c5 c6 c7 : Nat, (y = c0 + 256 * (c1 + 256 * (c2 + 256 * (c3 + 256 * (c4 + 256 * (c5 + 256 * (c6 + 256 * c7))))))) ∧ pS 8 y = c0 + c1 + c2 + c3 + c4 + c5 + c6 + c7 ∧ c0 = y / 256 ^ 0 % 256 ∧ c1 = y / 256 ^ 1 % 256 ∧ c2 = y / 256 ^ 2 % 256 ∧ c3 = y / 256 ^ 3 % 256 ∧ c4 = y / 256 ^ 4 % 256 ∧ c5 = y / 256 ^ 5 % 256 ∧ c6 = y / 256 ^ 6 % 256 ∧ c7 = y / 256 ^ 7 % 256 := by
  have q : ∀ x k, x / 256 ^ k = 256 * (x / 256 ^ (k + 1)) + x / 256 ^ k % 256 := by
    intro x k
    rw [Nat.pow_succ, ← Nat.div_div_eq_div_mul]
    exact (Nat.div_add_mod _ 256).symm
  have q0 := q y 0; have q1 := q y 1; have q2 := q y 2; have q3 := q y 3; have q4 := q y 4; have q5 := q y 5; have q6 := q y 6; have q7 := q y 7
  have z : y / 256 ^ (7 + 1) = 0 := Nat.div_eq_of_lt hy
  have s8 : pS 8 y = y / 256 ^ 0 % 256 + y / 256 ^ 1 % 256 + y / 256 ^ 2 % 256 + y / 256 ^ 3 % 256 + y / 256 ^ 4 % 256 + y / 256 ^ 5 % 256 + y / 256 ^ 6 % 256 + y / 256 ^ 7 % 256 := by
    simp only [pS, Nat.div_div_eq_div_mul, Nat.pow_zero, Nat.div_one, Nat.reducePow, Nat.reduceMul, Nat.add_zero, Nat.add_assoc]
  rw [z] at q7
  generalize y / 256 ^ 0 % 256 = c0 at *
  generalize y / 256 ^ 1 % 256 = c1 at *
  generalize y / 256 ^ 2 % 256 = c2 at *
  generalize y / 256 ^ 3 % 256 = c3 at *
  generalize y / 256 ^ 4 % 256 = c4 at *
  generalize y / 256 ^ 5 % 256 = c5 at *
  generalize y / 256 ^ 6 % 256 = c6 at *
  generalize y / 256 ^ 7 % 256 = c7 at *
  rw [q7] at q6; rw [q6] at q5; rw [q5] at q4; rw [q4] at q3; rw [q3] at q2; rw [q2] at q1; rw [q1] at q0
  rw [Nat.pow_zero, Nat.div_one] at q0
  refine ⟨c0, c1, c2, c3, c4, c5, c6, c7, ?_, s8, rfl, rfl, rfl, rfl, rfl, rfl, rfl, rfl⟩
  rw [q0]
  clear q0 q1 q2 q3 q4 q5 q6 q7 z s8 hy q
  omega
theorem pfold {y A B C : Nat} (h : ∀ i, i < 8 → y / 256 ^ i % 256 ≤ 8) (hy : y < 256 ^ 8) (hA : A = y + y / 256) (hB : B = A + A / 65536) (hC : C = B + B / 4294967296) : C % 128 = pS 8 y ∧ C < 2 ^ 64 ∧ A < 2 ^ 64 ∧ B < 2 ^ 64 := by
  obtain ⟨c0, c1, c2, c3, c4, c5, c6, c7, e, es, k0, k1, k2, k3, k4, k5, k6, k7⟩ := pS_at y hy
  rw [es]
  exact pfold8 c0 c1 c2 c3 c4 c5 c6 c7 (k0 ▸ h 0 (by decide)) (k1 ▸ h 1 (by decide)) (k2 ▸ h 2 (by decide)) (k3 ▸ h 3 (by decide)) (k4 ▸ h 4 (by decide)) (k5 ▸ h 5 (by decide)) (k6 ▸ h 6 (by decide)) (k7 ▸ h 7 (by decide)) e hA hB hC

