theorem jshl1 : ∀ k, k < 64 → ∀ j, j < 64 → (jlshl 1 (nI k)).toBitVec.getLsbD j = (j == k) := by
  have h : jall 64 (fun k => jall 64 (fun j => (jlshl 1 (nI k)).toBitVec.getLsbD j == (j == k))) = true := by decide +kernel
  intro k hk j hj
  exact beq_iff_eq.1 (jall_at (jall_at h k hk) j hj)
theorem jbit_or (b : Int64) {k : Nat} (hk : k < 64) {j : Nat} (hj : j < 64) : jbit (b ||| jlshl 1 (nI k)) j = (jbit b j || (j == k)) := by
  unfold jbit
  rw [Int64.toBitVec_or, BitVec.getLsbD_or, jshl1 k hk j hj]
theorem jc_put (b : Int64) {x y : Nat} (v : Int32) (hx : x < 8) (hy : y < 8) (e1 : jf_Bi_isCell (nI x) (nI y) = 1) : jf_Bi_block b (nI x) (nI y) v = .inl ((if jbit b (x + 8 * y) then 1 else 0) &&& 1, if v = 0 then b &&& (jlshl 1 (nI (x + 8 * y)) ^^^ (-1)) else b ||| jlshl 1 (nI (x + 8 * y))) := by
  have e4 : nI x + (8 : Int32) * nI y = nI (x + 8 * y) := by rw [show (8 : Int32) = nI 8 from rfl, pk_mul, nI_add]
  have c0 : jf_Bi_checkCell (nI x) (nI y) = .inl () := by unfold jf_Bi_checkCell; rw [e1]; rfl
  unfold jf_Bi_block jf_Ro_lay jf_Ro_lay_b36
  rw [c0]
  simp only [jsum, jlet]
  rw [e4, jbl_block b hx hy e1]
