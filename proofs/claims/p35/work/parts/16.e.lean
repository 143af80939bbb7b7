theorem jshl1 : ∀ k, k < 64 → ∀ j, j < 64 → (jlshl 1 (nI k)).toBitVec.getLsbD j = (j == k) := by
  have h : jall 64 (fun k => jall 64 (fun j => (jlshl 1 (nI k)).toBitVec.getLsbD j == (j == k))) = true := by decide +kernel
  intro k hk j hj
  exact beq_iff_eq.1 (jall_at (jall_at h k hk) j hj)
theorem jm1 : ∀ j, j < 64 → (-1 : Int64).toBitVec.getLsbD j = true := jall_of (p := fun j => (-1 : Int64).toBitVec.getLsbD j = true) (by decide +kernel)
theorem jbit_or (b : Int64) {k : Nat} (hk : k < 64) {j : Nat} (hj : j < 64) : jbit (b ||| jlshl 1 (nI k)) j = (jbit b j || (j == k)) := by
  unfold jbit
  rw [Int64.toBitVec_or, BitVec.getLsbD_or, jshl1 k hk j hj]
theorem jbit_and (b : Int64) {k : Nat} (hk : k < 64) {j : Nat} (hj : j < 64) : jbit (b &&& (jlshl 1 (nI k) ^^^ (-1))) j = (jbit b j && !(j == k)) := by
  unfold jbit
  rw [Int64.toBitVec_and, BitVec.getLsbD_and, Int64.toBitVec_xor, BitVec.getLsbD_xor, jshl1 k hk j hj, jm1 j hj, Bool.xor_true]
theorem jm_put (isB : Nat → Int32) (th : Int32) {x y : Nat} (v : Int32) (hx : x < 8) (hy : y < 8) (e2 : jf_Mo_isCell (nI x) (nI y) = 1) : jf_Mo_block th isB (nI x) (nI y) v = some (isB (x + 8 * y) &&& 1, 0, upd isB (x + 8 * y) (v &&& 1)) := by
  unfold jf_Mo_block jf_Mo_block_b14
  have e3 : (8 : Int32) * nI y + nI x = nI (x + 8 * y) := by rw [show (8 : Int32) = nI 8 from rfl, pk_mul, nI_add]; congr 1; omega
  have hin : jin (nI (x + 8 * y)) 64 = true := jin_of (nI_pos (by omega)) (nI_ge (b := 64) (by omega) (by decide)) (by decide)
  rw [e2, if_neg (show ¬ (1 : Int32) = 0 by decide), if_pos (show (0 : Int32) ≤ 0 by decide), e3, if_pos hin, nI_clamp (by omega)]
  simp only [jlet]
  rw [if_pos hin]
theorem jc_put (b : Int64) {x y : Nat} (v : Int32) (hx : x < 8) (hy : y < 8) (e1 : jf_Bi_isCell (nI x) (nI y) = 1) : jf_Bi_block b (nI x) (nI y) v = .inl ((if jbit b (x + 8 * y) then 1 else 0) &&& 1, if v = 0 then b &&& (jlshl 1 (nI (x + 8 * y)) ^^^ (-1)) else b ||| jlshl 1 (nI (x + 8 * y))) := by
  have e4 : nI x + (8 : Int32) * nI y = nI (x + 8 * y) := by rw [show (8 : Int32) = nI 8 from rfl, pk_mul, nI_add]
  have c0 : jf_Bi_checkCell (nI x) (nI y) = .inl () := by unfold jf_Bi_checkCell; rw [e1]; rfl
  unfold jf_Bi_block jf_Ro_lay jf_Ro_lay_b36
  rw [c0]
  simp only [jsum, jlet]
  rw [e4, jbl_block b hx hy e1]
theorem js_block : jS_block := by
  intro b _ _ _ _ _ _ _ _ _ _ _ th _ _ _ isB _ _ _ _ _ _ _ x1 x2 x3 hI
  have hB := jI_bl hI
  rcases jcell8 (x := x1) (y := x2) with ⟨x, y, hx, hy, rfl, rfl, e1, e2⟩ | ⟨e1, e2⟩
  · refine ⟨_, jm_put isB th (jb x3) hx hy e2, Or.inl ⟨_, jc_put b (jb x3) hx hy e1, rfl, ?_, ?_, hI.2⟩⟩
    · show isB (x + 8 * y) &&& 1 = (if jbit b (x + 8 * y) then 1 else 0) &&& 1
      rw [hB _ (by omega)]
    · intro j hj
      show upd isB (x + 8 * y) (jb x3 &&& 1) j = if jbit (if jb x3 = 0 then b &&& (jlshl 1 (nI (x + 8 * y)) ^^^ (-1)) else b ||| jlshl 1 (nI (x + 8 * y))) j then 1 else 0
      have h3 : jb x3 = 0 ∨ jb x3 = 1 := by unfold jb; split <;> simp
      rcases h3 with h3 | h3
      · rw [h3, if_pos rfl, jbit_and b (by omega) hj]
        unfold upd
        by_cases e : j = x + 8 * y
        · subst e; simp
        · rw [if_neg e, hB j hj, show (j == x + 8 * y) = false from beq_eq_false_iff_ne.2 e]; simp
      · rw [h3, if_neg (show ¬ (1 : Int32) = 0 by decide), jbit_or b (by omega) hj]
        unfold upd
        by_cases e : j = x + 8 * y
        · subst e; simp
        · rw [if_neg e, hB j hj, show (j == x + 8 * y) = false from beq_eq_false_iff_ne.2 e]; simp
  · have c0 : jf_Bi_block b x1 x2 (jb x3) = .inr eI := by unfold jf_Bi_block jf_Bi_checkCell; rw [e1]; rfl
    have c1 : jf_Mo_block th isB x1 x2 (jb x3) = some (0, 1, isB) := by unfold jf_Mo_block jf_Mo_block_b14; rw [e2]; rfl
    exact ⟨_, c1, Or.inr ⟨c0, rfl, hI⟩⟩
