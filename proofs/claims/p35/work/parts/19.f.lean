theorem f_pow5 {n : Nat} (hn : n ≤ 5) {d : Nat} (h : d < 25 ^ n) : d < 9765626 := by
  have : 25 ^ n ≤ 25 ^ 5 := Nat.pow_le_pow_right (by decide) hn
  have e : 25 ^ 5 = 9765625 := by decide
  omega
theorem f_beg {n R U M c O N : Nat} {right up : Nat → Int32} (hn : n ≤ 5) (fr : sR n right (g5 R)) (fu : sR n up (g5 U)) (hR : ∀ k, k < n → g5 R k < n) (hU : ∀ k, k < n → g5 U k < n) : ∀ j k m b mn order number, k + j = n → j < m → fRel n M c O N order number → b < n → mn ≤ 2147483647 → ∃ b' order' number', jf_Su_leastBeginning_L13 (nI n) right up (nI M) m (nI b) (nI mn) (nI k) (nI M) order number = some (nI b', nI M, order', number') ∧ (∀ K : Nat → Bool, fBeg n R U M c O N K j k b mn = K b') ∧ fRel n M c O N order' number' ∧ b' < n := by
  intro j
  induction j with
  | zero =>
    intro k m b mn order number e hm h hb hmn
    obtain ⟨q, rfl⟩ : ∃ q, m = q + 1 := ⟨m - 1, by omega⟩
    exact ⟨b, order, number, by rw [jf_Su_leastBeginning_L13, if_pos (nI_le (by omega) (by omega))], fun K => rfl, h, hb⟩
  | succ j ih =>
    intro k m b mn order number e hm h hb hmn
    obtain ⟨q, rfl⟩ : ∃ q, m = q + 1 := ⟨m - 1, by omega⟩
    have hk : k < n := by omega
    have h32 := f_32 hn h.1
    have hbit := f_bit h32 (show k < 5 by omega)
    rw [jf_Su_leastBeginning_L13, if_neg (nI_ge hk (by omega)), sBit h32 (by omega)]
    unfold jf_Su_leastBeginning_b51 jf_Su_leastBeginning_b56
    rw [nI_1 k]
    cases hq : sHas M k with
    | true =>
      rw [if_neg (by decide)]
      obtain ⟨b', order', number', i1, i2, i3, i4⟩ := ih (k + 1) q b mn order number (by omega) (by omega) h hb hmn
      refine ⟨b', order', number', i1, fun K => ?_, i3, i4⟩
      rw [fBeg]
      show cond (fBit M k) _ _ = _
      rw [hbit, hq, cond_true]
      exact i2 K
    | false =>
      rw [if_pos (by decide)]
      obtain ⟨d, M', c', O', N', o1, n1, e1, e2, e3, e4, e5⟩ := f_piece hn fr fu hR hU h hk
      have e6 := f_pow5 hn e5
      have hback := fRel_back h e3 e4
      rw [e1]
      simp only [Option.bind]
      by_cases cm : mn ≤ d
      · rw [if_pos (nI_le cm (by omega))]
        obtain ⟨b', order', number', i1, i2, i3, i4⟩ := ih (k + 1) q b mn o1 n1 (by omega) (by omega) hback hb hmn
        refine ⟨b', order', number', i1, fun K => ?_, i3, i4⟩
        rw [fBeg]
        show cond (fBit M k) _ _ = _
        rw [hbit, hq, cond_false, e2, show Nat.ble mn d = true from Nat.ble_eq_true_of_le cm, cond_true]
        exact i2 K
      · rw [if_neg (nI_ge (by omega) (by omega))]
        obtain ⟨b', order', number', i1, i2, i3, i4⟩ := ih (k + 1) q k d o1 n1 (by omega) (by omega) hback hk (by omega)
        refine ⟨b', order', number', i1, fun K => ?_, i3, i4⟩
        rw [fBeg]
        show cond (fBit M k) _ _ = _
        rw [hbit, hq, cond_false, e2, show Nat.ble mn d = false by
          cases x : Nat.ble mn d with
          | false => rfl
          | true => exact absurd (Nat.le_of_ble_eq_true x) cm, cond_false]
        exact i2 K
theorem f_all {n R U : Nat} {right up : Nat → Int32} (hn : n ≤ 5) (fr : sR n right (g5 R)) (fu : sR n up (g5 U)) (hR : ∀ k, k < n → g5 R k < n) (hU : ∀ k, k < n → g5 U k < n) : ∀ j t m v M c O N order number, t + j = n → j < m → fRel n M c O N order number → ∃ v' M' c' O' N' order' number', jf_Su_leastCode_L9 (nI n) right up m (nI v) (nI t) (nI M) order number = some (nI v', nI M', order', number') ∧ (∀ K : Nat → Nat → Nat → Nat → Nat → Bool, fAll n R U K j v M c O N = K v' M' c' O' N') := by
  intro j
  induction j with
  | zero =>
    intro t m v M c O N order number e hm h
    obtain ⟨q, rfl⟩ : ∃ q, m = q + 1 := ⟨m - 1, by omega⟩
    exact ⟨v, M, c, O, N, order, number, by rw [jf_Su_leastCode_L9, if_pos (nI_le (by omega) (by omega))], fun K => rfl⟩
  | succ j ih =>
    intro t m v M c O N order number e hm h
    obtain ⟨q, rfl⟩ : ∃ q, m = q + 1 := ⟨m - 1, by omega⟩
    have ht : t < n := by omega
    have h32 := f_32 hn h.1
    have hcn := fRel_c hn h
    have hcnt : jf_In_bitCount (nI M) = nI c := by rw [of_decide_eq_true (jall_at sCnt M h32), h.2.1]
    rw [jf_Su_leastCode_L9, if_neg (nI_ge ht (by omega)), hcnt]
    by_cases cc : n ≤ c
    · rw [if_pos (nI_le cc (by omega))]
      refine ⟨v, M, c, O, N, order, number, rfl, fun K => ?_⟩
      rw [fAll, show Nat.ble n c = true from Nat.ble_eq_true_of_le cc, cond_true]
    · rw [if_neg (nI_ge (by omega) (by omega))]
      obtain ⟨b, o1, n1, e1, e2, e3, e4⟩ := f_beg hn fr fu hR hU n 0 jF 0 9765625 order number (by omega) (jF_gt (by omega)) h (by omega) (by omega)
      obtain ⟨d, M', c', O', N', o2, n2, e5, e6, e7, e8, e9⟩ := f_piece hn fr fu hR hU e3 e4
      obtain ⟨v', M2, c2, O2, N2, o3, n3, i1, i2⟩ := ih (t + 1) q (v + d) M' c' O' N' o2 n2 (by omega) (by omega) e7
      refine ⟨v', M2, c2, O2, N2, o3, n3, ?_, fun K => ?_⟩
      · unfold jf_Su_leastBeginning
        show Option.bind (Option.bind (jf_Su_leastBeginning_L13 (nI n) right up (nI M) jF (nI 0) (nI 9765625) (nI 0) (nI M) order number) _) _ = _
        rw [e1]
        simp only [Option.bind]
        rw [e5]
        simp only [jlet]
        rw [nI_add, nI_1]
        exact i1
      · rw [fAll, show Nat.ble n c = false by
          cases x : Nat.ble n c with
          | false => rfl
          | true => exact absurd (Nat.le_of_ble_eq_true x) cc, cond_false]
        show fBeg n R U M c O N _ n 0 0 9765625 = _
        rw [e2, e6]
        exact i2 K
theorem fRel_0 (n : Nat) (order number : Nat → Int32) : fRel n 0 0 0 0 order number := by
  have hz : ∀ y, sHas 0 y = false := fun y => Nat.zero_testBit y
  refine ⟨Nat.pow_pos (by decide), by decide, by decide, fun i hi => absurd hi (Nat.not_lt_zero _), fun y _ h => ?_, fun y _ _ => ?_⟩
  · rw [hz] at h; cases h
  · rw [g8_eq, Nat.zero_div]
theorem f_code {n R U : Nat} {right up : Nat → Int32} (hn : n ≤ 5) (fr : sR n right (g5 R)) (fu : sR n up (g5 U)) (hR : ∀ k, k < n → g5 R k < n) (hU : ∀ k, k < n → g5 U k < n) (num : Int32) (order number : Nat → Int32) : ∃ v M c O N w order' number', jf_Su_leastCode num (nI n) right up order number = some (nI v, w, order', number') ∧ (∀ K : Nat → Nat → Nat → Nat → Nat → Bool, fAll n R U K n 0 0 0 0 0 = K v M c O N) := by
  obtain ⟨v', M', c', O', N', o1, n1, e1, e2⟩ := f_all hn fr fu hR hU n 0 jF 0 0 0 0 0 order number (by omega) (jF_gt (by omega)) (fRel_0 n order number)
  refine ⟨v', M', c', O', N', nI M', o1, n1, ?_, e2⟩
  unfold jf_Su_leastCode
  show Option.bind (jf_Su_leastCode_L9 (nI n) right up jF (nI 0) (nI 0) (nI 0) order number) _ = _
  rw [e1]; rfl

