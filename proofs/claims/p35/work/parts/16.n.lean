theorem jplace {n : Nat} (hn : n < 2 ^ 31) (x : Int32) : (∃ k, k < n ∧ x = nI k ∧ jf_Bi_checkPlace x (nI n) = .inl () ∧ jf_Mo_isPlace (nI n) x = 1) ∨ (jf_Bi_checkPlace x (nI n) = .inr eI ∧ jf_Mo_isPlace (nI n) x = 0) := by
  unfold jf_Bi_checkPlace jf_Mo_isPlace jf_Bi_checkPlace_b9
  by_cases h : x < 0
  · right; rw [if_pos h, jm_in7n h]; exact ⟨rfl, rfl⟩
  · obtain ⟨k, hk, rfl⟩ := nI_of h
    by_cases c : k < n
    · left
      refine ⟨k, c, rfl, by rw [if_neg h, if_pos (nI_lt c hn)], ?_⟩
      unfold jf_Mo_in
      rw [if_neg h, show (1 : Int32) = nI 1 from rfl, pk_sub (by omega), if_neg (nI_nlt (by omega) (by omega))]
      rfl
    · right
      refine ⟨by rw [if_neg h, if_neg (nI_nlt (by omega) (by omega))], ?_⟩
      unfold jf_Mo_in
      rw [if_neg h, if_pos]
      · rfl
      · cases n with
        | zero =>
          rw [Int32.lt_iff_toInt_lt, nI_toInt hk]
          have : (nI 0 - 1).toInt = -1 := by decide
          omega
        | succ n => rw [nI_pred]; exact nI_lt (by omega) hk
theorem jPm_in {n : Nat} {f h : Nat → Int32} (hp : jPm n f h) {k : Nat} (hk : k < n) : ∃ a, a < n ∧ f k = nI a := by
  obtain ⟨r, s, hh⟩ := hp
  exact ⟨r k, (hh k hk).1, (hh k hk).2.2.2.2.1⟩
theorem js_told : jS_told := by
  intro b _ _ _ _ _ _ _ ints len above below th _ _ mints _ _ _ _ _ ma mb ml x1 x2 hI
  have hI0 := hI
  obtain ⟨-, -, -, n, hn, rfl, rfl, ⟨ia, ib, hpa, hpb⟩, hk⟩ := hI0
  unfold jf_Bi_told jf_Mo_told jf_Ex_intervals
  rcases jplace (n := n) (by omega) x1 with ⟨k, hkn, rfl, e1, e2⟩ | ⟨e1, e2⟩
  · obtain ⟨m1, m2, m3, -⟩ := hk k hkn
    rw [e1, e2, if_neg (show ¬ (1 : Int32) = 0 by decide)]
    rcases jrange x2 0 2 with ⟨a1, a2, a3, a4⟩ | ⟨a3, a4⟩
    · obtain ⟨d, hd, rfl⟩ := jnat_of a1 (n := 2) a2 (by decide)
      rw [a3, a4, if_neg (show ¬ (1 : Int32) = 0 by decide)]
      unfold jf_Mo_told_b27 jf_Ex_aboveAt jf_Ex_belowAt jf_Ex_lengthAt
      obtain ⟨a, ha, ea⟩ := jPm_in hpa hkn
      rw [if_pos (show (0 : Int32) ≤ 0 by decide), if_pos (jin_nI (n := 6) (by omega) (by decide)), if_pos (jin_nI (n := 6) (by omega) (by decide)), if_pos (jin_nI (n := 6) (by omega) (by decide)), nI_clamp (by omega), m1, m2, ea, if_pos (jin_nI (n := 6) (by omega) (by decide)), nI_clamp (by omega), (hk a ha).2.2.1, jat_nI above (by omega) (by decide), jat_nI below (by omega) (by decide), ea, jat_nI len (by omega) (by decide)]
      have hd3 : d = 0 ∨ d = 1 ∨ d = 2 := by omega
      rcases hd3 with rfl | rfl | rfl
      · exact ⟨(nI a, 0), rfl, Or.inl ⟨nI a, rfl, rfl, rfl, hI⟩⟩
      · exact ⟨(below k, 0), rfl, Or.inl ⟨below k, rfl, rfl, rfl, hI⟩⟩
      · exact ⟨(len a, 0), rfl, Or.inl ⟨len a, rfl, rfl, rfl, hI⟩⟩
    · rw [a3, a4, if_pos rfl]
      exact ⟨(0, 2), rfl, Or.inr (Or.inr ⟨rfl, rfl, hI⟩)⟩
  · rw [e1, e2, if_pos rfl]
    exact ⟨(0, 1), rfl, Or.inr (Or.inl ⟨rfl, rfl, hI⟩)⟩
