theorem xapart {n : Nat} {above below ma mb : Nat → Int32} (hn : n ≤ 6) (h : ∀ k, k < n → ma k = above k ∧ mb k = below k) : ∀ j m k z1 z2, k + j = n → j < m → ∃ o, jf_Ex_leastApart_L6 (nI n) above below m z1 z2 (nI k) = some o ∧ jf_Mo_apart_L11 (nI n) ma mb m z1 z2 (nI k) = some o := by
  intro j
  induction j with
  | zero =>
    intro m k z1 z2 e hm
    obtain ⟨q, rfl⟩ : ∃ q, m = q + 1 := ⟨m - 1, by omega⟩
    have : k = n := by omega
    subst this
    refine ⟨.inr (), ?_, ?_⟩
    · rw [jf_Ex_leastApart_L6, if_pos (nI_le (Nat.le_refl k) (by omega))]
    · rw [jf_Mo_apart_L11, if_pos (nI_le (Nat.le_refl k) (by omega))]
  | succ j ih =>
    intro m k z1 z2 e hm
    obtain ⟨q, rfl⟩ : ∃ q, m = q + 1 := ⟨m - 1, by omega⟩
    obtain ⟨h1, h2⟩ := h k (by omega)
    have hj : jin (nI k) 6 = true := jin_nI (by omega) (by decide)
    rw [jf_Ex_leastApart_L6, jf_Mo_apart_L11, if_neg (nI_ge (by omega) (by omega)), if_neg (nI_ge (by omega) (by omega)), if_pos hj, jat_nI above (by omega) (by decide), jat_nI below (by omega) (by decide), nI_clamp (by omega), h1, h2]
    simp only [jlet]
    rw [if_pos hj]
    split
    · exact ⟨.inl (nI k), rfl, rfl⟩
    · rw [nI_1]
      exact ih q (k + 1) _ _ (by omega) (by omega)
theorem js_apart : jS_apart := by
  intro b _ _ _ _ _ _ _ ints len above below th _ _ mints _ _ _ _ _ ma mb ml hI
  have hI0 := hI
  obtain ⟨-, -, -, n, hn, rfl, rfl, -, hk⟩ := hI0
  obtain ⟨o, e1, e2⟩ := xapart (above := above) (below := below) (ma := ma) (mb := mb) hn (fun k hkn => ⟨(hk k hkn).1, (hk k hkn).2.1⟩) n jF 0 0 0 (by omega) (jF_gt (by omega))
  unfold jf_Bi_apart jf_Mo_apart jf_Ex_leastApart
  rw [show (0 : Int32) = nI 0 from rfl] at *
  rw [e1, e2]
  cases o with
  | inl v => exact ⟨(v + 1, 0), rfl, ⟨v + 1, rfl, rfl, hI⟩⟩
  | inr v => exact ⟨(0, 0), rfl, ⟨0, rfl, rfl, hI⟩⟩
