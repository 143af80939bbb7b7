/-! p35: the law's loop and its end -/
theorem z_b101 {self : zF} (z2 : Int64) (z5 z6 z10 z11 z12 : Int32) (B : Int64) (LA : Int32) (cO : Nat → Int32) (GN : Int32) (GS : Int32) (gr : Nat → Int32) (gu : Nat → Int32) (gl : Nat → Int32) (gd : Nat → Int32) (gs : Nat → Int32) (go : Nat → Int32) (gm : Nat → Int32) (KF : Int32) (KN : Int32) (KS : Int32) (kr : Nat → Int32) (ku : Nat → Int32) (kl : Nat → Int32) (kd : Nat → Int32) (ks : Nat → Int32) (ko : Nat → Int32) (km : Nat → Int32) (kc : Nat → Int32) (EI : Int32) (el : Nat → Int32) (ea : Nat → Int32) (eb : Nat → Int32) (em : Nat → Int64) (lm : Nat → Int32) (r : Nat → Int32) (u : Nat → Int32) (e : Nat → Int32) (hG : zGo self (z10 + 1)) (h : zInv z2 z5 z6 B LA cO GS gr gu gl gd EI el ea eb lm r u e) (s0 : Int32) : zEnd (jf_Lw_law_b101 self B LA cO GN GS gr gu gl gd gs go gm KF KN KS kr ku kl kd ks ko km kc EI el ea eb em lm r u e z2 z5 z6 z10 z11 z12 1 s0) := by
  by_cases c0 : s0 = 0
  · subst c0; exact z_c0 _ _ _ _ _ _ _ _ _ _ _ _ _ _ _ _ _ _ _ _ _ _ _ _ _ _ _ _ _ _ _ _ _ _ _ _ _ _ hG h
  by_cases c1 : s0 = 1
  · subst c1; exact z_c1 _ _ _ _ _ _ _ _ _ _ _ _ _ _ _ _ _ _ _ _ _ _ _ _ _ _ _ _ _ _ _ _ _ _ _ _ _ _ hG h
  by_cases c2 : s0 = 2
  · subst c2; exact z_c2 _ _ _ _ _ _ _ _ _ _ _ _ _ _ _ _ _ _ _ _ _ _ _ _ _ _ _ _ _ _ _ _ _ _ _ _ _ _ hG h
  by_cases c3 : s0 = 3
  · subst c3; exact z_c3 _ _ _ _ _ _ _ _ _ _ _ _ _ _ _ _ _ _ _ _ _ _ _ _ _ _ _ _ _ _ _ _ _ _ _ _ _ _ hG h
  by_cases c4 : s0 = 4
  · subst c4; exact z_c4 _ _ _ _ _ _ _ _ _ _ _ _ _ _ _ _ _ _ _ _ _ _ _ _ _ _ _ _ _ _ _ _ _ _ _ _ _ _ hG h
  by_cases c5 : s0 = 5
  · subst c5; exact z_c5 _ _ _ _ _ _ _ _ _ _ _ _ _ _ _ _ _ _ _ _ _ _ _ _ _ _ _ _ _ _ _ _ _ _ _ _ _ _ hG h
  by_cases c6 : s0 = 6
  · subst c6; exact z_c6 _ _ _ _ _ _ _ _ _ _ _ _ _ _ _ _ _ _ _ _ _ _ _ _ _ _ _ _ _ _ _ _ _ _ _ _ _ _ hG h
  by_cases c7 : s0 = 7
  · subst c7; exact z_c7 _ _ _ _ _ _ _ _ _ _ _ _ _ _ _ _ _ _ _ _ _ _ _ _ _ _ _ _ _ _ _ _ _ _ _ _ _ _ hG h
  by_cases c8 : s0 = 8
  · subst c8; exact z_c8 _ _ _ _ _ _ _ _ _ _ _ _ _ _ _ _ _ _ _ _ _ _ _ _ _ _ _ _ _ _ _ _ _ _ _ _ _ _ hG h
  by_cases c9 : s0 = 9
  · subst c9; exact z_c9 _ _ _ _ _ _ _ _ _ _ _ _ _ _ _ _ _ _ _ _ _ _ _ _ _ _ _ _ _ _ _ _ _ _ _ _ _ _ hG h
  by_cases c10 : s0 = 10
  · subst c10; exact z_c10 _ _ _ _ _ _ _ _ _ _ _ _ _ _ _ _ _ _ _ _ _ _ _ _ _ _ _ _ _ _ _ _ _ _ _ _ _ _ hG h
  exact z_c11 _ _ _ _ _ _ _ _ _ _ _ _ _ _ _ _ _ _ _ _ _ _ _ _ _ _ _ _ _ _ _ _ _ _ _ _ _ _ hG h s0 ⟨c0, c1, c2, c3, c4, c5, c6, c7, c8, c9, c10⟩
theorem z_cell {L k : Nat} (xs : Nat → Int32) (hL : L ≤ 100000) (hk : k < 1000) : ∃ v, jf_Lw_cell L xs (nI k) = some v := by
  unfold jf_Lw_cell
  by_cases c : nI L ≤ nI k
  · rw [if_pos c]; exact ⟨_, rfl⟩
  · rw [if_neg c, if_pos (jin_nI (by by_cases d : k < L; exact d; exact absurd (nI_le (by omega) (by omega)) c) (by omega))]
    exact ⟨_, rfl⟩
theorem z_loop {L : Nat} (xs : Nat → Int32) (hL : L ≤ 100000) : ∀ j m t (z2 : Int64) (z5 z6 : Int32) (B : Int64) (LA : Int32) (cO : Nat → Int32) (GN : Int32) (GS : Int32) (gr : Nat → Int32) (gu : Nat → Int32) (gl : Nat → Int32) (gd : Nat → Int32) (gs : Nat → Int32) (go : Nat → Int32) (gm : Nat → Int32) (KF : Int32) (KN : Int32) (KS : Int32) (kr : Nat → Int32) (ku : Nat → Int32) (kl : Nat → Int32) (kd : Nat → Int32) (ks : Nat → Int32) (ko : Nat → Int32) (km : Nat → Int32) (kc : Nat → Int32) (EI : Int32) (el : Nat → Int32) (ea : Nat → Int32) (eb : Nat → Int32) (em : Nat → Int64) (lm : Nat → Int32) (r : Nat → Int32) (u : Nat → Int32) (e : Nat → Int32), t + j = 70 → j < m → zInv z2 z5 z6 B LA cO GS gr gu gl gd EI el ea eb lm r u e → zEnd (jf_Lw_law_L41 L xs m z2 z5 z6 (nI t) B LA cO GN GS gr gu gl gd gs go gm KF KN KS kr ku kl kd ks ko km kc EI el ea eb em lm r u e) := by
  intro j
  induction j with
  | zero =>
    intro m t z2 z5 z6 B LA cO GN GS gr gu gl gd gs go gm KF KN KS kr ku kl kd ks ko km kc EI el ea eb em lm r u e he hm h
    obtain ⟨q, rfl⟩ : ∃ q, m = q + 1 := ⟨m - 1, by omega⟩
    have : t = 70 := by omega
    subst this
    obtain ⟨hB, hL2, ⟨n, n1, n5, e1, e2, hpr, hpu, hk⟩, hE⟩ := h
    rw [jf_Lw_law_L41, if_pos (show (70 : Int32) ≤ nI 70 by decide)]
    exact ⟨n, _, n1, n5, rfl, e2, e1⟩
  | succ j ih =>
    intro m t z2 z5 z6 B LA cO GN GS gr gu gl gd gs go gm KF KN KS kr ku kl kd ks ko km kc EI el ea eb em lm r u e he hm h
    obtain ⟨q, rfl⟩ : ∃ q, m = q + 1 := ⟨m - 1, by omega⟩
    have hG : zGo (jf_Lw_law_L41 L xs q) (nI t + 1) := by
      intro z2 z5 z6 B LA cO GN GS gr gu gl gd gs go gm KF KN KS kr ku kl kd ks ko km kc EI el ea eb em lm r u e h
      rw [nI_1]
      exact ih q (t + 1) z2 z5 z6 B LA cO GN GS gr gu gl gd gs go gm KF KN KS kr ku kl kd ks ko km kc EI el ea eb em lm r u e (by omega) (by omega) h
    obtain ⟨v, ev⟩ := z_cell xs hL (k := 2 * t) (by omega)
    obtain ⟨w, ew⟩ := z_cell xs hL (k := 2 * t + 1) (by omega)
    rw [jf_Lw_law_L41, if_neg (show ¬ (70 : Int32) ≤ nI t from nI_ge (b := 70) (by omega) (by decide)), show (2 : Int32) * nI t = nI (2 * t) by rw [show (2 : Int32) = nI 2 from rfl, pk_mul], ev]
    simp only [Option.bind]
    rw [nI_1, ew]
    simp only []
    split
    · split
      · obtain ⟨k, hk, ek⟩ := z_low12 v
        rw [ek]
        simp only []
        exact z_b101 _ _ _ _ _ _ _ _ _ _ _ _ _ _ _ _ _ _ _ _ _ _ _ _ _ _ _ _ _ _ _ _ _ _ _ _ _ _ hG h _
      · exact z_b101 _ _ _ _ _ _ _ _ _ _ _ _ _ _ _ _ _ _ _ _ _ _ _ _ _ _ _ _ _ _ _ _ _ _ _ _ _ _ hG h _
    · exact z_b101 _ _ _ _ _ _ _ _ _ _ _ _ _ _ _ _ _ _ _ _ _ _ _ _ _ _ _ _ _ _ _ _ _ _ _ _ _ _ hG h _
theorem z_off (b : Int64) : jf_Lw_period b 0 8 0 1 = some (-7100) := by
  have h : jf_Bi_checkCell 0 8 = .inr eI := by
    unfold jf_Bi_checkCell
    rw [if_pos (show jf_Bi_isCell 0 8 = 0 by decide)]
  unfold jf_Lw_period jf_Bi_period jf_Bi_checkShot
  rw [h]
  simp only [Option.bind, jsum]
  first | exact if_pos trivial | exact if_pos rfl
theorem z_offGlue {n : Nat} (hn : n ≤ 5) (gr gu gl gd : Nat → Int32) : jf_Lw_glue (nI n) gr gu gl gd (nI n) 0 1 = some (-7100, gr, gu, gl, gd) := by
  unfold jf_Lw_glue jf_Bi_glue jf_Su_squares
  rw [c_noplace (Or.inr (nI_nlt (Nat.le_refl n) (by omega)))]
  simp only [Option.bind, jsum]
  first | exact if_pos trivial | exact if_pos rfl
set_option maxHeartbeats 4000000 in
theorem z_law {L : Nat} (xs : Nat → Int32) (hL : L ≤ 100000) (B : Int64) (LA : Int32) (cO : Nat → Int32) (GN : Int32) (GS : Int32) (gr : Nat → Int32) (gu : Nat → Int32) (gl : Nat → Int32) (gd : Nat → Int32) (gs : Nat → Int32) (go : Nat → Int32) (gm : Nat → Int32) (KF : Int32) (KN : Int32) (KS : Int32) (kr : Nat → Int32) (ku : Nat → Int32) (kl : Nat → Int32) (kd : Nat → Int32) (ks : Nat → Int32) (ko : Nat → Int32) (km : Nat → Int32) (kc : Nat → Int32) (EI : Int32) (el : Nat → Int32) (ea : Nat → Int32) (eb : Nat → Int32) (em : Nat → Int64) (lm : Nat → Int32) (r : Nat → Int32) (u : Nat → Int32) (e : Nat → Int32) (h : zInv 0 0 1 B LA cO GS gr gu gl gd EI el ea eb lm r u e) : jf_Lw_law L xs B LA cO GN GS gr gu gl gd gs go gm KF KN KS kr ku kl kd ks ko km kc EI el ea eb em lm r u e = some 1 := by
  obtain ⟨n, o, n1, n5, h9, e1, e2⟩ := z_loop xs hL 70 72 0 0 0 1 B LA cO GN GS gr gu gl gd gs go gm KF KN KS kr ku kl kd ks ko km kc EI el ea eb em lm r u e (by omega) (by omega) h
  unfold jf_Lw_law
  rw [show jf_Lw_law_L41 L xs 72 0 0 1 0 B LA cO GN GS gr gu gl gd gs go gm KF KN KS kr ku kl kd ks ko km kc EI el ea eb em lm r u e = some (.inr (.inr (.inr o))) from h9]
  simp only [Option.bind, jsum]
  rw [z_off]
  simp only []
  first | rw [if_pos rfl, e2, e1, z_offGlue n5] | rw [if_pos trivial, e2, e1, z_offGlue n5]
  simp only []
  first | rw [if_pos rfl] | rw [if_pos trivial]
