/-! p35: the class's kin and the law's, step by step -/
theorem w_loop {n : Nat} {P A : List (Nat × Nat)} {Hm Om wd L T p : Nat} (hT : TabOk n P A Hm Om wd L T p) (h1 : 1 ≤ n) (hn : n ≤ 5) : ∀ j at' m m2 F C num sq tr tu tl td ts to tn cc a b c x y, at' + j = 161 → j < m → j < m2 → kRel n wd L T p F C cc (kW a b c) → ∃ F' a1 a2 a3 a4 a5 a6 a7 a8 a9 a10 b1 b2 b3 b4 b5, jf_Ki_codesFrom_L12 (nI n) m (nI at') (nI F) num sq tr tu tl td ts to tn cc = some (nI F', a1, a2, a3, a4, a5, a6, a7, a8, a9, a10) ∧ jf_Lw_kinOf_L47 (nI n) m2 (nI F) (nI at') a b c x y = some (nI F', b1, b2, b3, b4, b5) := by
  have hw : wd ≤ 161 := hT.2.2.2.2.2.2
  intro j
  induction j with
  | zero =>
    intro at' m m2 F C num sq tr tu tl td ts to tn cc a b c x y e hm hm2 h
    obtain ⟨q, rfl⟩ : ∃ q, m = q + 1 := ⟨m - 1, by omega⟩
    obtain ⟨q2, rfl⟩ : ∃ q, m2 = q + 1 := ⟨m2 - 1, by omega⟩
    have : at' = 161 := by omega
    subst this
    have hF := h.1
    exact ⟨F, _, _, _, _, _, _, _, _, _, _, _, _, _, _, _, by rw [jf_Ki_codesFrom_L12, if_pos (show (161 : Int32) ≤ nI 161 by decide)], by rw [jf_Lw_kinOf_L47, if_pos (nI_le hF (by omega))]⟩
  | succ j ih =>
    intro at' m m2 F C num sq tr tu tl td ts to tn cc a b c x y e hm hm2 h
    obtain ⟨q, rfl⟩ : ∃ q, m = q + 1 := ⟨m - 1, by omega⟩
    obtain ⟨q2, rfl⟩ : ∃ q, m2 = q + 1 := ⟨m2 - 1, by omega⟩
    have hF := h.1
    have n161 : ¬ (161 : Int32) ≤ nI at' := ge_161 (by omega)
    by_cases cF : F ≤ at'
    · exact ⟨F, _, _, _, _, _, _, _, _, _, _, _, _, _, _, _, by rw [jf_Ki_codesFrom_L12, if_neg n161, if_pos (nI_le cF (by omega))], by rw [jf_Lw_kinOf_L47, if_pos (nI_le cF (by omega))]⟩
    · have haF : at' < F := by omega
      obtain ⟨c1, c2, c3⟩ := h.2.1 at' haF
      obtain ⟨⟨f, f', g, g', hf, hg, hc⟩, -⟩ := c3
      rw [hc] at c1 c2
      have hlt : cEnc n f g < 2 ^ 31 := by
        have := f_pow5 hn (cEnc_lt hn (fun k hk => (hf k hk).1) (fun k hk => (hg k hk).1))
        omega
      have hfg : ∀ i, i < n → f i < 5 ∧ g i < 5 := fun i hi => ⟨Nat.lt_of_lt_of_le (hf i hi).1 hn, Nat.lt_of_lt_of_le (hg i hi).1 hn⟩
      -- shear
      obtain ⟨r1, u1, l1, d1, e1, x1, x2, x3, x4⟩ := k_begin hn hf hg sq tr tu tl td
      obtain ⟨u2, l2, d2, s2, e2, x5, x6, x7⟩ := s_shear hn hf hg x1 x2 l1 d1 ts
      obtain ⟨v, nx, o2, nu2, e5, e7, e8⟩ := c_code hT hn hf (sP_comp hf hg) x1 x5 num to tn
      obtain ⟨lx, ly, m1, m2', -⟩ := w_lays (f := f) (g := g) (nI n) (nI F) (nI at') 0 n jF x y hn hfg (jF_gt (by omega)) hlt
      obtain ⟨ly2, m3, m4⟩ := w_shear hn hf hg (fun k hk => (m2' k hk).1) (fun k hk => (m2' k hk).2)
      obtain ⟨v', m5, m6⟩ := p_code h1 hn hf (sP_comp hf hg) (fun k hk => (m2' k hk).1) m4
      have ev := cBest_un m6 e7
      rw [ev] at m5
      obtain ⟨F2, C2, cc2, a2, b2, cw2, e9, e10, h2, z1, z2⟩ := w_keeps hn hw h (kGood_of hf (sP_comp hf hg) e7 e8)
      have w1 := h2.2.1 at' (by omega)
      rw [z2 at' haF, hc] at w1
      -- turn
      obtain ⟨r3, u3, l3, d3, e11, x8, x9, x10, x11⟩ := k_begin hn hf hg (nI n) r1 u2 l2 d2
      obtain ⟨r4, u4, l4, d4, s4, e12, x12, x13, x14, x15⟩ := s_turn hn hf hg x9 x10 d3 s2 (right := r3)
      obtain ⟨v2, nx2, o4, nu4, e15, e17, e18⟩ := c_code hT hn hg (sP_inv hf) x12 x13 nx o2 nu2
      obtain ⟨kx, ky, p1, p2, -⟩ := w_lays (f := f) (g := g) (nI n) (nI F2) (nI at') (0 + 1) n jF lx ly2 hn hfg (jF_gt (by omega)) hlt
      obtain ⟨kx2, ky2, p3, p4, p5⟩ := w_turn hn hf hg (fun k hk => (p2 k hk).1) (fun k hk => (p2 k hk).2)
      obtain ⟨v2', p6, p7⟩ := p_code h1 hn hg (sP_inv hf) p4 p5
      have ev2 := cBest_un p7 e17
      rw [ev2] at p6
      obtain ⟨F4, C4, cc4, a4, b4, cw4, e19, e20, h4, z3, z4⟩ := w_keeps hn hw h2 (kGood_of hg (sP_inv hf) e17 e18)
      obtain ⟨F', a1, a2', a3, a4', a5, a6, a7, a8, a9, a10, b1, b2', b3, b4', b5, i1, i2⟩ := ih (at' + 1) q q2 F4 C4 nx2 (nI n) r4 u4 l4 d4 s4 o4 nu4 cc4 a4 b4 cw4 kx2 ky2 (by omega) (by omega) (by omega) h4
      refine ⟨F', a1, a2', a3, a4', a5, a6, a7, a8, a9, a10, b1, b2', b3, b4', b5, ?_, ?_⟩
      · rw [jf_Ki_codesFrom_L12, if_neg n161, if_neg (nI_ge haF (by omega)), jat_nI cc (by omega) (by decide), c1, e1]
        simp only [Option.bind]
        rw [e2]
        simp only []
        rw [e5]
        simp only []
        rw [e9]
        simp only []
        rw [jat_nI cc2 (by omega) (by decide), w1.1, e11]
        simp only []
        rw [e12]
        simp only []
        rw [e15]
        simp only []
        rw [e19]
        simp only []
        rw [nI_1]
        exact i1
      · have y0 : jf_Lw_kinOf_L57 (nI n) (nI at') 4 (nI F) 0 a b c x y = jf_Lw_kinOf_L57 (nI n) (nI at') 3 (nI F2) (0 + 1) a2 b2 cw2 lx ly2 := by
          rw [jf_Lw_kinOf_L57, if_neg (by decide), kW_pick a b c (by omega) (fun s => jf_Lw_kinOf_b105 (jf_Lw_kinOf_L57 (nI n) (nI at') 3) a b c x y (nI n) (nI F) (nI at') 0 s), c2]
          unfold jf_Lw_kinOf_b105 jf_Lw_kinOf_b174
          simp only [jlet]
          rw [m1]
          simp only [Option.bind]
          first | rw [if_pos rfl, m3] | rw [if_pos trivial, m3]
          simp only []
          rw [m5]
          simp only []
          rw [e10]
        have y1 : jf_Lw_kinOf_L57 (nI n) (nI at') 3 (nI F2) (0 + 1) a2 b2 cw2 lx ly2 = jf_Lw_kinOf_L57 (nI n) (nI at') 2 (nI F4) (0 + 1 + 1) a4 b4 cw4 kx2 ky2 := by
          rw [jf_Lw_kinOf_L57, if_neg (by decide), kW_pick a2 b2 cw2 (by omega) (fun s => jf_Lw_kinOf_b105 (jf_Lw_kinOf_L57 (nI n) (nI at') 2) a2 b2 cw2 lx ly2 (nI n) (nI F2) (nI at') (0 + 1) s), w1.2.1]
          unfold jf_Lw_kinOf_b105 jf_Lw_kinOf_b174
          simp only [jlet]
          rw [p1]
          simp only [Option.bind]
          rw [if_neg (by decide), p3]
          simp only []
          rw [p6]
          simp only []
          rw [e20]
        have y2 : jf_Lw_kinOf_L57 (nI n) (nI at') 2 (nI F4) (0 + 1 + 1) a4 b4 cw4 kx2 ky2 = some (nI F4, a4, b4, cw4, kx2, ky2) := by
          rw [jf_Lw_kinOf_L57, if_pos (by decide)]
        rw [jf_Lw_kinOf_L47, if_neg (nI_ge haF (by omega)), y0, y1, y2]
        simp only [Option.bind]
        rw [nI_1]
        exact i2
theorem kRel_0 {n wd L T p : Nat} (cc mc : Nat → Int32) : kRel n wd L T p 0 (fun _ => 0) cc mc := ⟨Nat.zero_le _, fun i hi => absurd hi (Nat.not_lt_zero i), fun i j hi hj => absurd hj (Nat.not_lt_zero j)⟩
/-- the code: class and law -/
theorem x_code {n : Nat} {right up lr lu : Nat → Int32} {r s u w : Nat → Nat} (h1 : 1 ≤ n) (hn : n ≤ 5) (hr : sP n r s) (hu : sP n u w) (fr : sR n right r) (fu : sR n up u) (gr : sR n lr r) (gu : sR n lu u) (num : Int32) (order number : Nat → Int32) : ∃ v x o' n', jf_Su_leastCode num (nI n) right up order number = some (nI v, x, o', n') ∧ jf_Lw_codeOf lr lu (nI n) = some (nI v) := by
  obtain ⟨P, A, Hm, Om, wd, L, T, p, hT⟩ := tab_n h1 hn
  obtain ⟨v, x, o', n', e1, e2, -⟩ := c_code hT hn hr hu fr fu num order number
  obtain ⟨v', e3, e4⟩ := p_code h1 hn hr hu gr gu
  rw [cBest_un e4 e2] at e3
  exact ⟨v, x, o', n', e1, e3⟩
theorem x_kin {n : Nat} {right up lr lu : Nat → Int32} {r s u w : Nat → Nat} (h1 : 1 ≤ n) (hn : n ≤ 5) (hr : sP n r s) (hu : sP n u w) (fr : sR n right r) (fu : sR n up u) (gr : sR n lr r) (gu : sR n lu u) (num : Int32) (order number : Nat → Int32) (kf tnum tsq : Int32) (tr tu tl td ts to tn cc : Nat → Int32) : ∃ F q, jf_Bi_kin num (nI n) right up order number kf tnum tsq tr tu tl td ts to tn cc = some (nI F, q) ∧ jf_Lw_kinOf lr lu (nI n) = some (nI F) := by
  obtain ⟨P, A, Hm, Om, wd, L, T, p, hT⟩ := tab_n h1 hn
  have hw : wd ≤ 161 := hT.2.2.2.2.2.2
  obtain ⟨v, x, o', n', e1, e2, e3⟩ := c_code hT hn hr hu fr fu num order number
  obtain ⟨v', e4, e5⟩ := p_code h1 hn hr hu gr gu
  rw [cBest_un e5 e2] at e4
  obtain ⟨F, C, cc2, a, b, c, e6, e7, h2, -, -⟩ := w_keeps (cc := cc) (a := fun _ => 0) (b := fun _ => 0) (c := fun _ => 0) hn hw (kRel_0 _ _) (kGood_of hr hu e2 e3)
  obtain ⟨F', a1, a2, a3, a4, a5, a6, a7, a8, a9, a10, b1, b2, b3, b4, b5, i1, i2⟩ := w_loop hT h1 hn 161 0 jF 170 F C tnum tsq tr tu tl td ts to tn cc2 a b c (fun _ => 0) (fun _ => 0) (by omega) (jF_gt (by omega)) (by omega) h2
  have hk : ∃ q, jf_Bi_kin num (nI n) right up order number kf tnum tsq tr tu tl td ts to tn cc = some (nI F', q) := by
    unfold jf_Bi_kin jf_Ki_codesFrom jf_Ki_codesFrom_b101
    rw [e1]
    simp only [Option.bind]
    rw [show jf_Ki_find 0 cc (nI v) = some (nI F, cc2) from e6]
    simp only []
    rw [show jf_Ki_codesFrom_L12 (jf_Su_squares (nI n)) jF 0 (nI F) tnum tsq tr tu tl td ts to tn cc2 = some (nI F', a1, a2, a3, a4, a5, a6, a7, a8, a9, a10) from i1]
    exact ⟨_, rfl⟩
  obtain ⟨q, hk⟩ := hk
  refine ⟨F', q, hk, ?_⟩
  unfold jf_Lw_kinOf
  rw [e4]
  simp only [Option.bind]
  rw [show jf_Lw_keeps (fun _ => 0) (fun _ => 0) (fun _ => 0) (nI v) 0 = some (nI F, a, b, c) from e7]
  simp only []
  rw [show jf_Lw_kinOf_L47 (nI n) 170 (nI F) 0 a b c (fun _ => 0) (fun _ => 0) = some (nI F', b1, b2, b3, b4, b5) from i2]
