theorem k_loop {n : Nat} {P A : List (Nat × Nat)} {Hm Om wd L T p : Nat} (hT : TabOk n P A Hm Om wd L T p) (h1 : 1 ≤ n) (hn : n ≤ 5) : ∀ j at' m m2 F C num sq tr tu tl td ts to tn cc mr mu nm pt mc, at' + j = 161 → j < m → j < m2 → kRel n wd L T p F C cc mc → ∃ F' a1 a2 a3 a4 a5 a6 a7 a8 a9 a10 b1 b2 b3 b4 b5, jf_Ki_codesFrom_L12 (nI n) m (nI at') (nI F) num sq tr tu tl td ts to tn cc = some (nI F', a1, a2, a3, a4, a5, a6, a7, a8, a9, a10) ∧ jf_Mo_kin_L60 (nI n) m2 (nI F) (nI at') mr mu nm pt mc = some (nI F', b1, b2, b3, b4, b5) := by
  have hw : wd ≤ 161 := hT.2.2.2.2.2.2
  intro j
  induction j with
  | zero =>
    intro at' m m2 F C num sq tr tu tl td ts to tn cc mr mu nm pt mc e hm hm2 h
    obtain ⟨q, rfl⟩ : ∃ q, m = q + 1 := ⟨m - 1, by omega⟩
    obtain ⟨q2, rfl⟩ : ∃ q, m2 = q + 1 := ⟨m2 - 1, by omega⟩
    have : at' = 161 := by omega
    subst this
    have hF := h.1
    exact ⟨F, _, _, _, _, _, _, _, _, _, _, _, _, _, _, _, by rw [jf_Ki_codesFrom_L12, if_pos (show (161 : Int32) ≤ nI 161 by decide)], by rw [jf_Mo_kin_L60, if_pos (nI_le hF (by omega))]⟩
  | succ j ih =>
    intro at' m m2 F C num sq tr tu tl td ts to tn cc mr mu nm pt mc e hm hm2 h
    obtain ⟨q, rfl⟩ : ∃ q, m = q + 1 := ⟨m - 1, by omega⟩
    obtain ⟨q2, rfl⟩ : ∃ q, m2 = q + 1 := ⟨m2 - 1, by omega⟩
    have hF := h.1
    have n161 : ¬ (161 : Int32) ≤ nI at' := nI_ge (b := 161) (by omega) (by decide)
    by_cases cF : F ≤ at'
    · exact ⟨F, _, _, _, _, _, _, _, _, _, _, _, _, _, _, _, by rw [jf_Ki_codesFrom_L12, if_neg n161, if_pos (nI_le cF (by omega))], by rw [jf_Mo_kin_L60, if_pos (nI_le cF (by omega))]⟩
    · have haF : at' < F := by omega
      have hin : jin (nI at') 200 = true := jin_nI (by omega) (by decide)
      obtain ⟨c1, c2, c3⟩ := h.2.1 at' haF
      obtain ⟨⟨f, f', g, g', hf, hg, hc⟩, -⟩ := c3
      rw [hc] at c1 c2
      -- shear
      obtain ⟨r1, u1, l1, d1, e1, x1, x2, x3, x4⟩ := k_begin hn hf hg sq tr tu tl td
      obtain ⟨u2, l2, d2, s2, e2, x5, x6, x7⟩ := s_shear hn hf hg x1 x2 l1 d1 ts
      obtain ⟨mr1, mu1, e3, y1, y2⟩ := k_lays hn hf hg mr mu
      obtain ⟨mu2, pt2, e4, y3⟩ := m_shear hn hf hg y1 y2 pt
      obtain ⟨v, nx, o2, nu2, nm2, e5, e6, e7, e8⟩ := s_code hT h1 hn hf (sP_comp hf hg) x1 x5 y1 y3 num to tn nm
      obtain ⟨F2, C2, cc2, mc2, e9, e10, h2, z1, z2⟩ := k_find hn hw h (kGood_of hf (sP_comp hf hg) e7 e8)
      have w1 := h2.2.1 at' (by omega)
      rw [z2 at' haF, hc] at w1
      -- turn
      obtain ⟨r3, u3, l3, d3, e11, x8, x9, x10, x11⟩ := k_begin hn hf hg (nI n) r1 u2 l2 d2
      obtain ⟨r4, u4, l4, d4, s4, e12, x12, x13, x14, x15⟩ := s_turn hn hf hg x9 x10 d3 s2 (right := r3)
      obtain ⟨mr3, mu3, e13, y4, y5⟩ := k_lays hn hf hg mr1 mu2
      obtain ⟨mr4, mu4, pt4, e14, y6, y7⟩ := m_turn hn hf y4 y5 pt2
      obtain ⟨v2, nx2, o4, nu4, nm4, e15, e16, e17, e18⟩ := s_code hT h1 hn hg (sP_inv hf) x12 x13 y6 y7 nx o2 nu2 nm2
      obtain ⟨F4, C4, cc4, mc4, e19, e20, h4, z3, z4⟩ := k_find hn hw h2 (kGood_of hg (sP_inv hf) e17 e18)
      obtain ⟨F', a1, a2, a3, a4, a5, a6, a7, a8, a9, a10, b1, b2, b3, b4, b5, i1, i2⟩ := ih (at' + 1) q q2 F4 C4 nx2 (nI n) r4 u4 l4 d4 s4 o4 nu4 cc4 mr4 mu4 nm4 pt4 mc4 (by omega) (by omega) (by omega) h4
      refine ⟨F', a1, a2, a3, a4, a5, a6, a7, a8, a9, a10, b1, b2, b3, b4, b5, ?_, ?_⟩
      · rw [jf_Ki_codesFrom_L12, if_neg n161, if_neg (nI_ge haF (by omega)), jat_nI cc (by omega) (by decide), c1, e1]
        simp only [Option.bind]
        rw [e2]
        simp only []
        rw [e5]
        simp only []
        rw [e9]
        simp only []
        rw [jat_nI cc2 (by omega) (by decide), w1.1, e11]
        simp only []
        rw [e12]
        simp only []
        rw [e15]
        simp only []
        rw [e19]
        simp only []
        rw [nI_1]
        exact i1
      · rw [jf_Mo_kin_L60, if_neg (nI_ge haF (by omega)), if_pos hin, nI_clamp (by omega), c2, e3]
        simp only [Option.bind]
        rw [e4]
        simp only []
        rw [e6]
        simp only []
        rw [e10]
        simp only []
        rw [if_pos hin, w1.2.1, e13]
        simp only []
        rw [e14]
        simp only []
        rw [e16]
        simp only []
        rw [e20]
        simp only []
        rw [nI_1]
        exact i2
theorem k_keep {n : Nat} {right up : Nat → Int32} (hn : n ≤ 5) : ∀ j k m f g, k + j = n → j < m → (∀ i, i < k → f i = right i ∧ g i = up i) → ∃ f' g', jf_Mo_kin_L7 (nI n) right up m (nI k) f g = some (f', g') ∧ ∀ i, i < n → f' i = right i ∧ g' i = up i := by
  intro j
  induction j with
  | zero =>
    intro k m f g e hm h
    obtain ⟨q, rfl⟩ : ∃ q, m = q + 1 := ⟨m - 1, by omega⟩
    have : k = n := by omega
    subst this
    exact ⟨f, g, by rw [jf_Mo_kin_L7, if_pos (nI_le (Nat.le_refl k) (by omega))], h⟩
  | succ j ih =>
    intro k m f g e hm h
    obtain ⟨q, rfl⟩ : ∃ q, m = q + 1 := ⟨m - 1, by omega⟩
    have hin : jin (nI k) 5 = true := jin_nI (by omega) (by decide)
    rw [jf_Mo_kin_L7, if_neg (nI_ge (by omega) (by omega)), if_pos hin, if_pos hin, if_pos hin, if_pos hin, nI_clamp (by omega), nI_1]
    refine ih (k + 1) q _ _ (by omega) (by omega) (fun i hi => ?_)
    by_cases c : i = k
    · subst c; exact ⟨upd_at _ _ _, upd_at _ _ _⟩
    · rw [upd_ne _ _ c, upd_ne _ _ c]; exact h i (by omega)
theorem k_restore {n : Nat} {kr ku : Nat → Int32} (hn : n ≤ 5) (z1 : Int32) : ∀ j k m f g, k + j = n → j < m → (∀ i, i < k → f i = kr i ∧ g i = ku i) → ∃ f' g', jf_Mo_kin_L127 (nI n) kr ku z1 m (nI k) f g = some (f', g') ∧ ∀ i, i < n → f' i = kr i ∧ g' i = ku i := by
  intro j
  induction j with
  | zero =>
    intro k m f g e hm h
    obtain ⟨q, rfl⟩ : ∃ q, m = q + 1 := ⟨m - 1, by omega⟩
    have : k = n := by omega
    subst this
    exact ⟨f, g, by rw [jf_Mo_kin_L127, if_pos (nI_le (Nat.le_refl k) (by omega))], h⟩
  | succ j ih =>
    intro k m f g e hm h
    obtain ⟨q, rfl⟩ : ∃ q, m = q + 1 := ⟨m - 1, by omega⟩
    have hin : jin (nI k) 5 = true := jin_nI (by omega) (by decide)
    rw [jf_Mo_kin_L127, if_neg (nI_ge (by omega) (by omega)), if_pos hin, if_pos hin, if_pos hin, if_pos hin, nI_clamp (by omega), nI_1]
    refine ih (k + 1) q _ _ (by omega) (by omega) (fun i hi => ?_)
    by_cases c : i = k
    · subst c; exact ⟨upd_at _ _ _, upd_at _ _ _⟩
    · rw [upd_ne _ _ c, upd_ne _ _ c]; exact h i (by omega)
theorem js_kin : jS_kin := by
  intro b _ _ num sq right up left down order number kf tnum tsq tr tu tl td ts to tn codes _ _ _ _ th _ msq _ isB _ _ mr mu kr ku name part mcodes _ _ _ hI
  obtain ⟨j1, j2, ⟨n, n1, n5, rfl, rfl, hpr, hpu, hk⟩, j4⟩ := hI
  obtain ⟨r, s, hr, fr, fl⟩ := jPm_sP hpr
  obtain ⟨u, w, hu, fu, fd⟩ := jPm_sP hpu
  have gr : sR n mr r := sR_eq fr (fun k h => (hk k h).1)
  have gu : sR n mu u := sR_eq fu (fun k h => (hk k h).2)
  obtain ⟨P, A, Hm, Om, wd, L, T, p, hT⟩ := tab_n n1 n5
  obtain ⟨v, x, o, nu, f', e1, e2, e3, e4⟩ := s_code hT n1 n5 hr hu fr fu gr gu num order number name
  obtain ⟨F, C, cc, mc, e5, e6, h2, -, -⟩ := k_find (C := fun _ => 0) n5 hT.2.2.2.2.2.2 (F := 0) (cc := codes) (mc := mcodes) ⟨by omega, fun i hi => absurd hi (Nat.not_lt_zero _), fun i j _ hj => absurd hj (Nat.not_lt_zero _)⟩ (kGood_of hr hu e3 e4)
  obtain ⟨kr', ku', e7, h7⟩ := k_keep (right := mr) (up := mu) n5 n 0 jF kr ku (by omega) (jF_gt (by omega)) (fun i hi => absurd hi (Nat.not_lt_zero _))
  obtain ⟨F', a1, a2, a3, a4, a5, a6, a7, a8, a9, a10, b1, b2, b3, b4, b5, i1, i2⟩ := k_loop hT n1 n5 161 0 jF jF F C tnum tsq tr tu tl td ts to tn cc mr mu f' part mc (by omega) (jF_gt (by omega)) (jF_gt (by omega)) h2
  obtain ⟨mr', mu', e8, h8⟩ := k_restore (kr := kr') (ku := ku') n5 (nI F') n 0 jF b1 b2 (by omega) (jF_gt (by omega)) (fun i hi => absurd hi (Nat.not_lt_zero _))
  unfold jf_Bi_kin jf_Mo_kin jf_Ki_codesFrom jf_Ki_codesFrom_b101 jf_Su_squares
  rw [show (0 : Int32) = nI 0 from rfl, e7, e1]
  simp only [Option.bind]
  rw [e2, e5]
  simp only []
  rw [e6, i1]
  simp only []
  rw [i2]
  simp only []
  rw [e8]
  refine ⟨_, rfl, _, rfl, rfl, j1, j2, ⟨n, n1, n5, rfl, rfl, hpr, hpu, fun k h => ?_⟩, j4⟩
  exact ⟨(h8 k h).1.trans ((h7 k h).1.trans (hk k h).1), (h8 k h).2.trans ((h7 k h).2.trans (hk k h).2)⟩
