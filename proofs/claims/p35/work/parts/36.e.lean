/-! p35: surface, glue, shear and turn as the law sees them -/
theorem z_surface {x n : Nat} {gr gu gl gd : Nat → Int32} (h1 : 1 ≤ x) (h5 : x ≤ 5) : ∃ gr' gu' gl' gd', jf_Lw_surface (nI n) gr gu gl gd (nI x) = some (nI n, nI x, gr', gu', gl', gd') ∧ sR x gr' (fun k => k) ∧ sR x gu' (fun k => k) ∧ sR x gl' (fun k => k) ∧ sR x gd' (fun k => k) := by
  obtain ⟨r', u', e1, h2⟩ := s_begin0 5 0 jF gr gu (by omega) (jF_gt (by omega)) (fun i hi => absurd hi (Nat.not_lt_zero _))
  have fr : sR x r' (fun k => k) := fun k hk => (h2 k (by omega)).1
  have fu : sR x u' (fun k => k) := fun k hk => (h2 k (by omega)).2
  obtain ⟨l', d', e3, h3, h4⟩ := s_glue h5 (sP_id x) (sP_id x) fr fu gl gd
  refine ⟨r', u', l', d', ?_, fr, fu, h3, h4⟩
  unfold jf_Lw_surface jf_Bi_surface jf_Su_squares jf_Su_begin
  rw [c_range (show (1 : Int32) ≤ nI x from nI_le (a := 1) h1 (by omega)) (show nI x ≤ (5 : Int32) from nI_le (b := 5) h5 (by decide))]
  simp only [jsum, jlet]
  rw [show jf_Su_begin_L7 jF 0 gr gu = some (r', u') from e1]
  simp only [Option.bind]
  rw [e3]
  rfl
theorem z_ident {x : Nat} (h5 : x ≤ 5) (z2 : Int64) (z5 z10 z11 z12 z13 : Int32) : ∀ j m k r u, k + j = x → j < m → (∀ i, i < k → r i = nI i ∧ u i = nI i) → ∃ r' u', jf_Lw_law_L853 z2 z5 (nI x) z10 z11 z12 z13 m (nI k) r u = some (r', u') ∧ ∀ i, i < x → r' i = nI i ∧ u' i = nI i := by
  intro j
  induction j with
  | zero =>
    intro m k r u e hm h
    obtain ⟨q, rfl⟩ : ∃ q, m = q + 1 := ⟨m - 1, by omega⟩
    have : k = x := by omega
    subst this
    exact ⟨r, u, by rw [jf_Lw_law_L853, if_pos (nI_le (Nat.le_refl k) (by omega))], h⟩
  | succ j ih =>
    intro m k r u e hm h
    obtain ⟨q, rfl⟩ : ∃ q, m = q + 1 := ⟨m - 1, by omega⟩
    rw [jf_Lw_law_L853, if_neg (nI_ge (by omega) (by omega)), if_pos (jin_nI (n := 5) (by omega) (by decide)), if_pos (jin_nI (n := 5) (by omega) (by decide)), nI_clamp (by omega), nI_1]
    refine ih q (k + 1) _ _ (by omega) (by omega) (fun i hi => ?_)
    by_cases c : i = k
    · subst c; exact ⟨upd_at _ _ _, upd_at _ _ _⟩
    · rw [upd_ne _ _ c, upd_ne _ _ c]; exact h i (by omega)
theorem z_b816 {self : zF} (z2 : Int64) (z5 z6 z10 z11 z12 : Int32) (B : Int64) (LA : Int32) (cO : Nat → Int32) (GN : Int32) (GS : Int32) (gr : Nat → Int32) (gu : Nat → Int32) (gl : Nat → Int32) (gd : Nat → Int32) (gs : Nat → Int32) (go : Nat → Int32) (gm : Nat → Int32) (KF : Int32) (KN : Int32) (KS : Int32) (kr : Nat → Int32) (ku : Nat → Int32) (kl : Nat → Int32) (kd : Nat → Int32) (ks : Nat → Int32) (ko : Nat → Int32) (km : Nat → Int32) (kc : Nat → Int32) (EI : Int32) (el : Nat → Int32) (ea : Nat → Int32) (eb : Nat → Int32) (em : Nat → Int64) (lm : Nat → Int32) (r : Nat → Int32) (u : Nat → Int32) (e : Nat → Int32) (hG : zGo self (z10 + 1)) (h : zInv z2 z5 z6 B LA cO GS gr gu gl gd EI el ea eb lm r u e) : zEnd (jf_Lw_law_b816 self B LA cO GN GS gr gu gl gd gs go gm KF KN KS kr ku kl kd ks ko km kc EI el ea eb em lm r u e z2 z5 z6 z10 z11 z12) := by
  obtain ⟨hB, hL, ⟨n, n1, n5, e1, e2, hpr, hpu, hk⟩, hE⟩ := h
  subst e1
  subst e2
  obtain ⟨a, ha, ea1⟩ := z_low5 (z12 >>> (3 &&& 31))
  have hz : (1 : Int32) + nI a = nI (1 + a) := by rw [show (1 : Int32) = nI 1 from rfl, nI_add]
  obtain ⟨gr', gu', gl', gd', r1, r2, r3, r4, r5⟩ := z_surface (x := 1 + a) (n := n) (gr := gr) (gu := gu) (gl := gl) (gd := gd) (by omega) (by omega)
  obtain ⟨r', u', q1, q2⟩ := z_ident (x := 1 + a) (by omega) z2 z5 z10 z11 z12 1 (1 + a) jF 0 r u (by omega) (jF_gt (by omega)) (fun i hi => absurd hi (Nat.not_lt_zero _))
  unfold jf_Lw_law_b816
  rw [ea1]
  simp only [Option.bind, jlet]
  rw [hz, r1]
  simp only []
  first | rw [if_pos rfl] | rw [if_pos trivial]
  unfold jf_Lw_law_b844
  rw [show jf_Lw_law_L853 z2 z5 (nI (1 + a)) z10 z11 z12 1 jF 0 r u = some (r', u') from q1]
  simp only [Option.bind]
  refine z_check _ _ _ _ _ _ _ _ _ _ _ _ _ _ _ _ _ _ _ _ _ _ _ _ _ _ _ _ _ _ _ _ _ _ _ _ _ _ hG ⟨hB, hL, ⟨1 + a, by omega, by omega, rfl, rfl, sP_jPm (sP_id _) r2 r4, sP_jPm (sP_id _) r3 r5, fun k hk2 => ⟨?_, ?_⟩⟩, hE⟩
  · rw [(q2 k hk2).1]; exact (r2 k hk2).symm
  · rw [(q2 k hk2).2]; exact (r3 k hk2).symm
theorem z_c8 {self : zF} (z2 : Int64) (z5 z6 z10 z11 z12 : Int32) (B : Int64) (LA : Int32) (cO : Nat → Int32) (GN : Int32) (GS : Int32) (gr : Nat → Int32) (gu : Nat → Int32) (gl : Nat → Int32) (gd : Nat → Int32) (gs : Nat → Int32) (go : Nat → Int32) (gm : Nat → Int32) (KF : Int32) (KN : Int32) (KS : Int32) (kr : Nat → Int32) (ku : Nat → Int32) (kl : Nat → Int32) (kd : Nat → Int32) (ks : Nat → Int32) (ko : Nat → Int32) (km : Nat → Int32) (kc : Nat → Int32) (EI : Int32) (el : Nat → Int32) (ea : Nat → Int32) (eb : Nat → Int32) (em : Nat → Int64) (lm : Nat → Int32) (r : Nat → Int32) (u : Nat → Int32) (e : Nat → Int32) (hG : zGo self (z10 + 1)) (h : zInv z2 z5 z6 B LA cO GS gr gu gl gd EI el ea eb lm r u e) : zEnd (jf_Lw_law_b101 self B LA cO GN GS gr gu gl gd gs go gm KF KN KS kr ku kl kd ks ko km kc EI el ea eb em lm r u e z2 z5 z6 z10 z11 z12 1 8) := by
  unfold jf_Lw_law_b101
  rw [if_neg (show ¬ (8 : Int32) = 0 by decide), if_neg (show ¬ (8 : Int32) = 1 by decide), if_neg (show ¬ (8 : Int32) = 2 by decide), if_neg (show ¬ (8 : Int32) = 3 by decide), if_neg (show ¬ (8 : Int32) = 4 by decide), if_neg (show ¬ (8 : Int32) = 5 by decide), if_neg (show ¬ (8 : Int32) = 6 by decide), if_neg (show ¬ (8 : Int32) = 7 by decide), if_pos (show (8 : Int32) = 8 from rfl)]
  split
  · exact z_b816 _ _ _ _ _ _ _ _ _ _ _ _ _ _ _ _ _ _ _ _ _ _ _ _ _ _ _ _ _ _ _ _ _ _ _ _ _ _ hG h
  · split
    · exact z_b816 _ _ _ _ _ _ _ _ _ _ _ _ _ _ _ _ _ _ _ _ _ _ _ _ _ _ _ _ _ _ _ _ _ _ _ _ _ _ hG h
    · exact z_check _ _ _ _ _ _ _ _ _ _ _ _ _ _ _ _ _ _ _ _ _ _ _ _ _ _ _ _ _ _ _ _ _ _ _ _ _ _ hG h
theorem z_glue {n a c : Nat} {gr gu gl gd r u : Nat → Int32} {z6 : Int32} (hn : n ≤ 5) (ha : a < n) (hc : c < n) (h : jIs (nI n) gr gu gl gd z6 r u) : (∃ gl' gd', jf_Lw_glue (nI n) gr gu gl gd (nI a) (nI c) 0 = some (upd (upd r a (r c)) c (r a) a, upd (upd gr a (gr c)) c (gr a), gu, gl', gd') ∧ jIs (nI n) (upd (upd gr a (gr c)) c (gr a)) gu gl' gd' z6 (upd (upd r a (r c)) c (r a)) u) ∧ ∃ gl' gd', jf_Lw_glue (nI n) gr gu gl gd (nI a) (nI c) 1 = some (upd (upd u a (u c)) c (u a) a, gr, upd (upd gu a (gu c)) c (gu a), gl', gd') ∧ jIs (nI n) gr (upd (upd gu a (gu c)) c (gu a)) gl' gd' z6 r (upd (upd u a (u c)) c (u a)) := by
  obtain ⟨n2, n1, n5, e1, e2, hpr, hpu, hk⟩ := h
  have : n2 = n := ((nI_eq (by omega) (by omega)).1 e1).symm
  subst this
  have cr := sR_swap (f := gr) (g := r) n5 ha hc (fun k h => (hk k h).1)
  have cu := sR_swap (f := gu) (g := u) n5 ha hc (fun k h => (hk k h).2)
  obtain ⟨R, S, p1, p2, p3⟩ := jPm_sP hpr
  obtain ⟨U, W, p4, p5, p6⟩ := jPm_sP hpu
  unfold jf_Lw_glue jf_Bi_glue jf_Su_squares
  rw [c_place (nI_pos' (by omega)) (nI_lt ha (by omega)), c_place (nI_pos' (by omega)) (nI_lt hc (by omega))]
  simp only [jsum]
  unfold jf_Su_exchangeTwo jf_Su_exchangeTwo_b15 jf_Su_exchangeTwo_b15_1
  simp only [jlet]
  rw [cr.1, cu.1]
  constructor
  · obtain ⟨g', hg'⟩ := jPm_swap hpr ha hc
    obtain ⟨R2, S2, q1, q2, q3⟩ := jPm_sP hg'
    obtain ⟨l', d', e5, h5, h6⟩ := s_glue n5 q1 p4 q2 p5 gl gd
    refine ⟨l', d', ?_, n2, n1, n5, rfl, e2, sP_jPm q1 q2 h5, sP_jPm p4 p5 h6, fun k h => ⟨cr.2 k h, (hk k h).2⟩⟩
    rw [if_pos trivial, e5]
    simp only [Option.bind]
    unfold jf_Lw_glue_n
    rw [jat_nI _ (by omega) (by decide), cr.2 a ha]
  · obtain ⟨g', hg'⟩ := jPm_swap hpu ha hc
    obtain ⟨U2, W2, q1, q2, q3⟩ := jPm_sP hg'
    obtain ⟨l', d', e5, h5, h6⟩ := s_glue n5 p1 q1 p2 q2 gl gd
    refine ⟨l', d', ?_, n2, n1, n5, rfl, e2, sP_jPm p1 p2 h5, sP_jPm q1 q2 h6, fun k h => ⟨(hk k h).1, cu.2 k h⟩⟩
    rw [if_neg (show ¬ (1 : Int32) = 0 by decide), e5]
    simp only [Option.bind]
    unfold jf_Lw_glue_n
    rw [jat_nI _ (by omega) (by decide), cu.2 a ha]
abbrev zG : Type := Int32 × (Nat → Int32) × (Nat → Int32) × (Nat → Int32) × (Nat → Int32) × (Nat → Int32) × (Nat → Int32)
theorem z_glues {n : Nat} (h1 : 1 ≤ n) (hn : n ≤ 5) (z2 : Int64) (z5 z10 z11 z12 : Int32) : ∀ j m k gr gu gl gd r u, k + j = 4 → j < m → jIs (nI n) gr gu gl gd (nI n) r u → ∃ gr' gu' gl' gd' r' u', jf_Lw_law_L886 (nI n) z2 z5 (nI n) z10 z11 z12 m 1 (nI k) gr gu gl gd r u = some (1, gr', gu', gl', gd', r', u') ∧ jIs (nI n) gr' gu' gl' gd' (nI n) r' u' := by
  intro j
  induction j with
  | zero =>
    intro m k gr gu gl gd r u e hm h
    obtain ⟨q, rfl⟩ : ∃ q, m = q + 1 := ⟨m - 1, by omega⟩
    have : k = 4 := by omega
    subst this
    exact ⟨gr, gu, gl, gd, r, u, by rw [jf_Lw_law_L886, if_pos (show (4 : Int32) ≤ nI 4 by decide)], h⟩
  | succ j ih =>
    intro m k gr gu gl gd r u e hm h
    obtain ⟨q, rfl⟩ : ∃ q, m = q + 1 := ⟨m - 1, by omega⟩
    obtain ⟨a, ha, ea1⟩ := l_low (z12 >>> ((3 * nI k) &&& 31)) (show 0 < n by omega) (by omega)
    obtain ⟨d, hd, ed1⟩ := l_low (z12 >>> (((3 * nI k) + 7) &&& 31)) (show 0 < n by omega) (by omega)
    have ja : jin (nI a) 5 = true := jin_nI (by omega) (by decide)
    have jd : jin (nI d) 5 = true := jin_nI (by omega) (by decide)
    obtain ⟨⟨l1, d1, g1, i1⟩, ⟨l2, d2, g2, i2⟩⟩ := z_glue hn ha hd h
    rw [jf_Lw_law_L886, if_neg (show ¬ (4 : Int32) ≤ nI k from nI_ge (b := 4) (by omega) (by decide)), ea1]
    simp only [Option.bind]
    rw [ed1]
    simp only []
    unfold jf_Lw_law_b942 jf_Lw_law_b956 jf_Lw_law_b956_1 jf_Lw_law_b1007
    simp only [jlet]
    rw [if_neg (show ¬ (1 : Int32) = 0 by decide), if_pos trivial, if_pos ja, if_pos jd, if_pos ja, if_pos jd, if_pos ja, if_pos jd, if_pos ja, if_pos jd, nI_clamp (show a < 2 ^ 31 by omega), nI_clamp (show d < 2 ^ 31 by omega), g1, g2]
    simp only [Option.bind]
    rw [if_pos ja, if_pos ja, if_pos trivial, if_pos trivial, z_11, nI_1]
    split
    · exact ih q (k + 1) _ _ _ _ _ _ (by omega) (by omega) i2
    · exact ih q (k + 1) _ _ _ _ _ _ (by omega) (by omega) i1
theorem z_c9 {self : zF} (z2 : Int64) (z5 z6 z10 z11 z12 : Int32) (B : Int64) (LA : Int32) (cO : Nat → Int32) (GN : Int32) (GS : Int32) (gr : Nat → Int32) (gu : Nat → Int32) (gl : Nat → Int32) (gd : Nat → Int32) (gs : Nat → Int32) (go : Nat → Int32) (gm : Nat → Int32) (KF : Int32) (KN : Int32) (KS : Int32) (kr : Nat → Int32) (ku : Nat → Int32) (kl : Nat → Int32) (kd : Nat → Int32) (ks : Nat → Int32) (ko : Nat → Int32) (km : Nat → Int32) (kc : Nat → Int32) (EI : Int32) (el : Nat → Int32) (ea : Nat → Int32) (eb : Nat → Int32) (em : Nat → Int64) (lm : Nat → Int32) (r : Nat → Int32) (u : Nat → Int32) (e : Nat → Int32) (hG : zGo self (z10 + 1)) (h : zInv z2 z5 z6 B LA cO GS gr gu gl gd EI el ea eb lm r u e) : zEnd (jf_Lw_law_b101 self B LA cO GN GS gr gu gl gd gs go gm KF KN KS kr ku kl kd ks ko km kc EI el ea eb em lm r u e z2 z5 z6 z10 z11 z12 1 9) := by
  unfold jf_Lw_law_b101
  rw [if_neg (show ¬ (9 : Int32) = 0 by decide), if_neg (show ¬ (9 : Int32) = 1 by decide), if_neg (show ¬ (9 : Int32) = 2 by decide), if_neg (show ¬ (9 : Int32) = 3 by decide), if_neg (show ¬ (9 : Int32) = 4 by decide), if_neg (show ¬ (9 : Int32) = 5 by decide), if_neg (show ¬ (9 : Int32) = 6 by decide), if_neg (show ¬ (9 : Int32) = 7 by decide), if_neg (show ¬ (9 : Int32) = 8 by decide), if_pos (show (9 : Int32) = 9 from rfl)]
  obtain ⟨hB, hL, hS, hE⟩ := h
  have hS0 := hS
  obtain ⟨n, n1, n5, e1, e2, -, -, -⟩ := hS0
  subst e1
  subst e2
  obtain ⟨gr', gu', gl', gd', r', u', r1, r2⟩ := z_glues n1 n5 z2 z5 z10 z11 z12 4 6 0 gr gu gl gd r u (by omega) (by omega) hS
  rw [show jf_Lw_law_L886 (nI n) z2 z5 (nI n) z10 z11 z12 6 1 0 gr gu gl gd r u = some (1, gr', gu', gl', gd', r', u') from r1]
  simp only [Option.bind]
  exact z_check _ _ _ _ _ _ _ _ _ _ _ _ _ _ _ _ _ _ _ _ _ _ _ _ _ _ _ _ _ _ _ _ _ _ _ _ _ _ hG ⟨hB, hL, r2, hE⟩
theorem z_c10 {self : zF} (z2 : Int64) (z5 z6 z10 z11 z12 : Int32) (B : Int64) (LA : Int32) (cO : Nat → Int32) (GN : Int32) (GS : Int32) (gr : Nat → Int32) (gu : Nat → Int32) (gl : Nat → Int32) (gd : Nat → Int32) (gs : Nat → Int32) (go : Nat → Int32) (gm : Nat → Int32) (KF : Int32) (KN : Int32) (KS : Int32) (kr : Nat → Int32) (ku : Nat → Int32) (kl : Nat → Int32) (kd : Nat → Int32) (ks : Nat → Int32) (ko : Nat → Int32) (km : Nat → Int32) (kc : Nat → Int32) (EI : Int32) (el : Nat → Int32) (ea : Nat → Int32) (eb : Nat → Int32) (em : Nat → Int64) (lm : Nat → Int32) (r : Nat → Int32) (u : Nat → Int32) (e : Nat → Int32) (hG : zGo self (z10 + 1)) (h : zInv z2 z5 z6 B LA cO GS gr gu gl gd EI el ea eb lm r u e) : zEnd (jf_Lw_law_b101 self B LA cO GN GS gr gu gl gd gs go gm KF KN KS kr ku kl kd ks ko km kc EI el ea eb em lm r u e z2 z5 z6 z10 z11 z12 1 10) := by
  unfold jf_Lw_law_b101
  rw [if_neg (show ¬ (10 : Int32) = 0 by decide), if_neg (show ¬ (10 : Int32) = 1 by decide), if_neg (show ¬ (10 : Int32) = 2 by decide), if_neg (show ¬ (10 : Int32) = 3 by decide), if_neg (show ¬ (10 : Int32) = 4 by decide), if_neg (show ¬ (10 : Int32) = 5 by decide), if_neg (show ¬ (10 : Int32) = 6 by decide), if_neg (show ¬ (10 : Int32) = 7 by decide), if_neg (show ¬ (10 : Int32) = 8 by decide), if_neg (show ¬ (10 : Int32) = 9 by decide), if_pos (show (10 : Int32) = 10 from rfl)]
  obtain ⟨hB, hL, hS, hE⟩ := h
  have hS0 := hS
  obtain ⟨n, n1, n5, e1, e2, -, -, -⟩ := hS0
  subst e1
  subst e2
  obtain ⟨gr', gu', gl', gd', r', u', r1, r2⟩ := z_glues n1 n5 z2 z5 z10 z11 z12 4 6 0 gr gu gl gd r u (by omega) (by omega) hS
  rw [show jf_Lw_law_L886 (nI n) z2 z5 (nI n) z10 z11 z12 6 1 0 gr gu gl gd r u = some (1, gr', gu', gl', gd', r', u') from r1]
  simp only [Option.bind]
  exact z_check _ _ _ _ _ _ _ _ _ _ _ _ _ _ _ _ _ _ _ _ _ _ _ _ _ _ _ _ _ _ _ _ _ _ _ _ _ _ hG ⟨hB, hL, r2, hE⟩
theorem z_c11 {self : zF} (z2 : Int64) (z5 z6 z10 z11 z12 : Int32) (B : Int64) (LA : Int32) (cO : Nat → Int32) (GN : Int32) (GS : Int32) (gr : Nat → Int32) (gu : Nat → Int32) (gl : Nat → Int32) (gd : Nat → Int32) (gs : Nat → Int32) (go : Nat → Int32) (gm : Nat → Int32) (KF : Int32) (KN : Int32) (KS : Int32) (kr : Nat → Int32) (ku : Nat → Int32) (kl : Nat → Int32) (kd : Nat → Int32) (ks : Nat → Int32) (ko : Nat → Int32) (km : Nat → Int32) (kc : Nat → Int32) (EI : Int32) (el : Nat → Int32) (ea : Nat → Int32) (eb : Nat → Int32) (em : Nat → Int64) (lm : Nat → Int32) (r : Nat → Int32) (u : Nat → Int32) (e : Nat → Int32) (hG : zGo self (z10 + 1)) (h : zInv z2 z5 z6 B LA cO GS gr gu gl gd EI el ea eb lm r u e) (s0 : Int32) (hs : ¬ s0 = 0 ∧ ¬ s0 = 1 ∧ ¬ s0 = 2 ∧ ¬ s0 = 3 ∧ ¬ s0 = 4 ∧ ¬ s0 = 5 ∧ ¬ s0 = 6 ∧ ¬ s0 = 7 ∧ ¬ s0 = 8 ∧ ¬ s0 = 9 ∧ ¬ s0 = 10) : zEnd (jf_Lw_law_b101 self B LA cO GN GS gr gu gl gd gs go gm KF KN KS kr ku kl kd ks ko km kc EI el ea eb em lm r u e z2 z5 z6 z10 z11 z12 1 s0) := by
  obtain ⟨h0, h1, h2, h3, h4, h5, h6, h7, h8, h9, h10⟩ := hs
  unfold jf_Lw_law_b101
  rw [if_neg h0, if_neg h1, if_neg h2, if_neg h3, if_neg h4, if_neg h5, if_neg h6, if_neg h7, if_neg h8, if_neg h9, if_neg h10]
  obtain ⟨hB, hL, ⟨n, n1, n5, e1, e2, hpr, hpu, hk⟩, hE⟩ := h
  subst e1
  subst e2
  obtain ⟨R, S, hr, fr, fl⟩ := jPm_sP hpr
  obtain ⟨U, W, hu, fu, fd⟩ := jPm_sP hpu
  have hr2 : sR n r R := sR_eq fr (fun k h => (hk k h).1)
  have hu2 : sR n u U := sR_eq fu (fun k h => (hk k h).2)
  unfold jf_Lw_law_b1047 jf_Lw_law_b1065 jf_Lw_law_b1082
  by_cases c : z12 &&& 2 ≤ 0
  · obtain ⟨gr', gu', gl', gd', gs', a1, a2, a3, a4, a5⟩ := s_turn n5 hr hu fu fl gd gs (right := gr)
    obtain ⟨r', u', b1, b2, b3⟩ := w_turn n5 hr hu hr2 hu2
    obtain ⟨v, x, o, nu, q1, q2⟩ := x_code n1 n5 hu (sP_inv hr) a2 a3 b2 b3 GN go gm
    rw [if_pos c, b1]
    simp only [Option.bind]
    rw [if_pos c]
    unfold jf_Bi_turn
    rw [a1]
    simp only [Option.bind]
    rw [q1]
    simp only []
    rw [q2]
    simp only []
    first | rw [if_pos rfl] | rw [if_pos trivial]
    exact z_check _ _ _ _ _ _ _ _ _ _ _ _ _ _ _ _ _ _ _ _ _ _ _ _ _ _ _ _ _ _ _ _ _ _ _ _ _ _ hG ⟨hB, hL, ⟨n, n1, n5, rfl, rfl, sP_jPm hu a2 a4, sP_jPm (sP_inv hr) a3 a5, fun k h => ⟨(b2 k h).trans (a2 k h).symm, (b3 k h).trans (a3 k h).symm⟩⟩, hE⟩
  · obtain ⟨gu', gl', gd', gs', a1, a2, a3, a4⟩ := s_shear n5 hr hu fr fu gl gd gs
    obtain ⟨u', b1, b2⟩ := w_shear n5 hr hu hr2 hu2
    obtain ⟨v, x, o, nu, q1, q2⟩ := x_code n1 n5 hr (sP_comp hr hu) fr a2 hr2 b2 GN go gm
    rw [if_neg c, b1]
    simp only [Option.bind]
    rw [if_neg c]
    unfold jf_Bi_shear
    rw [a1]
    simp only [Option.bind]
    rw [q1]
    simp only []
    rw [q2]
    simp only []
    first | rw [if_pos rfl] | rw [if_pos trivial]
    exact z_check _ _ _ _ _ _ _ _ _ _ _ _ _ _ _ _ _ _ _ _ _ _ _ _ _ _ _ _ _ _ _ _ _ _ _ _ _ _ hG ⟨hB, hL, ⟨n, n1, n5, rfl, rfl, sP_jPm hr fr a3, sP_jPm (sP_comp hr hu) a2 a4, fun k h => ⟨(hk k h).1, (b2 k h).trans (a2 k h).symm⟩⟩, hE⟩
