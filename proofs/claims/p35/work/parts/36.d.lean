/-! p35: the law's twelve kinds of turns -/
theorem z_c0 {self : zF} (z2 : Int64) (z5 z6 z10 z11 z12 : Int32) (B : Int64) (LA : Int32) (cO : Nat → Int32) (GN : Int32) (GS : Int32) (gr : Nat → Int32) (gu : Nat → Int32) (gl : Nat → Int32) (gd : Nat → Int32) (gs : Nat → Int32) (go : Nat → Int32) (gm : Nat → Int32) (KF : Int32) (KN : Int32) (KS : Int32) (kr : Nat → Int32) (ku : Nat → Int32) (kl : Nat → Int32) (kd : Nat → Int32) (ks : Nat → Int32) (ko : Nat → Int32) (km : Nat → Int32) (kc : Nat → Int32) (EI : Int32) (el : Nat → Int32) (ea : Nat → Int32) (eb : Nat → Int32) (em : Nat → Int64) (lm : Nat → Int32) (r : Nat → Int32) (u : Nat → Int32) (e : Nat → Int32) (hG : zGo self (z10 + 1)) (h : zInv z2 z5 z6 B LA cO GS gr gu gl gd EI el ea eb lm r u e) : zEnd (jf_Lw_law_b101 self B LA cO GN GS gr gu gl gd gs go gm KF KN KS kr ku kl kd ks ko km kc EI el ea eb em lm r u e z2 z5 z6 z10 z11 z12 1 0) := by
  unfold jf_Lw_law_b101
  rw [if_pos (show (0 : Int32) = 0 from rfl)]
  obtain ⟨hB, hL, hS, hE⟩ := h
  subst hB
  obtain ⟨b', e1⟩ := z_blocks z5 z6 z10 z11 z12 3 0 6 z2 (by omega) (by omega)
  rw [show jf_Lw_law_L163 z5 z6 z10 z11 z12 6 z2 1 0 z2 = some (b', 1, b') from e1]
  simp only [Option.bind]
  exact z_check _ _ _ _ _ _ _ _ _ _ _ _ _ _ _ _ _ _ _ _ _ _ _ _ _ _ _ _ _ _ _ _ _ _ _ _ _ _ hG ⟨rfl, hL, hS, hE⟩
theorem z_c1 {self : zF} (z2 : Int64) (z5 z6 z10 z11 z12 : Int32) (B : Int64) (LA : Int32) (cO : Nat → Int32) (GN : Int32) (GS : Int32) (gr : Nat → Int32) (gu : Nat → Int32) (gl : Nat → Int32) (gd : Nat → Int32) (gs : Nat → Int32) (go : Nat → Int32) (gm : Nat → Int32) (KF : Int32) (KN : Int32) (KS : Int32) (kr : Nat → Int32) (ku : Nat → Int32) (kl : Nat → Int32) (kd : Nat → Int32) (ks : Nat → Int32) (ko : Nat → Int32) (km : Nat → Int32) (kc : Nat → Int32) (EI : Int32) (el : Nat → Int32) (ea : Nat → Int32) (eb : Nat → Int32) (em : Nat → Int64) (lm : Nat → Int32) (r : Nat → Int32) (u : Nat → Int32) (e : Nat → Int32) (hG : zGo self (z10 + 1)) (h : zInv z2 z5 z6 B LA cO GS gr gu gl gd EI el ea eb lm r u e) : zEnd (jf_Lw_law_b101 self B LA cO GN GS gr gu gl gd gs go gm KF KN KS kr ku kl kd ks ko km kc EI el ea eb em lm r u e z2 z5 z6 z10 z11 z12 1 1) := by
  unfold jf_Lw_law_b101
  rw [if_neg (show ¬ (1 : Int32) = 0 by decide), if_pos (show (1 : Int32) = 1 from rfl)]
  obtain ⟨hB, hL, hS, hE⟩ := h
  subst hB
  obtain ⟨b', e1⟩ := z_blocks z5 z6 z10 z11 z12 3 0 6 z2 (by omega) (by omega)
  rw [show jf_Lw_law_L163 z5 z6 z10 z11 z12 6 z2 1 0 z2 = some (b', 1, b') from e1]
  simp only [Option.bind]
  exact z_check _ _ _ _ _ _ _ _ _ _ _ _ _ _ _ _ _ _ _ _ _ _ _ _ _ _ _ _ _ _ _ _ _ _ _ _ _ _ hG ⟨rfl, hL, hS, hE⟩
theorem z_c2 {self : zF} (z2 : Int64) (z5 z6 z10 z11 z12 : Int32) (B : Int64) (LA : Int32) (cO : Nat → Int32) (GN : Int32) (GS : Int32) (gr : Nat → Int32) (gu : Nat → Int32) (gl : Nat → Int32) (gd : Nat → Int32) (gs : Nat → Int32) (go : Nat → Int32) (gm : Nat → Int32) (KF : Int32) (KN : Int32) (KS : Int32) (kr : Nat → Int32) (ku : Nat → Int32) (kl : Nat → Int32) (kd : Nat → Int32) (ks : Nat → Int32) (ko : Nat → Int32) (km : Nat → Int32) (kc : Nat → Int32) (EI : Int32) (el : Nat → Int32) (ea : Nat → Int32) (eb : Nat → Int32) (em : Nat → Int64) (lm : Nat → Int32) (r : Nat → Int32) (u : Nat → Int32) (e : Nat → Int32) (hG : zGo self (z10 + 1)) (h : zInv z2 z5 z6 B LA cO GS gr gu gl gd EI el ea eb lm r u e) : zEnd (jf_Lw_law_b101 self B LA cO GN GS gr gu gl gd gs go gm KF KN KS kr ku kl kd ks ko km kc EI el ea eb em lm r u e z2 z5 z6 z10 z11 z12 1 2) := by
  unfold jf_Lw_law_b101
  rw [if_neg (show ¬ (2 : Int32) = 0 by decide), if_neg (show ¬ (2 : Int32) = 1 by decide), if_pos (show (2 : Int32) = 2 from rfl)]
  obtain ⟨hB, hL, hS, hE⟩ := h
  subst hB
  obtain ⟨b', e1⟩ := z_blocks z5 z6 z10 z11 z12 3 0 6 z2 (by omega) (by omega)
  rw [show jf_Lw_law_L163 z5 z6 z10 z11 z12 6 z2 1 0 z2 = some (b', 1, b') from e1]
  simp only [Option.bind]
  exact z_check _ _ _ _ _ _ _ _ _ _ _ _ _ _ _ _ _ _ _ _ _ _ _ _ _ _ _ _ _ _ _ _ _ _ _ _ _ _ hG ⟨rfl, hL, hS, hE⟩
theorem z_c3 {self : zF} (z2 : Int64) (z5 z6 z10 z11 z12 : Int32) (B : Int64) (LA : Int32) (cO : Nat → Int32) (GN : Int32) (GS : Int32) (gr : Nat → Int32) (gu : Nat → Int32) (gl : Nat → Int32) (gd : Nat → Int32) (gs : Nat → Int32) (go : Nat → Int32) (gm : Nat → Int32) (KF : Int32) (KN : Int32) (KS : Int32) (kr : Nat → Int32) (ku : Nat → Int32) (kl : Nat → Int32) (kd : Nat → Int32) (ks : Nat → Int32) (ko : Nat → Int32) (km : Nat → Int32) (kc : Nat → Int32) (EI : Int32) (el : Nat → Int32) (ea : Nat → Int32) (eb : Nat → Int32) (em : Nat → Int64) (lm : Nat → Int32) (r : Nat → Int32) (u : Nat → Int32) (e : Nat → Int32) (hG : zGo self (z10 + 1)) (h : zInv z2 z5 z6 B LA cO GS gr gu gl gd EI el ea eb lm r u e) : zEnd (jf_Lw_law_b101 self B LA cO GN GS gr gu gl gd gs go gm KF KN KS kr ku kl kd ks ko km kc EI el ea eb em lm r u e z2 z5 z6 z10 z11 z12 1 3) := by
  unfold jf_Lw_law_b101
  rw [if_neg (show ¬ (3 : Int32) = 0 by decide), if_neg (show ¬ (3 : Int32) = 1 by decide), if_neg (show ¬ (3 : Int32) = 2 by decide), if_pos (show (3 : Int32) = 3 from rfl)]
  obtain ⟨hB, ⟨n, L, hn, h5, hA, hl⟩, hS, hE⟩ := h
  subst hB
  subst h5
  subst hA
  obtain ⟨a, ha, ea1⟩ := z_low64 z12
  rw [ea1]
  simp only [Option.bind]
  unfold jf_Lw_law_b314 jf_Lw_law_b322
  by_cases c : n = 6
  · subst c
    rw [z_lampFull cO ha]
    simp only []
    rw [if_pos (show nI 6 = 6 from rfl), if_pos trivial, if_pos (show (6 : Int32) ≤ nI 6 by decide)]
    exact z_check _ _ _ _ _ _ _ _ _ _ _ _ _ _ _ _ _ _ _ _ _ _ _ _ _ _ _ _ _ _ _ _ _ _ _ _ _ _ hG ⟨rfl, ⟨6, L, hn, rfl, rfl, hl⟩, hS, hE⟩
  · rw [z_lamp cO (show n < 6 by omega) ha]
    simp only []
    rw [if_neg (show ¬ nI n = (6 : Int32) from fun h => c ((nI_eq (b := 6) (by omega) (by decide)).1 h)), if_pos trivial, if_neg (show ¬ (6 : Int32) ≤ nI n from nI_ge (b := 6) (by omega) (by decide)), if_pos (jin_nI (n := 6) (show n < 6 by omega) (by decide)), nI_clamp (by omega), nI_1]
    refine z_check _ _ _ _ _ _ _ _ _ _ _ _ _ _ _ _ _ _ _ _ _ _ _ _ _ _ _ _ _ _ _ _ _ _ _ _ _ _ hG ⟨rfl, ⟨n + 1, fun k => if k = n then a else L k, by omega, rfl, rfl, fun k hk => ?_⟩, hS, hE⟩
    show (if k = n then a else L k) < 64 ∧ upd cO n (nI a) k = nI (if k = n then a else L k) ∧ upd lm n (nI a) k = nI (if k = n then a else L k)
    by_cases e : k = n
    · subst e
      rw [if_pos rfl]
      exact ⟨ha, upd_at _ _ _, upd_at _ _ _⟩
    · rw [if_neg e, upd_ne _ _ e, upd_ne _ _ e]
      exact hl k (by omega)
theorem z_c4 {self : zF} (z2 : Int64) (z5 z6 z10 z11 z12 : Int32) (B : Int64) (LA : Int32) (cO : Nat → Int32) (GN : Int32) (GS : Int32) (gr : Nat → Int32) (gu : Nat → Int32) (gl : Nat → Int32) (gd : Nat → Int32) (gs : Nat → Int32) (go : Nat → Int32) (gm : Nat → Int32) (KF : Int32) (KN : Int32) (KS : Int32) (kr : Nat → Int32) (ku : Nat → Int32) (kl : Nat → Int32) (kd : Nat → Int32) (ks : Nat → Int32) (ko : Nat → Int32) (km : Nat → Int32) (kc : Nat → Int32) (EI : Int32) (el : Nat → Int32) (ea : Nat → Int32) (eb : Nat → Int32) (em : Nat → Int64) (lm : Nat → Int32) (r : Nat → Int32) (u : Nat → Int32) (e : Nat → Int32) (hG : zGo self (z10 + 1)) (h : zInv z2 z5 z6 B LA cO GS gr gu gl gd EI el ea eb lm r u e) : zEnd (jf_Lw_law_b101 self B LA cO GN GS gr gu gl gd gs go gm KF KN KS kr ku kl kd ks ko km kc EI el ea eb em lm r u e z2 z5 z6 z10 z11 z12 1 4) := by
  unfold jf_Lw_law_b101
  rw [if_neg (show ¬ (4 : Int32) = 0 by decide), if_neg (show ¬ (4 : Int32) = 1 by decide), if_neg (show ¬ (4 : Int32) = 2 by decide), if_neg (show ¬ (4 : Int32) = 3 by decide), if_pos (show (4 : Int32) = 4 from rfl)]
  obtain ⟨hB, hL, hS, hE⟩ := h
  have hE0 := hE
  obtain ⟨n, hn, hEI, he, hp, hk⟩ := hE0
  subst hEI
  rw [z_t18, if_pos z_j18, he]
  by_cases c : n = 6
  · rw [if_pos (show nI n = 6 from congrArg nI c)]
    exact z_check _ _ _ _ _ _ _ _ _ _ _ _ _ _ _ _ _ _ _ _ _ _ _ _ _ _ _ _ _ _ _ _ _ _ _ _ _ _ hG ⟨hB, hL, hS, hE⟩
  · obtain ⟨a, ha, ea1⟩ := z_low50 z12
    have hz : (1 : Int32) + nI a = nI (1 + a) := by rw [show (1 : Int32) = nI 1 from rfl, nI_add]
    rw [if_neg (show ¬ nI n = (6 : Int32) from fun h => c ((nI_eq (b := 6) (by omega) (by decide)).1 h)), if_pos z_j18, ea1]
    simp only [Option.bind]
    rw [hz, nI_clamp (show n < 2 ^ 31 by omega), if_pos (j19 (by omega)), if_pos z_j18, if_pos z_j18]
    have u1 : upd e n (nI (1 + a)) 18 = nI n := by rw [upd_ne _ _ (show 18 ≠ n by omega)]; exact he
    have t6 : (6 : Int32) + nI n = nI (6 + n) := by rw [show (6 : Int32) = nI 6 from rfl, nI_add]
    have t12 : (12 : Int32) + nI n = nI (12 + n) := by rw [show (12 : Int32) = nI 12 from rfl, nI_add]
    rw [u1, t6, if_pos (j19 (by omega)), nI_clamp (show 6 + n < 2 ^ 31 by omega), if_pos z_j18, if_pos z_j18]
    have u2 : upd (upd e n (nI (1 + a))) (6 + n) (nI n) 18 = nI n := by rw [upd_ne _ _ (show 18 ≠ 6 + n by omega)]; exact u1
    rw [u2, t12, if_pos (j19 (by omega)), nI_clamp (show 12 + n < 2 ^ 31 by omega), if_pos z_j18]
    have u3 : upd (upd (upd e n (nI (1 + a))) (6 + n) (nI n)) (12 + n) (nI n) 18 = nI n := by rw [upd_ne _ _ (show 18 ≠ 12 + n by omega)]; exact u2
    have u4 : upd (upd (upd e n (nI (1 + a))) (6 + n) (nI n)) (12 + n) (nI n) n = nI (1 + a) := by rw [upd_ne _ _ (show n ≠ 12 + n by omega), upd_ne _ _ (show n ≠ 6 + n by omega), upd_at]
    rw [u3, if_pos (j19 (by omega)), nI_clamp (show n < 2 ^ 31 by omega), u4, z_interval el ea eb (show n < 6 by omega) (by omega) (by omega)]
    simp only []
    rw [if_pos z_j18, if_pos trivial]
    unfold jf_Lw_law_b431
    rw [if_pos z_j18, if_pos z_j18, z_t18, u3, nI_1]
    refine z_check _ _ _ _ _ _ _ _ _ _ _ _ _ _ _ _ _ _ _ _ _ _ _ _ _ _ _ _ _ _ _ _ _ _ _ _ _ _ hG ⟨hB, hL, hS, zE_grow hE (by omega) (by omega) (by omega) (upd_at _ _ _) ?_ ?_ ?_ (fun k hk2 => ⟨?_, ?_, ?_⟩)⟩
    · rw [upd_ne _ _ (show n ≠ 18 by omega)]; exact u4
    · rw [upd_ne _ _ (show 6 + n ≠ 18 by omega), upd_ne _ _ (show 6 + n ≠ 12 + n by omega), upd_at]
    · rw [upd_ne _ _ (show 12 + n ≠ 18 by omega), upd_at]
    · rw [upd_ne _ _ (show k ≠ 18 by omega), upd_ne _ _ (show k ≠ 12 + n by omega), upd_ne _ _ (show k ≠ 6 + n by omega), upd_ne _ _ (show k ≠ n by omega)]
    · rw [upd_ne _ _ (show 6 + k ≠ 18 by omega), upd_ne _ _ (show 6 + k ≠ 12 + n by omega), upd_ne _ _ (show 6 + k ≠ 6 + n by omega), upd_ne _ _ (show 6 + k ≠ n by omega)]
    · rw [upd_ne _ _ (show 12 + k ≠ 18 by omega), upd_ne _ _ (show 12 + k ≠ 12 + n by omega), upd_ne _ _ (show 12 + k ≠ 6 + n by omega), upd_ne _ _ (show 12 + k ≠ n by omega)]
theorem z_c5 {self : zF} (z2 : Int64) (z5 z6 z10 z11 z12 : Int32) (B : Int64) (LA : Int32) (cO : Nat → Int32) (GN : Int32) (GS : Int32) (gr : Nat → Int32) (gu : Nat → Int32) (gl : Nat → Int32) (gd : Nat → Int32) (gs : Nat → Int32) (go : Nat → Int32) (gm : Nat → Int32) (KF : Int32) (KN : Int32) (KS : Int32) (kr : Nat → Int32) (ku : Nat → Int32) (kl : Nat → Int32) (kd : Nat → Int32) (ks : Nat → Int32) (ko : Nat → Int32) (km : Nat → Int32) (kc : Nat → Int32) (EI : Int32) (el : Nat → Int32) (ea : Nat → Int32) (eb : Nat → Int32) (em : Nat → Int64) (lm : Nat → Int32) (r : Nat → Int32) (u : Nat → Int32) (e : Nat → Int32) (hG : zGo self (z10 + 1)) (h : zInv z2 z5 z6 B LA cO GS gr gu gl gd EI el ea eb lm r u e) : zEnd (jf_Lw_law_b101 self B LA cO GN GS gr gu gl gd gs go gm KF KN KS kr ku kl kd ks ko km kc EI el ea eb em lm r u e z2 z5 z6 z10 z11 z12 1 5) := by
  unfold jf_Lw_law_b101
  rw [if_neg (show ¬ (5 : Int32) = 0 by decide), if_neg (show ¬ (5 : Int32) = 1 by decide), if_neg (show ¬ (5 : Int32) = 2 by decide), if_neg (show ¬ (5 : Int32) = 3 by decide), if_neg (show ¬ (5 : Int32) = 4 by decide), if_pos (show (5 : Int32) = 5 from rfl)]
  obtain ⟨hB, hL, hS, hE⟩ := h
  have hE0 := hE
  obtain ⟨n, hn, hEI, he, hp, hk⟩ := hE0
  subst hEI
  rw [z_t18, if_pos z_j18, he]
  by_cases c : n = 0
  · rw [if_pos (show nI n = 0 from congrArg nI c)]
    exact z_check _ _ _ _ _ _ _ _ _ _ _ _ _ _ _ _ _ _ _ _ _ _ _ _ _ _ _ _ _ _ _ _ _ _ _ _ _ _ hG ⟨hB, hL, hS, hE⟩
  · obtain ⟨a, ha, ea1⟩ := l_low z12 (show 0 < n by omega) (by omega)
    obtain ⟨d, hd, ed1⟩ := l_low (z12 >>> (5 &&& 31)) (show 0 < n by omega) (by omega)
    have ta : (12 : Int32) + nI a = nI (12 + a) := by rw [show (12 : Int32) = nI 12 from rfl, nI_add]
    have td : (12 : Int32) + nI d = nI (12 + d) := by rw [show (12 : Int32) = nI 12 from rfl, nI_add]
    have ja : jin (nI (12 + a)) 19 = true := j19 (by omega)
    have jd : jin (nI (12 + d)) 19 = true := j19 (by omega)
    obtain ⟨hE2, hE3⟩ := z_swapped hE hn ha hd
    rw [if_neg (nI_ne0 (by omega) (by omega)), if_pos z_j18, ea1]
    simp only [Option.bind]
    rw [if_pos z_j18, ed1]
    simp only []
    rw [ta, td, if_pos ja]
    simp only [jlet]
    rw [if_pos jd, if_pos ja, if_pos jd, z_swap eb hn ha hd]
    simp only []
    rw [if_pos ja, nI_clamp (show 12 + a < 2 ^ 31 by omega), nI_clamp (show 12 + d < 2 ^ 31 by omega), if_pos hE3.symm]
    unfold jf_Lw_law_b542
    exact z_check _ _ _ _ _ _ _ _ _ _ _ _ _ _ _ _ _ _ _ _ _ _ _ _ _ _ _ _ _ _ _ _ _ _ _ _ _ _ hG ⟨hB, hL, hS, hE2⟩
theorem z_c6 {self : zF} (z2 : Int64) (z5 z6 z10 z11 z12 : Int32) (B : Int64) (LA : Int32) (cO : Nat → Int32) (GN : Int32) (GS : Int32) (gr : Nat → Int32) (gu : Nat → Int32) (gl : Nat → Int32) (gd : Nat → Int32) (gs : Nat → Int32) (go : Nat → Int32) (gm : Nat → Int32) (KF : Int32) (KN : Int32) (KS : Int32) (kr : Nat → Int32) (ku : Nat → Int32) (kl : Nat → Int32) (kd : Nat → Int32) (ks : Nat → Int32) (ko : Nat → Int32) (km : Nat → Int32) (kc : Nat → Int32) (EI : Int32) (el : Nat → Int32) (ea : Nat → Int32) (eb : Nat → Int32) (em : Nat → Int64) (lm : Nat → Int32) (r : Nat → Int32) (u : Nat → Int32) (e : Nat → Int32) (hG : zGo self (z10 + 1)) (h : zInv z2 z5 z6 B LA cO GS gr gu gl gd EI el ea eb lm r u e) : zEnd (jf_Lw_law_b101 self B LA cO GN GS gr gu gl gd gs go gm KF KN KS kr ku kl kd ks ko km kc EI el ea eb em lm r u e z2 z5 z6 z10 z11 z12 1 6) := by
  unfold jf_Lw_law_b101
  rw [if_neg (show ¬ (6 : Int32) = 0 by decide), if_neg (show ¬ (6 : Int32) = 1 by decide), if_neg (show ¬ (6 : Int32) = 2 by decide), if_neg (show ¬ (6 : Int32) = 3 by decide), if_neg (show ¬ (6 : Int32) = 4 by decide), if_neg (show ¬ (6 : Int32) = 5 by decide), if_pos (show (6 : Int32) = 6 from rfl)]
  obtain ⟨hB, hL, hS, hE⟩ := h
  obtain ⟨el', ea', eb', e', r1, r2⟩ := z_inds z2 z5 z6 z10 z11 z12 3 6 0 el ea eb e (by omega) (by omega) hE
  rw [show jf_Lw_law_L550 EI z2 z5 z6 z10 z11 z12 6 1 0 el ea eb e = some (1, el', ea', eb', e') from r1]
  simp only [Option.bind]
  exact z_check _ _ _ _ _ _ _ _ _ _ _ _ _ _ _ _ _ _ _ _ _ _ _ _ _ _ _ _ _ _ _ _ _ _ _ _ _ _ hG ⟨hB, hL, hS, r2⟩
theorem z_c7 {self : zF} (z2 : Int64) (z5 z6 z10 z11 z12 : Int32) (B : Int64) (LA : Int32) (cO : Nat → Int32) (GN : Int32) (GS : Int32) (gr : Nat → Int32) (gu : Nat → Int32) (gl : Nat → Int32) (gd : Nat → Int32) (gs : Nat → Int32) (go : Nat → Int32) (gm : Nat → Int32) (KF : Int32) (KN : Int32) (KS : Int32) (kr : Nat → Int32) (ku : Nat → Int32) (kl : Nat → Int32) (kd : Nat → Int32) (ks : Nat → Int32) (ko : Nat → Int32) (km : Nat → Int32) (kc : Nat → Int32) (EI : Int32) (el : Nat → Int32) (ea : Nat → Int32) (eb : Nat → Int32) (em : Nat → Int64) (lm : Nat → Int32) (r : Nat → Int32) (u : Nat → Int32) (e : Nat → Int32) (hG : zGo self (z10 + 1)) (h : zInv z2 z5 z6 B LA cO GS gr gu gl gd EI el ea eb lm r u e) : zEnd (jf_Lw_law_b101 self B LA cO GN GS gr gu gl gd gs go gm KF KN KS kr ku kl kd ks ko km kc EI el ea eb em lm r u e z2 z5 z6 z10 z11 z12 1 7) := by
  unfold jf_Lw_law_b101
  rw [if_neg (show ¬ (7 : Int32) = 0 by decide), if_neg (show ¬ (7 : Int32) = 1 by decide), if_neg (show ¬ (7 : Int32) = 2 by decide), if_neg (show ¬ (7 : Int32) = 3 by decide), if_neg (show ¬ (7 : Int32) = 4 by decide), if_neg (show ¬ (7 : Int32) = 5 by decide), if_neg (show ¬ (7 : Int32) = 6 by decide), if_pos (show (7 : Int32) = 7 from rfl)]
  obtain ⟨hB, hL, hS, hE⟩ := h
  obtain ⟨el', ea', eb', e', r1, r2⟩ := z_inds z2 z5 z6 z10 z11 z12 3 6 0 el ea eb e (by omega) (by omega) hE
  rw [show jf_Lw_law_L550 EI z2 z5 z6 z10 z11 z12 6 1 0 el ea eb e = some (1, el', ea', eb', e') from r1]
  simp only [Option.bind]
  exact z_check _ _ _ _ _ _ _ _ _ _ _ _ _ _ _ _ _ _ _ _ _ _ _ _ _ _ _ _ _ _ _ _ _ _ _ _ _ _ hG ⟨hB, hL, hS, r2⟩
