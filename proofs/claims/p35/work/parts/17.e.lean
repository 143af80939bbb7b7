theorem js_sees : jS_sees := by
  intro b _ _ _ _ _ _ _ _ _ _ _ th _ _ _ isB _ _ _ _ _ _ _ x1 x2 x3 x4 hI
  have hB := jI_bl hI
  unfold jf_Bi_sees jf_Mo_sees jf_Bi_checkCell jf_Mo_sees_b22 jf_Mo_sees_b23
  rcases jcell8 (x := x1) (y := x2) with ⟨x, y, hx, hy, rfl, rfl, e1, e2⟩ | ⟨e1, e2⟩
  · rcases jcell8 (x := x3) (y := x4) with ⟨ox, oy, hox, hoy, rfl, rfl, e3, e4⟩ | ⟨e3, e4⟩
    · obtain ⟨g, g1, g2, -⟩ := l_sight hB hx hy hox hoy
      rw [e1, e2, e3, e4, g2]
      cases g with
      | true =>
        refine ⟨(1, 0), rfl, Or.inl ⟨1, ?_, rfl, rfl, hI⟩⟩
        show Option.bind (jf_La_isFreeBetween b (nI x) (nI y) (nI ox) (nI oy)) _ = _
        rw [g1]; rfl
      | false =>
        refine ⟨(0, 0), rfl, Or.inl ⟨0, ?_, rfl, rfl, hI⟩⟩
        show Option.bind (jf_La_isFreeBetween b (nI x) (nI y) (nI ox) (nI oy)) _ = _
        rw [g1]; rfl
    · rw [e1, e2, e3, e4]
      exact ⟨(0, 1), rfl, Or.inr ⟨rfl, rfl, hI⟩⟩
  · rw [e1, e2]
    exact ⟨(0, 1), rfl, Or.inr ⟨rfl, rfl, hI⟩⟩
theorem lm_done {n : Nat} {isB lx ly : Nat → Int32} (z1 z2 : Int32) (hn : n ≤ 6) : ∀ j k m, k + j = n → j < m → jf_Mo_lit_L20 (nI n) isB lx ly z1 z2 m 1 (nI k) = some 1 := by
  intro j
  induction j with
  | zero =>
    intro k m e hm
    obtain ⟨q, rfl⟩ : ∃ q, m = q + 1 := ⟨m - 1, by omega⟩
    rw [jf_Mo_lit_L20, if_pos (nI_le (by omega) (by omega))]
  | succ j ih =>
    intro k m e hm
    obtain ⟨q, rfl⟩ : ∃ q, m = q + 1 := ⟨m - 1, by omega⟩
    rw [jf_Mo_lit_L20, if_neg (nI_ge (by omega) (by omega)), if_neg (show ¬ (1 : Int32) = 0 by decide)]
    unfold jf_Mo_lit_b62 jf_Mo_lit_b67
    rw [nI_1]
    exact ih (k + 1) q (by omega) (by omega)
theorem l_lit1 {b : Int64} {isB cellOf lx ly : Nat → Int32} {n c : Nat} (hB : jBl isB (jbit b)) (hn : n ≤ 6) (hl : ∀ k, k < n → ∃ x y : Nat, x < 8 ∧ y < 8 ∧ cellOf k = nI (x + 8 * y) ∧ lx k = nI x ∧ ly k = nI y) (hc : c < 64) (z1 : Int32) : ∀ j k m m2, k + j = n → j < m → j < m2 → ∃ g : Bool, jf_La_isLit_L3 (nI n) cellOf b (nI (c % 8)) (nI (c / 8)) m (nI k) = some (if g then .inl () else .inr ()) ∧ jf_Mo_lit_L20 (nI n) isB lx ly z1 (nI c) m2 0 (nI k) = some (if g then 1 else 0) := by
  intro j
  induction j with
  | zero =>
    intro k m m2 e hm hm2
    obtain ⟨q, rfl⟩ : ∃ q, m = q + 1 := ⟨m - 1, by omega⟩
    obtain ⟨q2, rfl⟩ : ∃ q, m2 = q + 1 := ⟨m2 - 1, by omega⟩
    refine ⟨false, ?_, ?_⟩
    · rw [jf_La_isLit_L3, if_pos (nI_le (by omega) (by omega))]; rfl
    · rw [jf_Mo_lit_L20, if_pos (nI_le (by omega) (by omega))]; rfl
  | succ j ih =>
    intro k m m2 e hm hm2
    obtain ⟨q, rfl⟩ : ∃ q, m = q + 1 := ⟨m - 1, by omega⟩
    obtain ⟨q2, rfl⟩ : ∃ q, m2 = q + 1 := ⟨m2 - 1, by omega⟩
    obtain ⟨x, y, hx, hy, l1, l2, l3⟩ := hl k (by omega)
    have hj : jin (nI k) 6 = true := jin_nI (by omega) (by decide)
    obtain ⟨g0, s1, s2, -⟩ := l_sight hB (x := c % 8) (y := c / 8) (ox := x) (oy := y) (by omega) (by omega) hx hy
    rw [jf_La_isLit_L3, jf_Mo_lit_L20, if_neg (nI_ge (by omega) (by omega)), if_neg (nI_ge (by omega) (by omega)), if_pos rfl, if_pos hj, if_pos hj, nI_clamp (by omega), jat_nI cellOf (by omega) (by decide), l1, l2, l3, show (8 : Int32) = nI 8 from rfl, pk_rem (by omega) (by omega) (by omega), pk_div (by omega) (by omega) (by omega), s2]
    simp only [jlet]
    rw [pk_rem (by omega) (by omega) (by omega), pk_div (by omega) (by omega) (by omega), show (x + 8 * y) % 8 = x by omega, show (x + 8 * y) / 8 = y by omega, s1]
    simp only [Option.bind]
    unfold jf_Mo_lit_b62 jf_Mo_lit_b67
    rw [nI_1]
    cases g0 with
    | true =>
      refine ⟨true, rfl, ?_⟩
      rw [if_neg (by decide), lm_done z1 (nI c) hn j (k + 1) q2 (by omega) (by omega)]
      rfl
    | false =>
      rw [if_pos (by decide), if_pos (by decide)]
      exact ih (k + 1) q q2 (by omega) (by omega) (by omega)
theorem l_litN {b : Int64} {isB cellOf lx ly : Nat → Int32} {n : Nat} (hB : jBl isB (jbit b)) (hn : n ≤ 6) (hl : ∀ k, k < n → ∃ x y : Nat, x < 8 ∧ y < 8 ∧ cellOf k = nI (x + 8 * y) ∧ lx k = nI x ∧ ly k = nI y) : ∀ j k m m2 c, k + j = 64 → c ≤ k → j < m → j < m2 → ∃ p, p ≤ 64 ∧ jf_La_cellsLit_L4 (nI n) cellOf b m (nI c) (nI k) = some (nI p) ∧ jf_Mo_lit_L9 (nI n) isB lx ly m2 (nI c) (nI k) = some (nI p) := by
  intro j
  induction j with
  | zero =>
    intro k m m2 c e hc hm hm2
    obtain ⟨q, rfl⟩ : ∃ q, m = q + 1 := ⟨m - 1, by omega⟩
    obtain ⟨q2, rfl⟩ : ∃ q, m2 = q + 1 := ⟨m2 - 1, by omega⟩
    have : k = 64 := by omega
    subst this
    exact ⟨c, hc, by rw [jf_La_cellsLit_L4, if_pos (show (64 : Int32) ≤ nI 64 by decide)], by rw [jf_Mo_lit_L9, if_pos (show (64 : Int32) ≤ nI 64 by decide)]⟩
  | succ j ih =>
    intro k m m2 c e hc hm hm2
    obtain ⟨q, rfl⟩ : ∃ q, m = q + 1 := ⟨m - 1, by omega⟩
    obtain ⟨q2, rfl⟩ : ∃ q, m2 = q + 1 := ⟨m2 - 1, by omega⟩
    have hk : k < 64 := by omega
    obtain ⟨g, g1, g2⟩ := l_lit1 hB hn hl hk (nI c) n 0 jF jF (by omega) (jF_gt (by omega)) (jF_gt (by omega))
    rw [jf_La_cellsLit_L4, jf_Mo_lit_L9, if_neg (show ¬ (64 : Int32) ≤ nI k from nI_ge (b := 64) hk (by decide)), if_neg (show ¬ (64 : Int32) ≤ nI k from nI_ge (b := 64) hk (by decide)), show (8 : Int32) = nI 8 from rfl, pk_rem (by omega) (by omega) (by omega), pk_div (by omega) (by omega) (by omega)]
    unfold jf_La_isLit jf_La_cellsLit_b29 jf_Mo_lit_b84
    rw [show (0 : Int32) = nI 0 from rfl] at *
    rw [show (nI 0 : Int32) = 0 from rfl] at g2
    have g3 : jf_Mo_lit_L20 (nI n) isB lx ly (nI c) (nI k) jF (nI 0) (nI 0) = some (if g then 1 else 0) := g2
    rw [g1, g3]
    cases g with
    | true =>
      show ∃ p, p ≤ 64 ∧ jf_La_cellsLit_L4 (nI n) cellOf b q (nI c + 1) (nI k + 1) = some (nI p) ∧ jf_Mo_lit_L9 (nI n) isB lx ly q2 (nI c + 1) (nI k + 1) = some (nI p)
      rw [nI_1, nI_1]
      exact ih (k + 1) q q2 (c + 1) (by omega) (by omega) (by omega) (by omega)
    | false =>
      show ∃ p, p ≤ 64 ∧ jf_La_cellsLit_L4 (nI n) cellOf b q (nI c) (nI k + 1) = some (nI p) ∧ jf_Mo_lit_L9 (nI n) isB lx ly q2 (nI c + 0) (nI k + 1) = some (nI p)
      rw [nI_1, Int32.add_zero]
      exact ih (k + 1) q q2 c (by omega) (by omega) (by omega) (by omega)
theorem l_lit {b : Int64} {isB cellOf lx ly : Nat → Int32} {lamps ml : Int32} (hB : jBl isB (jbit b)) (hl : jIl lamps cellOf ml lx ly) (th : Int32) : ∃ p, p ≤ 64 ∧ jf_La_cellsLit lamps cellOf b = some (nI p) ∧ jf_Mo_lit th ml isB lx ly = some (nI p, 0) := by
  obtain ⟨n, hn, rfl, rfl, hk⟩ := hl
  obtain ⟨p, hp, e1, e2⟩ := l_litN hB hn hk 64 0 jF jF 0 (by omega) (by omega) (jF_gt (by omega)) (jF_gt (by omega))
  refine ⟨p, hp, ?_, ?_⟩
  · unfold jf_La_cellsLit
    show Option.bind (jf_La_cellsLit_L4 (nI n) cellOf b jF (nI 0) (nI 0)) _ = _
    rw [e1]; rfl
  · unfold jf_Mo_lit
    show Option.bind (jf_Mo_lit_L9 (nI n) isB lx ly jF (nI 0) (nI 0)) _ = _
    rw [e2]; rfl
theorem js_lit : jS_lit := by
  intro b _ _ _ _ _ _ _ _ _ _ _ th _ _ _ isB _ _ _ _ _ _ _ hI
  obtain ⟨p, -, e1, e2⟩ := l_lit (jI_bl hI) hI.2.1 th
  unfold jf_Bi_lit
  rw [e1, e2]
  exact ⟨_, rfl, _, rfl, rfl, hI⟩
theorem js_share : jS_share := by
  intro b _ _ _ _ _ _ _ _ _ _ _ th _ _ _ isB _ _ _ _ _ _ _ hI
  obtain ⟨p, hp, e1, e2⟩ := l_lit (jI_bl hI) hI.2.1 th
  have hfl := rc_floors b
  have hmf := rm_floors (jI_bl hI)
  have hc : jcnt 64 (fun k => !jbit b k) ≤ 64 := jcnt_le 64 _
  generalize jcnt 64 (fun k => !jbit b k) = f at *
  unfold jf_Bi_share jf_Mo_share
  rw [e1, e2, hfl, hmf]
  simp only [Option.bind, jlet]
  by_cases c : f = 0
  · subst c
    rw [if_pos (show nI 0 ≤ 0 by decide), if_pos (show nI 0 = 0 from rfl)]
    exact ⟨_, rfl, _, rfl, rfl, hI, jdn_0⟩
  · have hq := jqok_s hp (by omega) hc
    unfold jqok jq at hq
    rw [Bool.and_eq_true] at hq
    rw [if_neg (nI_nle (by omega) (by omega)), if_neg (nI_ne0 (by omega) (by omega)), if_pos hq.1, if_pos hq.1]
    exact ⟨_, rfl, _, rfl, rfl, hI, hq.2⟩
