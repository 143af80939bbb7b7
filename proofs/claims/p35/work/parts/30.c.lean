/-! p35: a shot is as the class says -/
theorem qA_0 (s : Nat) (a c : Int32) : qA s a c 0 = qX s := rfl
theorem qA_1 (s : Nat) (a c : Int32) : qA s a c 1 = qY s := rfl
theorem qA_2 (s : Nat) (a c : Int32) : qA s a c 2 = qU s := rfl
theorem qA_3 (s : Nat) (a c : Int32) : qA s a c 3 = qV s := rfl
theorem qA_4 (s : Nat) (a c : Int32) : qA s a c 4 = a := rfl
theorem qA_5 (s : Nat) (a c : Int32) : qA s a c 5 = c := rfl
theorem q_b262 {self : Int64 → (Nat → Int32) → Option ((Nat → Int32) ⊕ ((Nat → Int32) ⊕ (Int64 × (Nat → Int32))))} {b : Int64} {t : Nat} (ht : t < 512) (a c z1 : Int32) (z3 : Int64) (z5 z6 z7 z8 : Int32) (z10 : Int64) (z12 : Int32) : jf_Lw_isShot_b262 self b (qA t a c) z1 z3 z5 z6 z7 z8 z10 z12 = if nI t = z1 then some (.inr (.inr (z10, qA t a c))) else self z10 (qA t a c) := by
  unfold jf_Lw_isShot_b262
  rw [q_at ht]
  rfl
theorem q_b178 {self : Int64 → (Nat → Int32) → Option ((Nat → Int32) ⊕ ((Nat → Int32) ⊕ (Int64 × (Nat → Int32))))} (b : Int64) {s p k : Nat} (h : rF (jbit b) s) (hp : jPer (rA (jbit b)) s p) (h5 : p ≤ 512) (hk : k < p) (z10 : Int64) (z12 : Int32) : jf_Lw_isShot_b178 self b (qA (jit (rA (jbit b)) k s) (nI (rH (jbit b) s k)) (nI k)) (nI s) b (nI (s % 8)) (nI (s / 8 % 8)) (nI (s / 64 % 4)) (sV s) z10 z12 = if nI (jit (rA (jbit b)) (k + 1) s) = nI s then some (.inr (.inr (z10, qA (jit (rA (jbit b)) (k + 1) s) (nI (rH (jbit b) s (k + 1))) (nI (k + 1))))) else self z10 (qA (jit (rA (jbit b)) (k + 1) s) (nI (rH (jbit b) s (k + 1))) (nI (k + 1))) := by
  have hFk := rA_it h k
  have hFn := rA_it h (k + 1)
  have hle := rH_le (jbit b) s k
  unfold jf_Lw_isShot_b178
  rw [q_goes b hFk.1]
  simp only [Option.bind]
  have en : rA (jbit b) (jit (rA (jbit b)) k s) = jit (rA (jbit b)) (k + 1) s := rfl
  rw [en, nI_1 k]
  cases g : rHit (jbit b) (jit (rA (jbit b)) k s) with
  | false =>
    have e1 : rH (jbit b) s (k + 1) = rH (jbit b) s k := by show rH (jbit b) s k + (if rHit (jbit b) (jit (rA (jbit b)) k s) then 1 else 0) = _; rw [g]; rfl
    rw [if_pos (show (if false = true then (1 : Int32) else 0) = 0 by decide), if_neg (show ¬ false = true by decide), e1, q_b262 hFn.1]
  | true =>
    have e1 : rH (jbit b) s (k + 1) = rH (jbit b) s k + 1 := by show rH (jbit b) s k + (if rHit (jbit b) (jit (rA (jbit b)) k s) then 1 else 0) = _; rw [g]; rfl
    rw [if_neg (show ¬ (if true = true then (1 : Int32) else 0) = 0 by decide), if_pos (show true = true from rfl), if_pos j6_4, t_4, qA_4, nI_1, ← e1]
    by_cases c3 : (3 : Int32) < nI (rH (jbit b) s (k + 1))
    · rw [if_pos c3, q_b262 hFn.1]
    · rw [if_neg c3]
      have es : jit (rA (jbit b)) (k + 1) s = rStay (jit (rA (jbit b)) k s) := by show rA _ _ = _; rw [rA, g]; rfl
      have hsd : jit (rA (jbit b)) (k + 1) s / 64 % 4 = rGoal (jit (rA (jbit b)) k s) := by rw [es]; exact (rstay_side _ hFk.1).1
      have hb235 : jf_Lw_isShot_b235 self b (qA (jit (rA (jbit b)) (k + 1) s) (nI (rH (jbit b) s (k + 1))) (nI (k + 1))) (nI s) b (nI (s % 8)) (nI (s / 8 % 8)) (nI (s / 64 % 4)) (sV s) z10 z12 (nI (jit (rA (jbit b)) (k + 1) s / 64 % 4)) = if nI (jit (rA (jbit b)) (k + 1) s) = nI s then some (.inr (.inr (z10, qA (jit (rA (jbit b)) (k + 1) s) (nI (rH (jbit b) s (k + 1))) (nI (k + 1))))) else self z10 (qA (jit (rA (jbit b)) (k + 1) s) (nI (rH (jbit b) s (k + 1))) (nI (k + 1))) := by
        unfold jf_Lw_isShot_b235
        rw [if_pos j6_4, t_4, qA_4, e1, nI_pred, c_bounce b h hp h5 hk g]
        simp only [Option.bind]
        rw [hsd, if_pos rfl, ← e1, q_b262 hFn.1]
      rcases q_side0 _ hFn.1 with ⟨k1, k2⟩ | ⟨k1, k2⟩
      · rw [if_pos j6_0, t_0, qA_0, if_pos (of_decide_eq_true k1), if_pos j6_2, t_2, qA_2]
        by_cases c4 : qU (jit (rA (jbit b)) (k + 1) s) ≤ 0
        · rw [if_pos c4] at k2 ⊢; rw [k2]; exact hb235
        · rw [if_neg c4] at k2 ⊢; rw [k2]; exact hb235
      · rw [if_pos j6_0, t_0, qA_0, if_neg (of_decide_eq_false k1), if_pos j6_3, t_3, qA_3]
        by_cases c4 : qV (jit (rA (jbit b)) (k + 1) s) ≤ 0
        · rw [if_pos c4] at k2 ⊢; rw [k2]; exact hb235
        · rw [if_neg c4] at k2 ⊢; rw [k2]; exact hb235
theorem q_loop (b : Int64) {s p a : Nat} (h : rF (jbit b) s) (hp : jPer (rA (jbit b)) s p) (h5 : p ≤ 512) (ha : a < 97) : ∀ j k m z, k + j + 1 = p → j < m → (∀ c, c < 64 → jbit z c = rV (jbit b) s k c) → ∃ z', jf_Lw_isShot_L129 b (nI s) b (nI (s % 8)) (nI (s / 8 % 8)) (nI (s / 64 % 4)) (sV s) (nI a) m z (qA (jit (rA (jbit b)) k s) (nI (rH (jbit b) s k)) (nI k)) = some (.inr (.inr (z', qA s (nI (rH (jbit b) s p)) (nI p)))) ∧ ∀ c, c < 64 → jbit z' c = rV (jbit b) s p c := by
  intro j
  induction j with
  | zero =>
    intro k m z e hm hz
    obtain ⟨q, rfl⟩ : ∃ q, m = q + 1 := ⟨m - 1, by omega⟩
    have hFk := rA_it h k
    refine ⟨z ||| jlshl 1 (nI (jit (rA (jbit b)) k s % 64)), ?_, fun c hc => ?_⟩
    · rw [jf_Lw_isShot_L129, q_at hFk.1]
      simp only [Option.bind, jlet]
      rw [(q_parts0 _ hFk.1).2.2.2.2, if_pos j6_5, t_5, qA_5]
      have e178 := q_b178 (self := jf_Lw_isShot_L129 b (nI s) b (nI (s % 8)) (nI (s / 8 % 8)) (nI (s / 64 % 4)) (sV s) (nI a) q) b h hp h5 (k := k) (by omega) (z ||| jlshl 1 (nI (jit (rA (jbit b)) k s % 64))) (nI a)
      rw [show k + 1 = p by omega, hp.2.1, if_pos rfl] at e178
      by_cases ca : nI k = nI a
      · have ka : k = a := nI_inj (by omega) (by omega) ca
        rw [if_pos ca, c_state b h hp h5 (by omega), ← ka, Nat.mod_eq_of_lt (by omega : k < p)]
        simp only []
        first | rw [if_pos rfl, ka] | rw [if_pos trivial, ka]
        rw [ka] at e178
        exact e178
      · rw [if_neg ca]; exact e178
    · rw [jbit_or _ (by omega) hc, hz c hc, ← e]
      rfl
  | succ j ih =>
    intro k m z e hm hz
    obtain ⟨q, rfl⟩ : ∃ q, m = q + 1 := ⟨m - 1, by omega⟩
    have hFk := rA_it h k
    obtain ⟨z', i1, i2⟩ := ih (k + 1) q (z ||| jlshl 1 (nI (jit (rA (jbit b)) k s % 64))) (by omega) (by omega) (fun c hc => by rw [jbit_or _ (by omega) hc, hz c hc]; rfl)
    refine ⟨z', ?_, i2⟩
    rw [jf_Lw_isShot_L129, q_at hFk.1]
    simp only [Option.bind, jlet]
    rw [(q_parts0 _ hFk.1).2.2.2.2, if_pos j6_5, t_5, qA_5]
    have e178 := q_b178 (self := jf_Lw_isShot_L129 b (nI s) b (nI (s % 8)) (nI (s / 8 % 8)) (nI (s / 64 % 4)) (sV s) (nI a) q) b h hp h5 (k := k) (by omega) (z ||| jlshl 1 (nI (jit (rA (jbit b)) k s % 64))) (nI a)
    have hne : ¬ nI (jit (rA (jbit b)) (k + 1) s) = nI s := fun z => hp.2.2 (k + 1) (by omega) (by omega) (nI_inj (by have := (rA_it h (k + 1)).1; omega) (by have := h.1; omega) z)
    rw [if_neg hne, i1] at e178
    by_cases ca : nI k = nI a
    · have ka : k = a := nI_inj (by omega) (by omega) ca
      rw [if_pos ca, c_state b h hp h5 (by omega), ← ka, Nat.mod_eq_of_lt (by omega : k < p)]
      simp only []
      first | rw [if_pos rfl, ka] | rw [if_pos trivial, ka]
      rw [ka] at e178
      exact e178
    · rw [if_neg ca]; exact e178
theorem q_count (z : Int64) (z1 z5 z6 z7 z8 : Int32) : ∀ j k m, k + j = 64 → j < m → jf_Lw_isShot_L277 z1 z5 z6 z7 z8 z m (nI (jcnt k (jbit z))) (nI k) = some (nI (jcnt 64 (jbit z))) := by
  intro j
  induction j with
  | zero =>
    intro k m e hm
    obtain ⟨q, rfl⟩ : ∃ q, m = q + 1 := ⟨m - 1, by omega⟩
    have : k = 64 := by omega
    subst this
    rw [jf_Lw_isShot_L277, if_pos (le_64 (b := 64) (by decide) (by decide))]
  | succ j ih =>
    intro k m e hm
    obtain ⟨q, rfl⟩ : ∃ q, m = q + 1 := ⟨m - 1, by omega⟩
    rw [jf_Lw_isShot_L277, if_neg (ge_64 (by omega)), l_bit z (by omega)]
    simp only [jlet]
    have e1 : jcnt (k + 1) (jbit z) = jcnt k (jbit z) + (if jbit z k then 1 else 0) := rfl
    rw [show nI (jcnt k (jbit z)) + ((if jbit z k then (1 : Int64) else 0).toInt32) = nI (jcnt (k + 1) (jbit z)) by
      rw [e1]; cases jbit z k <;> simp <;> rw [show (1 : Int32) = nI 1 from rfl, nI_add], nI_1]
    exact ih (k + 1) q (by omega) (by omega)
theorem q_shot (b : Int64) {s n : Nat} (hs : s < 512) (hn : n < 65536) : jf_Lw_isShot b (nI s) (nI n) b = some 1 := by
  obtain ⟨p1, p2, p3, p4, -⟩ := q_parts0 s hs
  have hb : jf_Lw_isShot b (nI s) (nI n) b = jf_Lw_isShot_b34 b (nI s) (nI n) b (nI (s % 8)) (nI (s / 8 % 8)) (nI (s / 64 % 4)) (sV s) := by
    unfold jf_Lw_isShot
    simp only [jlet]
    rw [p1, p2, p3]
    unfold sV
    by_cases c : s < 256
    · rw [if_pos (p4.2 c), if_pos c]
    · rw [if_neg (fun z => c (p4.1 z)), if_neg c]
  rw [hb]
  unfold jf_Lw_isShot_b34
  rw [l_floor b (by omega) (by omega), c_cut hs]
  cases e : jbit b (s % 64) with
  | true =>
    have c1 := c_shot b (x := s % 8) (y := s / 8 % 8) (d := s / 64 % 4) (n := 0) (M := 0) (by omega) (by omega) (by omega) (Int32.le_refl 0) (Int32.le_refl 0)
    have c2 := c_shot b (x := s % 8) (y := s / 8 % 8) (d := s / 64 % 4) (n := nI n) (M := 2147483647) (by omega) (by omega) (by omega) (nI_pos' (by omega)) (nI_le (b := 2147483647) (by omega) (by decide))
    rw [c_cut hs, e, if_pos rfl] at c1 c2
    rw [if_pos rfl, if_pos rfl]
    have h1 : jf_Lw_period b (nI (s % 8)) (nI (s / 8 % 8)) (nI (s / 64 % 4)) (sV s) = some (-7300) := by unfold jf_Lw_period jf_Bi_period; rw [c1]; rfl
    have h2 : jf_Lw_touched b (nI (s % 8)) (nI (s / 8 % 8)) (nI (s / 64 % 4)) (sV s) = some (-7300) := by unfold jf_Lw_touched jf_Bi_touched; rw [c1]; rfl
    have h3 : jf_Lw_state b (nI (s % 8)) (nI (s / 8 % 8)) (nI (s / 64 % 4)) (sV s) (nI n) = some (-7300) := by unfold jf_Lw_state jf_Bi_state; rw [c2]; rfl
    rw [h1]
    simp only [Option.bind, if_true]
    rw [h2]
    simp only [if_true]
    rw [h3]
    rfl
  | false =>
    have h : rF (jbit b) s := ⟨hs, e⟩
    obtain ⟨p, hp, h5⟩ := rA_per (jbit b) h
    have hp1 := hp.1
    have hl97 : n % 97 < 97 := Nat.mod_lt _ (by decide)
    rw [if_neg (by decide), q_begin hs]
    simp only [Option.bind, jlet]
    rw [show (97 : Int32) = nI 97 from rfl, pk_rem (by omega) (by omega) (by omega)]
    obtain ⟨z, e1, e2⟩ := q_loop b h hp h5 hl97 (p - 1) 0 520 0 (by omega) (by omega) (fun c hc => (jbit_0 c hc).trans rfl)
    have e1' : jf_Lw_isShot_L129 b (nI s) b (nI (s % 8)) (nI (s / 8 % 8)) (nI (s / 64 % 4)) (sV s) (nI (n % 97)) 520 0 (qA s 0 0) = some (.inr (.inr (z, qA s (nI (rH (jbit b) s p)) (nI p)))) := e1
    rw [e1']
    simp only [jsum]
    have e3 := q_count z (nI s) (nI (s % 8)) (nI (s / 8 % 8)) (nI (s / 64 % 4)) (sV s) 64 0 jF (by omega) (jF_gt (by omega))
    rw [show jf_Lw_isShot_L277 (nI s) (nI (s % 8)) (nI (s / 8 % 8)) (nI (s / 64 % 4)) (sV s) z jF 0 0 = some (nI (jcnt 64 (jbit z))) from e3, jcnt_eq e2]
    simp only []
    rw [c_period b h hp h5]
    simp only []
    rw [if_pos j6_5, t_5, qA_5, if_pos rfl, c_periodAnew b h hp h5]
    simp only []
    rw [if_pos j6_5, if_pos trivial, c_bounces b h hp h5]
    simp only []
    rw [if_pos j6_4, t_4, qA_4, if_pos rfl, c_touched b h hp h5]
    simp only []
    first | rw [if_pos rfl, if_pos j6_5, show (1000 : Int32) = nI 1000 from rfl, nI_mul, c_state b h hp h5 (by omega), show 1000 * p % p = 0 from Nat.mul_mod_left 1000 p] | rw [if_pos trivial, if_pos j6_5, show (1000 : Int32) = nI 1000 from rfl, nI_mul, c_state b h hp h5 (by omega), show 1000 * p % p = 0 from Nat.mul_mod_left 1000 p]
    exact if_pos (show nI (jit (rA (jbit b)) 0 s) = nI s from rfl)
