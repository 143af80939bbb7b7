theorem rH_at {B : Nat → Bool} {s p m : Nat} (h : m < rH B s p) : ∃ t, t < p ∧ rHit B (jit (rA B) t s) = true ∧ rH B s t = m := by
  obtain ⟨k, h1, h2, h3⟩ := jleast (P := fun k => m < rH B s k) p h
  cases k with
  | zero => exact absurd h2 (Nat.not_lt_zero _)
  | succ t =>
    have h4 := h3 t (Nat.lt_succ_self t)
    rw [rH] at h2
    refine ⟨t, by omega, ?_, ?_⟩
    · cases c : rHit B (jit (rA B) t s) with
      | true => rfl
      | false => rw [c] at h2; simp at h2; omega
    · split at h2 <;> omega
theorem rc_bounceAt (b : Int64) {s t m : Nat} (h : rF (jbit b) s) (ht : t < 512) (hh : rHit (jbit b) (jit (rA (jbit b)) t s) = true) (hm : rH (jbit b) s t = m) : ∀ j n k, k + j = t → j < n → jf_Ro_sideOfBounce_L25 b n (nI (m - rH (jbit b) s k)) (nI (jit (rA (jbit b)) k s)) (nI k) = some (.inl (nI (jit (rA (jbit b)) t s))) := by
  have hm2 : m ≤ 512 := by have := rH_le (jbit b) s t; omega
  intro j
  induction j with
  | zero =>
    intro n k e hn
    obtain ⟨q, rfl⟩ : ∃ q, n = q + 1 := ⟨n - 1, by omega⟩
    have : k = t := by omega
    subst this
    rw [jf_Ro_sideOfBounce_L25, if_neg (nge512 ht), rc_bounce b (rA_it h k).1, hh, if_neg (by decide), if_pos]
    rw [hm, Nat.sub_self]; rfl
  | succ j ih =>
    intro n k e hn
    obtain ⟨q, rfl⟩ : ∃ q, n = q + 1 := ⟨n - 1, by omega⟩
    have hF := rA_it h k
    have h1 : rH (jbit b) s (k + 1) ≤ m := by have := rH_mono (jbit b) s (k := k + 1) j; rw [show k + 1 + j = t by omega] at this; omega
    have ih2 := ih q (k + 1) (by omega) (by omega)
    rw [rH] at h1 ih2
    rw [jf_Ro_sideOfBounce_L25, if_neg (nge512 (by omega)), rc_bounce b hF.1]
    unfold jf_Ro_sideOfBounce_b56
    simp only [jlet]
    rw [rc_after b hF.1, nI_1]
    cases c : rHit (jbit b) (jit (rA (jbit b)) k s) with
    | true =>
      rw [c] at h1 ih2
      simp only [if_true] at h1 ih2
      rw [if_neg (by decide), if_neg (by rw [nI0_iff (by omega)]; omega)]
      rw [show m - rH (jbit b) s k = (m - (rH (jbit b) s k + 1)) + 1 by omega, pk_m1]
      exact ih2
    | false =>
      rw [c] at h1 ih2
      rw [if_pos (by decide)]
      exact ih2
theorem rm_bounceAt {isB : Nat → Int32} {B : Nat → Bool} (hB : jBl isB B) {s t m : Nat} (h : rF B s) (ht : t < 512) (hh : rHit B (jit (rA B) t s) = true) (hm : rH B s t = m) : ∀ j n k v, k + j = t + 1 → j < n → ∃ v', jf_Mo_bounce_L43 isB n (nI (jit (rA B) k s)) (nI (m + 1 - rH B s k)) v = some (nI (jit (rA B) (t + 1) s), v') := by
  have hm2 : m ≤ 512 := by have := rH_le B s t; omega
  intro j
  induction j with
  | zero =>
    intro n k v e hn
    obtain ⟨q, rfl⟩ : ∃ q, n = q + 1 := ⟨n - 1, by omega⟩
    have : k = t + 1 := by omega
    subst this
    rw [jf_Mo_bounce_L43, if_pos]
    · exact ⟨_, rfl⟩
    · rw [rH, hh, hm]; simp; decide
  | succ j ih =>
    intro n k v e hn
    obtain ⟨q, rfl⟩ : ∃ q, n = q + 1 := ⟨n - 1, by omega⟩
    have hF := rA_it h k
    have h1 : rH B s k ≤ m := by have := rH_mono B s (k := k) j; rw [show k + j = t by omega] at this; omega
    rw [jf_Mo_bounce_L43, if_neg (nI_nle (by omega) (by omega)), rm_step v hB hF.1]
    simp only [Option.bind]
    obtain ⟨v', ih2⟩ := ih q (k + 1) (if rHit B (jit (rA B) k s) then 1 else 0) (by omega) (by omega)
    refine ⟨v', ?_⟩
    rw [← ih2]
    unfold jf_Mo_bounce_b70
    simp only [jlet]
    rw [rH]
    cases c : rHit B (jit (rA B) k s) with
    | true =>
      rw [if_neg (by decide)]
      have e3 : nI (m + 1 - rH B s k) - 1 = nI (m + 1 - (rH B s k + 1)) := by
        rw [show m + 1 - rH B s k = (m + 1 - (rH B s k + 1)) + 1 by omega, nI_pred]
      simp only [if_true]
      rw [e3]; rfl
    | false =>
      rw [if_pos (by decide)]
      have e3 : nI (m + 1 - rH B s k) - 0 = nI (m + 1 - rH B s k) := Int32.sub_zero _
      rw [e3]; rfl
theorem rstay_side : ∀ s, s < 512 → rStay s / 64 % 4 = rGoal s ∧ rStay s < 512 := jall_of (by decide +kernel)
theorem js_bounce : jS_bounce := by
  intro b _ _ _ _ _ _ _ _ _ _ _ th v _ _ _ isB _ _ _ _ _ _ _ x1 x2 x3 x4 x5 hI
  have hB := jI_bl hI
  unfold jf_Mo_bounce jf_Bi_bounce
  rcases jshot hB th x1 x2 x3 x5 100000 with ⟨x, y, d, hx, hy, hd, rfl, rfl, rfl, hf, h0, hM, e1, e2⟩ | ⟨e1, e2⟩ | ⟨e1, e2⟩ | ⟨e1, e2⟩
  · obtain ⟨n, hn, rfl⟩ := jnat31 h0
    rw [e1, e2, jst_c, jst_m]
    have hF := jst_F (B := jbit b) (d := d) x4 hx hy hd hf
    obtain ⟨p, hp, h5⟩ := rA_per (jbit b) hF
    obtain ⟨v', e3⟩ := rm_bounces hB hF hp h5 v
    generalize (x + 8 * y + 64 * d + (if x4 = 0 then 0 else 256)) = s at *
    have hh := rH_pos hF hp
    have hle := rH_le (jbit b) s p
    obtain ⟨t, ht, hht, hm⟩ := rH_at (B := jbit b) (s := s) (p := p) (m := n % rH (jbit b) s p) (Nat.mod_lt _ hh)
    have hn31 : n < 2 ^ 31 := hn
    have hmod := Nat.mod_lt n hh
    obtain ⟨v'', e4⟩ := rm_bounceAt hB hF (by omega) hht hm (t + 1) jF 0 v' (by omega) (jF_gt (by omega))
    have e5 := rc_bounceAt b hF (by omega) hht hm t jF 0 (by omega) (jF_gt (by omega))
    have hFt := rA_it hF t
    have es : jit (rA (jbit b)) (t + 1) s = rStay (jit (rA (jbit b)) t s) := by show rA _ _ = _; rw [rA, hht]; rfl
    obtain ⟨g1, g2⟩ := rstay_side _ hFt.1
    have hq : ¬ nI (rH (jbit b) s p) = 0 := nI_ne0 hh (by omega)
    refine ⟨(nI (rGoal (jit (rA (jbit b)) t s)), 0, v''), ?_, Or.inl ⟨nI (rGoal (jit (rA (jbit b)) t s)), ?_, rfl, rfl, hI⟩⟩
    · simp only [Option.bind, jlet]
      rw [if_neg (by decide), e3]
      simp only []
      rw [if_neg hq, pk_rem hn (by omega) (by omega), nI_1]
      show Option.bind (jf_Mo_bounce_L43 isB jF (nI (jit (rA (jbit b)) 0 s)) (nI (n % rH (jbit b) s p + 1 - rH (jbit b) s 0)) v') _ = _
      rw [e4, es]
      simp only [Option.bind]
      rw [show (64 : Int32) = nI 64 from rfl, show (4 : Int32) = nI 4 from rfl, pk_div (by omega) (by omega) (by omega), pk_rem (by omega) (by omega) (by omega), g1]
    · simp only [jsum]
      unfold jf_Ro_sideOfBounce jf_Ro_sideOfBounce_b17
      rw [rc_bounces b hF hp h5]
      simp only [Option.bind]
      rw [if_neg (nI_nle (by omega) (by omega)), if_neg hq, pk_rem hn (by omega) (by omega)]
      show (Option.bind (Option.bind (jf_Ro_sideOfBounce_L25 b jF (nI (n % rH (jbit b) s p - rH (jbit b) s 0)) (nI (jit (rA (jbit b)) 0 s)) (nI 0)) _) _) = _
      rw [e5]
      simp only [Option.bind, jsum]
      rw [ra_goal _ hFt.1]
  · rw [e1, e2]; exact ⟨(0, 1, v), rfl, Or.inr (Or.inl ⟨rfl, rfl, hI⟩)⟩
  · rw [e1, e2]; exact ⟨(0, 2, v), rfl, Or.inr (Or.inr (Or.inl ⟨rfl, rfl, hI⟩))⟩
  · rw [e1, e2]; exact ⟨(0, 3, v), rfl, Or.inr (Or.inr (Or.inr ⟨rfl, rfl, hI⟩))⟩
