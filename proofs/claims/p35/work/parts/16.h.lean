theorem rc_bounceAt (b : Int64) {s t m : Nat} (h : rF (jbit b) s) (ht : t < 512) (hh : rHit (jbit b) (jit (rA (jbit b)) t s) = true) (hm : rH (jbit b) s t = m) : ∀ j n k, k + j = t → j < n → jf_Ro_sideOfBounce_L25 b n (nI (m - rH (jbit b) s k)) (nI (jit (rA (jbit b)) k s)) (nI k) = some (.inl (nI (jit (rA (jbit b)) t s))) := by
  have hm2 : m ≤ 512 := by have := rH_le (jbit b) s t; omega
  intro j
  induction j with
  | zero =>
    intro n k e hn
    obtain ⟨q, rfl⟩ : ∃ q, n = q + 1 := ⟨n - 1, by omega⟩
    have : k = t := by omega
    subst this
    rw [jf_Ro_sideOfBounce_L25, if_neg (nge512 ht), rc_bounce b (rA_it h k).1, hh, if_neg (by decide), if_pos]
    rw [hm, Nat.sub_self]; rfl
  | succ j ih =>
    intro n k e hn
    obtain ⟨q, rfl⟩ : ∃ q, n = q + 1 := ⟨n - 1, by omega⟩
    have hF := rA_it h k
    have h1 : rH (jbit b) s (k + 1) ≤ m := by have := rH_mono (jbit b) s (k := k + 1) j; rw [show k + 1 + j = t by omega] at this; omega
    have ih2 := ih q (k + 1) (by omega) (by omega)
    rw [rH] at h1 ih2
    rw [jf_Ro_sideOfBounce_L25, if_neg (nge512 (by omega)), rc_bounce b hF.1]
    unfold jf_Ro_sideOfBounce_b56
    simp only [jlet]
    rw [rc_after b hF.1, nI_1]
    cases c : rHit (jbit b) (jit (rA (jbit b)) k s) with
    | true =>
      rw [c] at h1 ih2
      simp only [if_true] at h1 ih2
      rw [if_neg (by decide), if_neg (by rw [nI0_iff (by omega)]; omega)]
      rw [show m - rH (jbit b) s k = (m - (rH (jbit b) s k + 1)) + 1 by omega, pk_m1]
      exact ih2
    | false =>
      rw [c] at h1 ih2
      rw [if_pos (by decide)]
      exact ih2
theorem rstay_side : ∀ s, s < 512 → rStay s / 64 % 4 = rGoal s ∧ rStay s < 512 := jall_of (by decide +kernel)
