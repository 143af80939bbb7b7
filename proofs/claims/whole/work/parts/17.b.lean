theorem jq_1 : jall 65 (fun f => jall 171 (fun b => b == 0 || jqok (jq (8 * f) b))) = true := by decide +kernel
theorem jq_2 : jall 65 (fun f => jall 171 (fun b => jqok (jq (8 * f) (171 + b)))) = true := by decide +kernel
theorem jq_3 : jall 65 (fun f => jall 171 (fun b => jqok (jq (8 * f) (342 + b)))) = true := by decide +kernel
theorem jq_4 : jall 65 (fun f => jall 65 (fun b => b == 0 || jqok (jq f b))) = true := by decide +kernel
theorem jqok_8 {f p : Nat} (hf : f ≤ 64) (h0 : 0 < p) (h5 : p ≤ 512) : jqok (jq (8 * f) p) = true := by
  by_cases c1 : p < 171
  · have := jall_at (jall_at jq_1 f (by omega)) p c1
    rw [beq_eq_false_iff_ne.2 (show p ≠ 0 by omega), Bool.false_or] at this
    exact this
  · by_cases c2 : p < 342
    · have := jall_at (jall_at jq_2 f (by omega)) (p - 171) (by omega)
      rwa [show 171 + (p - 171) = p by omega] at this
    · have := jall_at (jall_at jq_3 f (by omega)) (p - 342) (by omega)
      rwa [show 342 + (p - 342) = p by omega] at this
theorem jqok_s {f p : Nat} (hf : f ≤ 64) (h0 : 0 < p) (h5 : p ≤ 64) : jqok (jq f p) = true := by
  have := jall_at (jall_at jq_4 f (by omega)) p (by omega)
  rw [beq_eq_false_iff_ne.2 (show p ≠ 0 by omega), Bool.false_or] at this
  exact this
theorem jdn_0 : jdn FP.fconst0 = true := by decide +kernel
theorem js_mean : jS_mean := by
  intro b met _ _ _ _ _ _ _ _ _ _ _ th v _ _ _ isB seen _ _ _ _ _ _ _ hI
  obtain ⟨p, bits', arr', v', hp, e1, e2⟩ := r_paths (jI_bl hI) met th v seen
  have hfl := rc_floors b
  have hmf := rm_floors (jI_bl hI)
  have hc : jcnt 64 (fun k => !jbit b k) ≤ 64 := jcnt_le 64 _
  generalize jcnt 64 (fun k => !jbit b k) = f at *
  have h8 : (8 : Int32) * nI f = nI (8 * f) := by rw [show (8 : Int32) = nI 8 from rfl, pk_mul]
  unfold jf_Bi_mean jf_Mo_mean jf_Ro_statesInAll
  rw [e1, e2, hfl, h8]
  simp only [Option.bind]
  by_cases c : p = 0
  · subst c
    rw [if_pos (show nI 0 ≤ 0 by decide), if_pos (show nI 0 = 0 from rfl)]
    exact ⟨_, rfl, _, rfl, rfl, hI, jdn_0⟩
  · have hq := jqok_8 hc (by omega) hp
    unfold jqok jq at hq
    rw [Bool.and_eq_true] at hq
    rw [if_neg (nI_nle (by omega) (by omega)), if_neg (nI_ne0 (by omega) (by omega)), hmf]
    simp only []
    rw [h8, if_pos hq.1, if_pos hq.1]
    exact ⟨_, rfl, _, rfl, rfl, hI, hq.2⟩
