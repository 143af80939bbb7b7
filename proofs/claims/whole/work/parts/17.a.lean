/-! paths -/
theorem rxyc : ∀ t, t < 512 → jf_Bi_isCell (jf_Ro_xOf (nI t)) (jf_Ro_yOf (nI t)) = 1 := jall_of (by decide +kernel)
theorem rc_own (b : Int64) {t : Nat} (ht : t < 512) : jf_Ro_isBlock b (jf_Ro_xOf (nI t)) (jf_Ro_yOf (nI t)) = if jbit b (t % 64) then 1 else 0 :=
  rc_block b (rxyc t ht) (Nat.mod_lt _ (by decide)) (rxy t ht)
theorem r_meet {b : Int64} {isB : Nat → Int32} (hB : jBl isB (jbit b)) (z1 z2 : Int32) : ∀ w M t i m m2 bits arr v, jFree 512 M = w → rF (jbit b) t → i + w ≤ 512 → w < m → w < m2 → jMk bits M → jMm 512 arr M → ∃ M' bits' arr' v', jf_Ro_meetPathOf_L4 b m (nI t) (nI i) bits = some bits' ∧ jf_Mo_paths_L46 isB z1 z2 m2 (nI t) v arr = some (v', arr') ∧ jMk bits' M' ∧ jMm 512 arr' M' := by
  intro w
  induction w with
  | zero =>
    intro M t i m m2 bits arr v hw hF hi hm hm2 hb ha
    obtain ⟨q, rfl⟩ : ∃ q, m = q + 1 := ⟨m - 1, by omega⟩
    obtain ⟨q2, rfl⟩ : ∃ q, m2 = q + 1 := ⟨m2 - 1, by omega⟩
    have ht := hF.1
    have hM : M t = true := by
      cases c : M t with
      | true => rfl
      | false => have := jFree_pos ht c; omega
    refine ⟨M, bits, arr, v, ?_, ?_, hb, ha⟩
    · rw [jf_Ro_meetPathOf_L4, jhas_at hb ht, hM]
      split <;> rfl
    · rw [jf_Mo_paths_L46, if_pos (jin_nI (n := 512) ht (by decide)), nI_clamp (by omega), ha t ht, hM, if_neg (by decide)]
  | succ w ih =>
    intro M t i m m2 bits arr v hw hF hi hm hm2 hb ha
    obtain ⟨q, rfl⟩ : ∃ q, m = q + 1 := ⟨m - 1, by omega⟩
    obtain ⟨q2, rfl⟩ : ∃ q, m2 = q + 1 := ⟨m2 - 1, by omega⟩
    have ht := hF.1
    cases c : M t with
    | true =>
      refine ⟨M, bits, arr, v, ?_, ?_, hb, ha⟩
      · rw [jf_Ro_meetPathOf_L4, jhas_at hb ht, c]
        split <;> rfl
      · rw [jf_Mo_paths_L46, if_pos (jin_nI (n := 512) ht (by decide)), nI_clamp (by omega), ha t ht, c, if_neg (by decide)]
    | false =>
      have hs := jFree_set ht c
      obtain ⟨M', bits', arr', v', i1, i2, i3, i4⟩ := ih (fun j => M j || (j == t)) (rA (jbit b) t) (i + 1) q q2 (jadd bits (nI t)) (upd arr t 1) (if rHit (jbit b) t then 1 else 0) (by omega) (rA_F hF) (by omega) (by omega) (by omega) (jadd_at hb ht) (jMm_set ha)
      refine ⟨M', bits', arr', v', ?_, ?_, i3, i4⟩
      · rw [jf_Ro_meetPathOf_L4, if_neg (nge512 (by omega)), jhas_at hb ht, c, if_pos (by decide)]
        simp only [jlet]
        rw [rc_after b ht, nI_1]
        exact i1
      · rw [jf_Mo_paths_L46, if_pos (jin_nI (n := 512) ht (by decide)), nI_clamp (by omega), ha t ht, c, if_pos (by decide), if_pos (jin_nI (n := 512) ht (by decide)), rm_step v hB ht]
        exact i2
theorem r_all {b : Int64} {isB : Nat → Int32} (hB : jBl isB (jbit b)) : ∀ j k m m2 c M bits arr v, k + j = 512 → c ≤ k → j < m → j < m2 → jMk bits M → jMm 512 arr M → ∃ p bits' arr' v', p ≤ 512 ∧ jf_Ro_pathsInAll_L11 b m (nI c) (nI k) bits = some (nI p, bits') ∧ jf_Mo_paths_L13 isB m2 (nI c) (nI k) v arr = some (nI p, v', arr') := by
  intro j
  induction j with
  | zero =>
    intro k m m2 c M bits arr v e hc hm hm2 hb ha
    obtain ⟨q, rfl⟩ : ∃ q, m = q + 1 := ⟨m - 1, by omega⟩
    obtain ⟨q2, rfl⟩ : ∃ q, m2 = q + 1 := ⟨m2 - 1, by omega⟩
    have : k = 512 := by omega
    subst this
    exact ⟨c, bits, arr, v, hc, by rw [jf_Ro_pathsInAll_L11, if_pos (show (512 : Int32) ≤ nI 512 by decide)], by rw [jf_Mo_paths_L13, if_pos (show (512 : Int32) ≤ nI 512 by decide)]⟩
  | succ j ih =>
    intro k m m2 c M bits arr v e hc hm hm2 hb ha
    obtain ⟨q, rfl⟩ : ∃ q, m = q + 1 := ⟨m - 1, by omega⟩
    obtain ⟨q2, rfl⟩ : ∃ q, m2 = q + 1 := ⟨m2 - 1, by omega⟩
    have hk : k < 512 := by omega
    have hfr : jFree 512 M ≤ 512 := jcnt_le 512 _
    have hm64 : k % 64 < 64 := Nat.mod_lt _ (by decide)
    rw [jf_Ro_pathsInAll_L11, jf_Mo_paths_L13, if_neg (nge512 hk), if_neg (nge512 hk), rc_own b hk, jhas_at hb hk, show (64 : Int32) = nI 64 from rfl, pk_rem (by omega) (by omega) (by omega), if_pos (jin_nI (n := 64) hm64 (by decide)), nI_clamp (by omega), hB _ hm64, if_pos (jin_nI (n := 512) hk (by decide)), nI_clamp (by omega), ha k hk]
    unfold jf_Ro_pathsInAll_b52 jf_Mo_paths_b71 jf_Ro_meetPathOf
    cases cB : jbit b (k % 64) with
    | true =>
      rw [if_neg (show ¬ (if true = true then (1 : Int32) else 0) = 0 by decide), if_neg (show ¬ (if true = true then (1 : Int32) else 0) = 0 by decide), nI_1]
      exact ih (k + 1) q q2 c M bits arr v (by omega) (by omega) (by omega) (by omega) hb ha
    | false =>
      rw [if_pos (show (if false = true then (1 : Int32) else 0) = 0 by decide), if_pos (show (if false = true then (1 : Int32) else 0) = 0 by decide)]
      cases cM : M k with
      | true =>
        rw [if_neg (show ¬ (if true = true then (1 : Int32) else 0) = 0 by decide), if_neg (show ¬ (if true = true then (1 : Int32) else 0) = 0 by decide), nI_1]
        exact ih (k + 1) q q2 c M bits arr v (by omega) (by omega) (by omega) (by omega) hb ha
      | false =>
        rw [if_pos (show (if false = true then (1 : Int32) else 0) = 0 by decide), if_pos (show (if false = true then (1 : Int32) else 0) = 0 by decide)]
        obtain ⟨M', bits', arr', v', i1, i2, i3, i4⟩ := r_meet hB (nI c + 1) (nI k) (jFree 512 M) M k 0 jF jF bits arr v rfl ⟨hk, cB⟩ (by omega) (jF_gt (by omega)) (jF_gt (by omega)) hb ha
        rw [show (0 : Int32) = nI 0 from rfl, i1, i2]
        simp only [Option.bind]
        rw [nI_1, nI_1]
        exact ih (k + 1) q q2 (c + 1) M' bits' arr' v' (by omega) (by omega) (by omega) (by omega) i3 i4
theorem r_paths {b : Int64} {isB : Nat → Int32} (hB : jBl isB (jbit b)) (met : Nat → Int64) (th v : Int32) (seen : Nat → Int32) : ∃ p bits' arr' v', p ≤ 512 ∧ jf_Ro_pathsInAll b met = some (nI p, bits') ∧ jf_Mo_paths th v isB seen = some (nI p, 0, v', arr') := by
  obtain ⟨f0, e0, h0⟩ := rm_forget seen
  obtain ⟨p, bits', arr', v', hp, e1, e2⟩ := r_all hB 512 0 jF jF 0 (fun _ => false) (jclr met) f0 v (by omega) (by omega) (jF_gt (by omega)) (jF_gt (by omega)) (jclr_at met) (fun k hk => by rw [h0 k hk]; rfl)
  refine ⟨p, bits', arr', v', hp, ?_, ?_⟩
  · unfold jf_Ro_pathsInAll
    simp only [jlet]
    show Option.bind (jf_Ro_pathsInAll_L11 b jF (nI 0) (nI 0) (jclr met)) _ = _
    rw [e1]; rfl
  · unfold jf_Mo_paths
    rw [e0]
    show Option.bind (jf_Mo_paths_L13 isB jF (nI 0) (nI 0) v f0) _ = _
    rw [e2]; rfl
theorem js_paths : jS_paths := by
  intro b met _ _ _ _ _ _ _ _ _ _ _ th v _ _ _ isB seen _ _ _ _ _ _ _ hI
  obtain ⟨p, bits', arr', v', -, e1, e2⟩ := r_paths (jI_bl hI) met th v seen
  unfold jf_Bi_paths
  rw [e1, e2]
  exact ⟨_, rfl, _, rfl, rfl, hI⟩
/-- a quotient of small whole numbers is a number, and equal to itself -/
def jq (a b : Nat) : UInt32 := FP.fdiv (FP.i2f (nI a)) (FP.i2f (nI b))
def jqok (x : UInt32) : Bool := jnn x && jdn x
