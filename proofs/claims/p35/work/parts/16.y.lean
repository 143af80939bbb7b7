/-! cycles -/
theorem x_meet {n N : Nat} {len above below ml ma mb : Nat → Int32} {F : Nat → Nat} (hN : N ≤ 300) (hF : ∀ t, t < N → F t < N ∧ jf_Ex_imageOf (nI n) len above below (nI t) = some (nI (F t)) ∧ jf_Mo_goes_above_below ma mb ml (nI t) = some (nI (F t))) (z1 z2 z3 : Int32) : ∀ w M t i m m2 bits arr, jFree N M = w → t < N → i + w ≤ 300 → w < m → w < m2 → jMk bits M → jMm N arr M → ∃ M' bits' arr', jf_Ex_meetCycleOf_L4 (nI n) len above below m (nI t) (nI i) bits = some bits' ∧ jf_Mo_cycles_L59 ma mb ml z1 z2 z3 m2 (nI t) arr = some arr' ∧ jMk bits' M' ∧ jMm N arr' M' := by
  intro w
  induction w with
  | zero =>
    intro M t i m m2 bits arr hw ht hi hm hm2 hb ha
    obtain ⟨q, rfl⟩ : ∃ q, m = q + 1 := ⟨m - 1, by omega⟩
    obtain ⟨q2, rfl⟩ : ∃ q, m2 = q + 1 := ⟨m2 - 1, by omega⟩
    have hM : M t = true := by
      cases c : M t with
      | true => rfl
      | false => have := jFree_pos ht c; omega
    refine ⟨M, bits, arr, ?_, ?_, hb, ha⟩
    · rw [jf_Ex_meetCycleOf_L4, jhas_at hb (by omega), hM]
      split <;> rfl
    · rw [jf_Mo_cycles_L59, if_pos (jin_nI (n := 300) (by omega) (by decide)), nI_clamp (by omega), ha t ht, hM, if_neg (by decide)]
  | succ w ih =>
    intro M t i m m2 bits arr hw ht hi hm hm2 hb ha
    obtain ⟨q, rfl⟩ : ∃ q, m = q + 1 := ⟨m - 1, by omega⟩
    obtain ⟨q2, rfl⟩ : ∃ q, m2 = q + 1 := ⟨m2 - 1, by omega⟩
    cases c : M t with
    | true =>
      refine ⟨M, bits, arr, ?_, ?_, hb, ha⟩
      · rw [jf_Ex_meetCycleOf_L4, jhas_at hb (by omega), c]
        split <;> rfl
      · rw [jf_Mo_cycles_L59, if_pos (jin_nI (n := 300) (by omega) (by decide)), nI_clamp (by omega), ha t ht, c, if_neg (by decide)]
    | false =>
      have hs := jFree_set ht c
      obtain ⟨M', bits', arr', i1, i2, i3, i4⟩ := ih (fun j => M j || (j == t)) (F t) (i + 1) q q2 (jadd bits (nI t)) (upd arr t 1) (by omega) (hF t ht).1 (by omega) (by omega) (by omega) (jadd_at hb (by omega)) (jMm_set ha)
      refine ⟨M', bits', arr', ?_, ?_, i3, i4⟩
      · rw [jf_Ex_meetCycleOf_L4, if_neg (nge300 (by omega)), jhas_at hb (by omega), c, if_pos (by decide)]
        simp only [jlet]
        rw [(hF t ht).2.1, nI_1]
        exact i1
      · rw [jf_Mo_cycles_L59, if_pos (jin_nI (n := 300) (by omega) (by decide)), nI_clamp (by omega), ha t ht, c, if_pos (by decide), if_pos (jin_nI (n := 300) (by omega) (by decide)), (hF t ht).2.2]
        exact i2
theorem x_all {n N : Nat} {len above below ml ma mb : Nat → Int32} {F : Nat → Nat} (hN : N ≤ 300) (hF : ∀ t, t < N → F t < N ∧ jf_Ex_imageOf (nI n) len above below (nI t) = some (nI (F t)) ∧ jf_Mo_goes_above_below ma mb ml (nI t) = some (nI (F t))) : ∀ j k m m2 c M bits arr, k + j = N → j < m → j < m2 → jMk bits M → jMm N arr M → ∃ v bits' arr', jf_Ex_cyclesInAll_L16 (nI n) len above below (nI N) m c (nI k) bits = some (v, bits') ∧ jf_Mo_cycles_L34 ma mb ml (nI N) m2 c (nI k) arr = some (v, arr') := by
  intro j
  induction j with
  | zero =>
    intro k m m2 c M bits arr e hm hm2 hb ha
    obtain ⟨q, rfl⟩ : ∃ q, m = q + 1 := ⟨m - 1, by omega⟩
    obtain ⟨q2, rfl⟩ : ∃ q, m2 = q + 1 := ⟨m2 - 1, by omega⟩
    have : k = N := by omega
    subst this
    exact ⟨c, bits, arr, by rw [jf_Ex_cyclesInAll_L16, if_pos (nI_le (Nat.le_refl k) (by omega))], by rw [jf_Mo_cycles_L34, if_pos (nI_le (Nat.le_refl k) (by omega))]⟩
  | succ j ih =>
    intro k m m2 c M bits arr e hm hm2 hb ha
    obtain ⟨q, rfl⟩ : ∃ q, m = q + 1 := ⟨m - 1, by omega⟩
    obtain ⟨q2, rfl⟩ : ∃ q, m2 = q + 1 := ⟨m2 - 1, by omega⟩
    have hk : k < N := by omega
    have hfr : jFree N M ≤ N := jcnt_le N _
    rw [jf_Ex_cyclesInAll_L16, jf_Mo_cycles_L34, if_neg (nI_ge hk (by omega)), if_neg (nI_ge hk (by omega)), if_pos (jin_nI (n := 300) (by omega) (by decide)), nI_clamp (by omega), jhas_at hb (by omega), ha k hk]
    unfold jf_Ex_cyclesInAll_b40 jf_Mo_cycles_b54 jf_Ex_meetCycleOf
    simp only [jlet]
    cases cM : M k with
    | true =>
      rw [if_neg (by decide), if_neg (by decide)]
      obtain ⟨M', bits', arr', -, i2, -, -⟩ := x_meet hN hF (nI N) (c + 0) (nI k) (jFree N M) M k 0 jF jF bits arr rfl hk (by omega) (jF_gt (by omega)) (jF_gt (by omega)) hb ha
      have e2 : jf_Mo_cycles_L59 ma mb ml (nI N) (c + 0) (nI k) jF (nI k) arr = some arr := by
        have hj : jF = (jF - 1) + 1 := by have := jF_gt (n := 1) (by omega); omega
        rw [hj, jf_Mo_cycles_L59, if_pos (jin_nI (n := 300) (by omega) (by decide)), nI_clamp (by omega), ha k hk, cM, if_neg (by decide)]
      rw [e2]
      simp only [Option.bind]
      rw [Int32.add_zero, nI_1]
      exact ih (k + 1) q q2 c M bits arr (by omega) (by omega) (by omega) hb ha
    | false =>
      rw [if_pos (by decide), if_pos (by decide)]
      obtain ⟨M', bits', arr', i1, i2, i3, i4⟩ := x_meet hN hF (nI N) (c + 1) (nI k) (jFree N M) M k 0 jF jF bits arr rfl hk (by omega) (jF_gt (by omega)) (jF_gt (by omega)) hb ha
      rw [show (0 : Int32) = nI 0 from rfl, i1, i2]
      simp only [Option.bind]
      rw [nI_1]
      exact ih (k + 1) q q2 (c + 1) M' bits' arr' (by omega) (by omega) (by omega) i3 i4
theorem x_forget {N : Nat} (hN : N ≤ 300) (z2 : Int32) : ∀ j m k f, k + j = N → j < m → (∀ i, i < k → f i = 0) → ∃ f', jf_Mo_cycles_L14 (nI N) z2 m (nI k) f = some f' ∧ ∀ i, i < N → f' i = 0 := by
  intro j
  induction j with
  | zero =>
    intro m k f e hm hf
    obtain ⟨q, rfl⟩ : ∃ q, m = q + 1 := ⟨m - 1, by omega⟩
    have : k = N := by omega
    subst this
    exact ⟨f, by rw [jf_Mo_cycles_L14, if_pos (nI_le (Nat.le_refl k) (by omega))], hf⟩
  | succ j ih =>
    intro m k f e hm hf
    obtain ⟨q, rfl⟩ : ∃ q, m = q + 1 := ⟨m - 1, by omega⟩
    rw [jf_Mo_cycles_L14, if_neg (nI_ge (by omega) (by omega)), if_pos (jin_nI (n := 300) (by omega) (by decide)), nI_1, nI_clamp (by omega)]
    refine ih q (k + 1) _ (by omega) (by omega) (fun i hi => ?_)
    unfold upd
    split
    · rfl
    · exact hf i (by omega)
theorem js_cycles : jS_cycles := by
  intro b _ _ _ _ _ _ _ ints len above below met th _ _ mints _ _ _ _ _ ma mb ml isMet hI
  have hI0 := hI
  obtain ⟨-, -, -, n, hn, rfl, rfl, ⟨ia, ib, hpa, hpb⟩, hk⟩ := hI0
  have hl : ∀ k, k < n → len k = nI (len k).toNatClampNeg := fun k hkn => by
    obtain ⟨z, z1, z2, z3⟩ := (hk k hkn).2.2.2
    rw [z3, nI_clamp (by omega)]
  have h50 : ∀ k, k < n → (len k).toNatClampNeg ≤ 50 := fun k hkn => by
    obtain ⟨z, z1, z2, z3⟩ := (hk k hkn).2.2.2
    rw [z3, nI_clamp (by omega)]; exact z2
  have hl2 : ∀ k, k < n → ml k = nI (len k).toNatClampNeg := fun k hkn => by rw [(hk k hkn).2.2.1]; exact hl k hkn
  obtain ⟨F, G, hF⟩ := xgo_F (L := fun k => (len k).toNatClampNeg) hn hpa hpb hl h50 (fun k hkn => ⟨(hk k hkn).1, (hk k hkn).2.1, (hk k hkn).2.2.1⟩)
  have hs : xS (fun k => (len k).toNatClampNeg) n ≤ 50 * n := xS_le h50 n (Nat.le_refl n)
  unfold jf_Bi_cycles jf_Mo_cycles jf_Ex_cyclesInAll
  rw [xc_points (L := fun k => (len k).toNatClampNeg) hn hl, xm_sum (L := fun k => (len k).toNatClampNeg) hn hl2]
  simp only [Option.bind, jlet]
  generalize xS (fun k => (len k).toNatClampNeg) n = N at *
  obtain ⟨f0, e0, h0⟩ := x_forget (N := N) (by omega) 0 N jF 0 isMet (by omega) (jF_gt (by omega)) (fun i hi => absurd hi (Nat.not_lt_zero _))
  obtain ⟨v, bits', arr', e1, e2⟩ := x_all (N := N) (by omega) (fun t h => ⟨(hF t h).1, (hF t h).2.2.1, (hF t h).2.2.2⟩) N 0 jF jF 0 (fun _ => false) (jclr met) f0 (by omega) (jF_gt (by omega)) (jF_gt (by omega)) (jclr_at met) (fun k hk => by rw [h0 k hk]; rfl)
  rw [show (0 : Int32) = nI 0 from rfl] at *
  rw [e0]
  simp only []
  rw [e1, e2]
  exact ⟨_, rfl, _, rfl, rfl, hI⟩
