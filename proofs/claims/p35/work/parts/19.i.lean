theorem m_pow {n : Nat} (hn : n ≤ 5) : ∀ j k m, k + j = n → j < m → jf_Mo_codeNow_L4 (nI n) m (nI (n ^ k)) (nI k) = some (nI (n ^ n)) := by
  intro j
  induction j with
  | zero =>
    intro k m e hm
    obtain ⟨q, rfl⟩ : ∃ q, m = q + 1 := ⟨m - 1, by omega⟩
    have : k = n := by omega
    subst this
    rw [jf_Mo_codeNow_L4, if_pos (nI_le (Nat.le_refl k) (by omega))]
  | succ j ih =>
    intro k m e hm
    obtain ⟨q, rfl⟩ : ∃ q, m = q + 1 := ⟨m - 1, by omega⟩
    rw [jf_Mo_codeNow_L4, if_neg (nI_ge (by omega) (by omega))]
    simp only [jlet]
    rw [pk_mul, nI_1, ← Nat.pow_succ]
    exact ih (k + 1) q (by omega) (by omega)
theorem pow_nn {n : Nat} (hn : n ≤ 5) : n ^ n ≤ 3125 := by
  have h1 : n ^ n ≤ 5 ^ n := Nat.pow_le_pow_left hn n
  have h2 : 5 ^ n ≤ 5 ^ 5 := Nat.pow_le_pow_right (by decide) hn
  have h3 : 5 ^ 5 = 3125 := by decide
  omega
theorem sP_same {n : Nat} {σ τ σ' τ' : Nat → Nat} (h : sP n σ τ) (h' : sP n σ' τ') (e : ∀ k, k < n → σ k = σ' k) : ∀ k, k < n → τ k = τ' k := fun k hk => by
  have a := h k hk
  have b := h' k hk
  apply sP_inj h a.2.1 b.2.1
  rw [a.2.2.1, e _ b.2.1, b.2.2.1]
theorem m_codes {n : Nat} {right up : Nat → Int32} {r s u w : Nat → Nat} (h1 : 1 ≤ n) (hn : n ≤ 5) (hr : sP n r s) (hu : sP n u w) (fr : sR n right r) (fu : sR n up u) : ∀ j k m v f, k + j = n ^ n → j < m → v ≤ 2147483647 → (∀ σ τ x, sP n σ τ → x < k → (∀ i, i < n → σ i = dn n x i) → v ≤ cEnc n (fun i => σ (r (τ i))) (fun i => σ (u (τ i)))) → (v = 2147483647 ∨ ∃ σ τ, sP n σ τ ∧ v = cEnc n (fun i => σ (r (τ i))) (fun i => σ (u (τ i)))) → ∃ v' f', jf_Mo_codeNow_L30 (nI n) right up (nI (n ^ n)) m (nI v) (nI k) f = some (nI v', f') ∧ v' ≤ 2147483647 ∧ (∀ σ τ x, sP n σ τ → x < n ^ n → (∀ i, i < n → σ i = dn n x i) → v' ≤ cEnc n (fun i => σ (r (τ i))) (fun i => σ (u (τ i)))) ∧ (v' = 2147483647 ∨ ∃ σ τ, sP n σ τ ∧ v' = cEnc n (fun i => σ (r (τ i))) (fun i => σ (u (τ i)))) := by
  have hnn := pow_nn hn
  intro j
  induction j with
  | zero =>
    intro k m v f e hm hv hl ha
    obtain ⟨q, rfl⟩ : ∃ q, m = q + 1 := ⟨m - 1, by omega⟩
    have : k = n ^ n := by omega
    subst this
    exact ⟨v, f, by rw [jf_Mo_codeNow_L30, if_pos (nI_le (Nat.le_refl _) (by omega))], hv, hl, ha⟩
  | succ j ih =>
    intro k m v f e hm hv hl ha
    obtain ⟨q, rfl⟩ : ∃ q, m = q + 1 := ⟨m - 1, by omega⟩
    have hk : k < n ^ n := by omega
    obtain ⟨b, f', e1, e2, e3⟩ := m_names (x := k) h1 hn (by omega) n 0 jF true f (by omega) (jF_gt (by omega)) (fun i hi => absurd hi (Nat.not_lt_zero _)) ⟨fun _ i k' _ h => absurd h (Nat.not_lt_zero _), fun _ => rfl⟩
    rw [Nat.pow_zero, Nat.div_one] at e1
    have e4 : jf_Mo_names (nI n) f (nI k) = some ((if b then 1 else 0) &&& 1, f') := by
      unfold jf_Mo_names
      have e5 : jf_Mo_names_L7 (nI n) jF (nI k) 1 0 f = some (if b then 1 else 0, f') := e1
      rw [e5]; rfl
    rw [jf_Mo_codeNow_L30, if_neg (nI_ge hk (by omega)), e4]
    unfold jf_Mo_codeNow_b55
    simp only [Option.bind]
    rw [nI_1 k]
    cases b with
    | false =>
      rw [if_pos (by decide)]
      refine ih (k + 1) q v f' (by omega) (by omega) hv (fun σ τ x hs hx hd => ?_) ha
      by_cases c : x = k
      · subst c
        have hno : ¬ ∀ i k', i < k' → k' < n → dn n x i ≠ dn n x k' := fun h => by have := e3.2 h; cases this
        refine absurd (fun i k' h2 h3 h4 => ?_) hno
        rw [← hd i (by omega), ← hd k' h3] at h4
        have := sP_inj hs (by omega) h3 h4
        omega
      · exact hl σ τ x hs (by omega) hd
    | true =>
      rw [if_neg (by decide)]
      obtain ⟨τ0, h0⟩ := inj_perm (n := n) (σ := dn n k) (fun i _ => Nat.mod_lt _ (by omega)) (e3.1 rfl)
      have e6 := m_number hn h0 e2 hr hu fr fu
      rw [e6]
      simp only []
      have henc : ∀ σ τ, sP n σ τ → (∀ i, i < n → σ i = dn n k i) → cEnc n (fun i => σ (r (τ i))) (fun i => σ (u (τ i))) = cEnc n (fun i => dn n k (r (τ0 i))) (fun i => dn n k (u (τ0 i))) := fun σ τ hs hd => by
        have ht := sP_same hs h0 hd
        exact cEnc_eq (fun i hi => by rw [hd _ (hr _ (hs i hi).2.1).1, ht i hi]) (fun i hi => by rw [hd _ (hu _ (hs i hi).2.1).1, ht i hi])
      have hN : cEnc n (fun i => dn n k (r (τ0 i))) (fun i => dn n k (u (τ0 i))) < 25 ^ n := cEnc_lt hn (fun i hi => (h0 _ (hr _ (h0 i hi).2.1).1).1) (fun i hi => (h0 _ (hu _ (h0 i hi).2.1).1).1)
      have hN2 := f_pow5 hn hN
      have hat : ∃ σ τ, sP n σ τ ∧ cEnc n (fun i => dn n k (r (τ0 i))) (fun i => dn n k (u (τ0 i))) = cEnc n (fun i => σ (r (τ i))) (fun i => σ (u (τ i))) := ⟨_, _, h0, rfl⟩
      generalize cEnc n (fun i => dn n k (r (τ0 i))) (fun i => dn n k (u (τ0 i))) = N at *
      unfold jf_Mo_least
      by_cases c : N ≤ v
      · rw [if_pos (nI_le c (by omega))]
        refine ih (k + 1) q N f' (by omega) (by omega) (by omega) (fun σ τ x hs hx hd => ?_) (Or.inr hat)
        by_cases c2 : x = k
        · subst c2
          rw [henc σ τ hs hd]; exact Nat.le_refl N
        · exact Nat.le_trans c (hl σ τ x hs (by omega) hd)
      · rw [if_neg (nI_ge (by omega) (by omega))]
        refine ih (k + 1) q v f' (by omega) (by omega) hv (fun σ τ x hs hx hd => ?_) ha
        by_cases c2 : x = k
        · subst c2
          rw [henc σ τ hs hd]; omega
        · exact hl σ τ x hs (by omega) hd
theorem m_code {n : Nat} {right up : Nat → Int32} {r s u w : Nat → Nat} (h1 : 1 ≤ n) (hn : n ≤ 5) (hr : sP n r s) (hu : sP n u w) (fr : sR n right r) (fu : sR n up u) (f : Nat → Int32) : ∃ v f', jf_Mo_codeNow (nI n) right up f = some (nI v, f') ∧ cBest n r u v := by
  have hnn := pow_nn hn
  obtain ⟨v, f', e1, e2, e3, e4⟩ := m_codes h1 hn hr hu fr fu (n ^ n) 0 jF 2147483647 f (by omega) (jF_gt (by omega)) (Nat.le_refl _) (fun σ τ x _ h => absurd h (Nat.not_lt_zero _)) (Or.inl rfl)
  have low : ∀ σ τ, sP n σ τ → v ≤ cEnc n (fun i => σ (r (τ i))) (fun i => σ (u (τ i))) := fun σ τ hs =>
    e3 σ τ (bPk n n σ) hs (bPk_lt n (fun k hk => (hs k hk).1)) (fun i hi => (bPk_dn n (fun k hk => (hs k hk).1) i hi).symm)
  refine ⟨v, f', ?_, ?_, low⟩
  · unfold jf_Mo_codeNow
    have p := m_pow hn n 0 jF (by omega) (jF_gt (by omega))
    rw [Nat.pow_zero] at p
    show Option.bind (jf_Mo_codeNow_L4 (nI n) jF (nI 1) (nI 0)) _ = _
    rw [p]
    show Option.bind (jf_Mo_codeNow_L30 (nI n) right up (nI (n ^ n)) jF (nI 2147483647) (nI 0) f) _ = _
    rw [e1]; rfl
  · rcases e4 with e4 | e4
    · have a := low _ _ (sP_id n)
      have b : cEnc n (fun i => r i) (fun i => u i) < 25 ^ n := cEnc_lt hn (fun k hk => (hr k hk).1) (fun k hk => (hu k hk).1)
      have c := f_pow5 hn b
      have a' : v ≤ cEnc n (fun i => r i) (fun i => u i) := a
      omega
    · exact e4
/-- both codes are one -/
theorem s_code {n : Nat} {P A : List (Nat × Nat)} {Hm Om wd L T p : Nat} (hT : TabOk n P A Hm Om wd L T p) {right up mr mu : Nat → Int32} {r s u w : Nat → Nat} (h1 : 1 ≤ n) (hn : n ≤ 5) (hr : sP n r s) (hu : sP n u w) (fr : sR n right r) (fu : sR n up u) (gr : sR n mr r) (gu : sR n mu u) (num : Int32) (order number f : Nat → Int32) : ∃ v x order' number' f', jf_Su_leastCode num (nI n) right up order number = some (nI v, x, order', number') ∧ jf_Mo_codeNow (nI n) mr mu f = some (nI v, f') ∧ cBest n r u v ∧ cIn wd L T p v = true := by
  obtain ⟨v, x, o, nu, e1, e2, e3⟩ := c_code hT hn hr hu fr fu num order number
  obtain ⟨v', f', e4, e5⟩ := m_code h1 hn hr hu gr gu f
  rw [cBest_un e5 e2] at e4
  exact ⟨v, x, o, nu, f', e1, e4, e2, e3⟩
theorem js_code : jS_code := by
  intro b _ _ num sq right up left down order number _ _ _ _ th _ msq _ isB _ _ mr mu name _ _ _ hI
  have hI0 := hI
  obtain ⟨j1, j2, ⟨n, n1, n5, rfl, rfl, hpr, hpu, hk⟩, j4⟩ := hI0
  obtain ⟨r, s, hr, fr, fl⟩ := jPm_sP hpr
  obtain ⟨u, w, hu, fu, fd⟩ := jPm_sP hpu
  obtain ⟨P, A, Hm, Om, wd, L, T, p, hT⟩ := tab_n n1 n5
  obtain ⟨v, x, o, nu, f', e1, e2, -, -⟩ := s_code hT n1 n5 hr hu fr fu (sR_eq fr (fun k h => (hk k h).1)) (sR_eq fu (fun k h => (hk k h).2)) num order number name
  unfold jf_Bi_code jf_Mo_code
  rw [e1, e2]
  exact ⟨_, rfl, _, rfl, rfl, hI⟩
theorem js_shear : jS_shear := by
  intro b _ _ num sq right up left down spare order number _ _ _ _ th _ msq _ isB _ _ mr mu name part _ _ _ hI
  obtain ⟨j1, j2, ⟨n, n1, n5, rfl, rfl, hpr, hpu, hk⟩, j4⟩ := hI
  obtain ⟨r, s, hr, fr, fl⟩ := jPm_sP hpr
  obtain ⟨u, w, hu, fu, fd⟩ := jPm_sP hpu
  have gr : sR n mr r := sR_eq fr (fun k h => (hk k h).1)
  have gu : sR n mu u := sR_eq fu (fun k h => (hk k h).2)
  obtain ⟨P, A, Hm, Om, wd, L, T, p, hT⟩ := tab_n n1 n5
  obtain ⟨up', left', down', spare', a1, a2, a3, a4⟩ := s_shear n5 hr hu fr fu left down spare
  obtain ⟨mup', part', b1, b2⟩ := m_shear n5 hr hu gr gu part
  obtain ⟨v, x, o, nu, f', e1, e2, -, -⟩ := s_code hT n1 n5 hr (sP_comp hr hu) fr a2 gr b2 num order number name
  unfold jf_Bi_shear jf_Mo_shear
  rw [a1, b1]
  simp only [Option.bind]
  rw [e1, e2]
  exact ⟨_, rfl, _, rfl, rfl, j1, j2, ⟨n, n1, n5, rfl, rfl, sP_jPm hr fr a3, sP_jPm (sP_comp hr hu) a2 a4, fun k h => ⟨(hk k h).1, (b2 k h).trans (a2 k h).symm⟩⟩, j4⟩
theorem js_turn : jS_turn := by
  intro b _ _ num sq right up left down spare order number _ _ _ _ th _ msq _ isB _ _ mr mu name part _ _ _ hI
  obtain ⟨j1, j2, ⟨n, n1, n5, rfl, rfl, hpr, hpu, hk⟩, j4⟩ := hI
  obtain ⟨r, s, hr, fr, fl⟩ := jPm_sP hpr
  obtain ⟨u, w, hu, fu, fd⟩ := jPm_sP hpu
  have gr : sR n mr r := sR_eq fr (fun k h => (hk k h).1)
  have gu : sR n mu u := sR_eq fu (fun k h => (hk k h).2)
  obtain ⟨P, A, Hm, Om, wd, L, T, p, hT⟩ := tab_n n1 n5
  obtain ⟨right', up', left', down', spare', a1, a2, a3, a4, a5⟩ := s_turn n5 hr hu fu fl down spare (right := right)
  obtain ⟨mr', mup', part', b1, b2, b3⟩ := m_turn n5 hr gr gu part
  obtain ⟨v, x, o, nu, f', e1, e2, -, -⟩ := s_code hT n1 n5 hu (sP_inv hr) a2 a3 b2 b3 num order number name
  unfold jf_Bi_turn jf_Mo_turn
  rw [a1, b1]
  simp only [Option.bind]
  rw [e1, e2]
  exact ⟨_, rfl, _, rfl, rfl, j1, j2, ⟨n, n1, n5, rfl, rfl, sP_jPm hu a2 a4, sP_jPm (sP_inv hr) a3 a5, fun k h => ⟨(b2 k h).trans (a2 k h).symm, (b3 k h).trans (a3 k h).symm⟩⟩, j4⟩
