theorem s_shear1 {n : Nat} {right up : Nat → Int32} {r s u w : Nat → Nat} (hn : n ≤ 5) (hr : sP n r s) (hu : sP n u w) (fr : sR n right r) (fu : sR n up u) : ∀ j k m f, k + j = n → j < m → (∀ i, i < k → f i = nI (u (r i))) → ∃ f', jf_Su_shearAll_L2 (nI n) right up m (nI k) f = some f' ∧ sR n f' (fun i => u (r i)) := by
  intro j
  induction j with
  | zero =>
    intro k m f e hm h
    obtain ⟨q, rfl⟩ : ∃ q, m = q + 1 := ⟨m - 1, by omega⟩
    have : k = n := by omega
    subst this
    exact ⟨f, by rw [jf_Su_shearAll_L2, if_pos (nI_le (Nat.le_refl k) (by omega))], h⟩
  | succ j ih =>
    intro k m f e hm h
    obtain ⟨q, rfl⟩ : ∃ q, m = q + 1 := ⟨m - 1, by omega⟩
    have hk : k < n := by omega
    have a := (hr k hk).1
    rw [jf_Su_shearAll_L2, if_neg (nI_ge hk (by omega))]
    unfold jf_Su_rightOf jf_Su_upOf
    simp only [jlet]
    rw [jat_nI right (by omega) (by decide), fr k hk, jat_nI up (by omega) (by decide), fu _ a, jput_nI _ _ (by omega) (by decide), nI_1]
    refine ih (k + 1) q _ (by omega) (by omega) (fun i hi => ?_)
    by_cases c : i = k
    · subst c; exact upd_at _ _ _
    · rw [upd_ne _ _ c]; exact h i (by omega)
theorem s_shear2 {n : Nat} {spare : Nat → Int32} {v : Nat → Nat} (hn : n ≤ 5) (hv : sR n spare v) : ∀ j k m f, k + j = n → j < m → (∀ i, i < k → f i = nI (v i)) → ∃ f', jf_Su_shearAll_L35 (nI n) spare m (nI k) f = some f' ∧ sR n f' (fun i => v i) := by
  intro j
  induction j with
  | zero =>
    intro k m f e hm h
    obtain ⟨q, rfl⟩ : ∃ q, m = q + 1 := ⟨m - 1, by omega⟩
    have : k = n := by omega
    subst this
    exact ⟨f, by rw [jf_Su_shearAll_L35, if_pos (nI_le (Nat.le_refl k) (by omega))], h⟩
  | succ j ih =>
    intro k m f e hm h
    obtain ⟨q, rfl⟩ : ∃ q, m = q + 1 := ⟨m - 1, by omega⟩
    have hk : k < n := by omega
    rw [jf_Su_shearAll_L35, if_neg (nI_ge hk (by omega))]
    simp only [jlet]
    rw [jat_nI spare (by omega) (by decide), hv k hk, jput_nI _ _ (by omega) (by decide), nI_1]
    refine ih (k + 1) q _ (by omega) (by omega) (fun i hi => ?_)
    by_cases c : i = k
    · subst c; exact upd_at _ _ _
    · rw [upd_ne _ _ c]; exact h i (by omega)
theorem s_turn1 {n : Nat} {left : Nat → Int32} {v : Nat → Nat} (hn : n ≤ 5) (hv : sR n left v) : ∀ j k m f, k + j = n → j < m → (∀ i, i < k → f i = nI (v i)) → ∃ f', jf_Su_turnAll_L2 (nI n) left m (nI k) f = some f' ∧ sR n f' (fun i => v i) := by
  intro j
  induction j with
  | zero =>
    intro k m f e hm h
    obtain ⟨q, rfl⟩ : ∃ q, m = q + 1 := ⟨m - 1, by omega⟩
    have : k = n := by omega
    subst this
    exact ⟨f, by rw [jf_Su_turnAll_L2, if_pos (nI_le (Nat.le_refl k) (by omega))], h⟩
  | succ j ih =>
    intro k m f e hm h
    obtain ⟨q, rfl⟩ : ∃ q, m = q + 1 := ⟨m - 1, by omega⟩
    have hk : k < n := by omega
    rw [jf_Su_turnAll_L2, if_neg (nI_ge hk (by omega))]
    unfold jf_Su_leftOf
    simp only [jlet]
    rw [jat_nI left (by omega) (by decide), hv k hk, jput_nI _ _ (by omega) (by decide), nI_1]
    refine ih (k + 1) q _ (by omega) (by omega) (fun i hi => ?_)
    by_cases c : i = k
    · subst c; exact upd_at _ _ _
    · rw [upd_ne _ _ c]; exact h i (by omega)
theorem s_turn2 {n : Nat} {spare : Nat → Int32} {u v : Nat → Nat} (hn : n ≤ 5) (hv : sR n spare v) : ∀ j k m right up, k + j = n → j < m → (∀ i, i < k → right i = nI (u i) ∧ up i = nI (v i)) → (∀ i, k ≤ i → i < n → up i = nI (u i)) → ∃ right' up', jf_Su_turnAll_L31 (nI n) spare m (nI k) right up = some (right', up') ∧ sR n right' u ∧ sR n up' v := by
  intro j
  induction j with
  | zero =>
    intro k m right up e hm h h2
    obtain ⟨q, rfl⟩ : ∃ q, m = q + 1 := ⟨m - 1, by omega⟩
    have : k = n := by omega
    subst this
    exact ⟨right, up, by rw [jf_Su_turnAll_L31, if_pos (nI_le (Nat.le_refl k) (by omega))], fun i hi => (h i hi).1, fun i hi => (h i hi).2⟩
  | succ j ih =>
    intro k m right up e hm h h2
    obtain ⟨q, rfl⟩ : ∃ q, m = q + 1 := ⟨m - 1, by omega⟩
    have hk : k < n := by omega
    rw [jf_Su_turnAll_L31, if_neg (nI_ge hk (by omega))]
    unfold jf_Su_upOf
    simp only [jlet]
    rw [jat_nI up (by omega) (by decide), h2 k (Nat.le_refl k) hk, jput_nI _ _ (by omega) (by decide), jat_nI spare (by omega) (by decide), hv k hk, jput_nI _ _ (by omega) (by decide), nI_1]
    refine ih (k + 1) q _ _ (by omega) (by omega) (fun i hi => ?_) (fun i hi hn2 => ?_)
    · by_cases c : i = k
      · subst c; exact ⟨upd_at _ _ _, upd_at _ _ _⟩
      · rw [upd_ne _ _ c, upd_ne _ _ c]; exact h i (by omega)
    · rw [upd_ne _ _ (by omega)]; exact h2 i (by omega) hn2
theorem s_shear {n : Nat} {right up : Nat → Int32} {r s u w : Nat → Nat} (hn : n ≤ 5) (hr : sP n r s) (hu : sP n u w) (fr : sR n right r) (fu : sR n up u) (left down spare : Nat → Int32) : ∃ up' left' down' spare', jf_Su_shearAll (nI n) right up left down spare = some (up', left', down', spare') ∧ sR n up' (fun k => u (r k)) ∧ sR n left' s ∧ sR n down' (fun k => s (w k)) := by
  obtain ⟨f1, e1, h1⟩ := s_shear1 hn hr hu fr fu n 0 jF spare (by omega) (jF_gt (by omega)) (fun i hi => absurd hi (Nat.not_lt_zero _))
  obtain ⟨f2, e2, h2⟩ := s_shear2 hn h1 n 0 jF up (by omega) (jF_gt (by omega)) (fun i hi => absurd hi (Nat.not_lt_zero _))
  obtain ⟨l', d', e3, h3, h4⟩ := s_glue hn hr (sP_comp hr hu) fr h2 left down
  refine ⟨f2, l', d', f1, ?_, h2, h3, h4⟩
  unfold jf_Su_shearAll
  show Option.bind (jf_Su_shearAll_L2 (nI n) right up jF (nI 0) spare) _ = _
  rw [e1]
  show Option.bind (jf_Su_shearAll_L35 (nI n) f1 jF (nI 0) up) _ = _
  rw [e2]
  simp only [Option.bind]
  rw [e3]
theorem s_turn {n : Nat} {right up left : Nat → Int32} {r s u w : Nat → Nat} (hn : n ≤ 5) (hr : sP n r s) (hu : sP n u w) (fu : sR n up u) (fl : sR n left s) (down spare : Nat → Int32) : ∃ right' up' left' down' spare', jf_Su_turnAll (nI n) right up left down spare = some (right', up', left', down', spare') ∧ sR n right' u ∧ sR n up' s ∧ sR n left' w ∧ sR n down' r := by
  obtain ⟨f1, e1, h1⟩ := s_turn1 hn fl n 0 jF spare (by omega) (jF_gt (by omega)) (fun i hi => absurd hi (Nat.not_lt_zero _))
  obtain ⟨r', u', e2, h2, h5⟩ := s_turn2 (u := u) hn h1 n 0 jF right up (by omega) (jF_gt (by omega)) (fun i hi => absurd hi (Nat.not_lt_zero _)) (fun i _ hi => fu i hi)
  obtain ⟨l', d', e3, h3, h4⟩ := s_glue hn hu (sP_inv hr) h2 h5 left down
  refine ⟨r', u', l', d', f1, ?_, h2, h5, h3, h4⟩
  unfold jf_Su_turnAll
  show Option.bind (jf_Su_turnAll_L2 (nI n) left jF (nI 0) spare) _ = _
  rw [e1]
  show Option.bind (jf_Su_turnAll_L31 (nI n) f1 jF (nI 0) right up) _ = _
  rw [e2]
  simp only [Option.bind]
  rw [e3]
