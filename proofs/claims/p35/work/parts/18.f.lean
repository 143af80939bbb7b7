/-! the model's joins -/
def sJoin (P : Nat → Nat) (a b k : Nat) : Nat := if P k = P a then P b else P k
theorem m_parts {n : Nat} (hn : n ≤ 5) : ∀ j k m f, k + j = n → j < m → (∀ i, i < k → f i = nI i) → ∃ f', jf_Mo_parts_L2 (nI n) m (nI k) f = some f' ∧ sR n f' (fun i => i) := by
  intro j
  induction j with
  | zero =>
    intro k m f e hm h
    obtain ⟨q, rfl⟩ : ∃ q, m = q + 1 := ⟨m - 1, by omega⟩
    have : k = n := by omega
    subst this
    exact ⟨f, by rw [jf_Mo_parts_L2, if_pos (nI_le (Nat.le_refl k) (by omega))], h⟩
  | succ j ih =>
    intro k m f e hm h
    obtain ⟨q, rfl⟩ : ∃ q, m = q + 1 := ⟨m - 1, by omega⟩
    rw [jf_Mo_parts_L2, if_neg (nI_ge (by omega) (by omega)), if_pos (jin_nI (n := 5) (by omega) (by decide)), nI_clamp (by omega), nI_1]
    refine ih (k + 1) q _ (by omega) (by omega) (fun i hi => ?_)
    by_cases c : i = k
    · subst c; exact upd_at _ _ _
    · rw [upd_ne _ _ c]; exact h i (by omega)
theorem m_join0 {n a b : Nat} {P : Nat → Nat} (hn : n ≤ 5) (hP : ∀ x, x < n → P x < n) (ha : a < n) : ∀ j k m f, k + j = n → j < m → (∀ i, i < k → f i = nI (sJoin P a b i)) → (∀ i, k ≤ i → i < n → f i = nI (P i)) → ∃ f', jf_Mo_joins_L18 (nI n) (nI (P a)) (nI (P b)) m (nI k) f = some f' ∧ sR n f' (sJoin P a b) := by
  intro j
  induction j with
  | zero =>
    intro k m f e hm h h2
    obtain ⟨q, rfl⟩ : ∃ q, m = q + 1 := ⟨m - 1, by omega⟩
    have : k = n := by omega
    subst this
    exact ⟨f, by rw [jf_Mo_joins_L18, if_pos (nI_le (Nat.le_refl k) (by omega))], h⟩
  | succ j ih =>
    intro k m f e hm h h2
    obtain ⟨q, rfl⟩ : ∃ q, m = q + 1 := ⟨m - 1, by omega⟩
    have hk : k < n := by omega
    have hin : jin (nI k) 5 = true := jin_nI (by omega) (by decide)
    have p1 := hP k hk
    have p2 := hP a ha
    have fin : ∀ v, v = nI (sJoin P a b k) → ∃ f', jf_Mo_joins_L18 (nI n) (nI (P a)) (nI (P b)) q (nI (k + 1)) (upd f k v) = some f' ∧ sR n f' (sJoin P a b) := by
      intro v hv
      refine ih (k + 1) q _ (by omega) (by omega) (fun i hi => ?_) (fun i hi hi2 => ?_)
      · by_cases c : i = k
        · subst c; rw [upd_at]; exact hv
        · rw [upd_ne _ _ c]; exact h i (by omega)
      · rw [upd_ne _ _ (by omega)]; exact h2 i (by omega) hi2
    rw [jf_Mo_joins_L18, if_neg (nI_ge hk (by omega)), if_pos hin, if_pos hin]
    unfold jf_Mo_joins_b56
    rw [if_pos hin, if_pos hin, nI_clamp (by omega), h2 k (Nat.le_refl k) hk, nI_1]
    by_cases c : P k = P a
    · rw [if_pos (congrArg nI c)]
      exact fin _ (by unfold sJoin; rw [if_pos c])
    · rw [if_neg (fun h => c ((nI_eq (by omega) (by omega)).1 h))]
      exact fin _ (by unfold sJoin; rw [if_neg c])
theorem m_join {n a b : Nat} {P : Nat → Nat} {f : Nat → Int32} (hn : n ≤ 5) (hP : ∀ x, x < n → P x < n) (hf : sR n f P) (ha : a < n) (hb : b < n) : ∃ f', jf_Mo_joins (nI n) f (nI a) (nI b) = some f' ∧ sR n f' (sJoin P a b) := by
  obtain ⟨f', e, h⟩ := m_join0 (b := b) hn hP ha n 0 jF f (by omega) (jF_gt (by omega)) (fun i hi => absurd hi (Nat.not_lt_zero _)) (fun i _ hi => hf i hi)
  refine ⟨f', ?_, h⟩
  unfold jf_Mo_joins
  simp only [jlet]
  rw [if_pos (jin_nI (n := 5) (by omega) (by decide)), if_pos (jin_nI (n := 5) (by omega) (by decide)), nI_clamp (by omega), nI_clamp (by omega), hf a ha, hf b hb]
  show Option.bind (jf_Mo_joins_L18 (nI n) (nI (P a)) (nI (P b)) jF (nI 0) f) _ = _
  rw [e]; rfl
/-- labels, the edges Q being joined -/
def sJ (n : Nat) (E : Nat → List Nat) (Q : Nat → Nat → Prop) (P : Nat → Nat) : Prop := (∀ x, x < n → P x < n) ∧ (∀ a, a < n → ∀ b, b < n → Q a b → P a = P b) ∧ ∀ x y, x < n → y < n → P x = P y → sRel n E x y
theorem sJ_0 (n : Nat) (E : Nat → List Nat) {Q : Nat → Nat → Prop} (hQ : ∀ a b, ¬ Q a b) : sJ n E Q (fun k => k) :=
  ⟨fun x h => h, fun a _ b _ h => absurd h (hQ a b), fun x y _ _ h S _ => by rw [show x = y from h]⟩
theorem sJ_join {n a b : Nat} {E : Nat → List Nat} {Q Q' : Nat → Nat → Prop} {P : Nat → Nat} (h : sJ n E Q P) (ha : a < n) (hb : b < n) (hE : b ∈ E a) (hQ : ∀ c d, Q' c d → Q c d ∨ (c = a ∧ d = b)) : sJ n E Q' (sJoin P a b) := by
  obtain ⟨h1, h2, h3⟩ := h
  have hab : sRel n E a b := fun S hS => hS a ha b hE
  refine ⟨fun x hx => ?_, fun c hc d hd hq => ?_, fun x y hx hy e => ?_⟩
  · unfold sJoin
    split
    · exact h1 b hb
    · exact h1 x hx
  · unfold sJoin
    rcases hQ c d hq with hq | ⟨rfl, rfl⟩
    · rw [h2 c hc d hd hq]
    · rw [if_pos rfl]
      split
      · rfl
      · rfl
  · unfold sJoin at e
    by_cases c1 : P x = P a
    · by_cases c2 : P y = P a
      · exact sRel_trans (h3 x a hx ha c1) (sRel_symm (h3 y a hy ha c2))
      · rw [if_pos c1, if_neg c2] at e
        exact sRel_trans (h3 x a hx ha c1) (sRel_trans hab (h3 b y hb hy e))
    · by_cases c2 : P y = P a
      · rw [if_neg c1, if_pos c2] at e
        exact sRel_trans (h3 x b hx hb e) (sRel_trans (sRel_symm hab) (sRel_symm (h3 y a hy ha c2)))
      · rw [if_neg c1, if_neg c2] at e
        exact h3 x y hx hy e
theorem sJ_end {n : Nat} {E : Nat → List Nat} {Q : Nat → Nat → Prop} {P : Nat → Nat} (hE : sEin n E) (h : sJ n E Q P) (hQ : ∀ a, a < n → ∀ b, b ∈ E a → Q a b) {x y : Nat} (hx : x < n) (hy : y < n) : (P x == P y) = true ↔ sRel n E x y := by
  obtain ⟨h1, h2, h3⟩ := h
  rw [beq_iff_eq]
  constructor
  · exact h3 x y hx hy
  · intro hr
    have := hr (fun z => P x == P z) (fun a ha b hb => by
      show (P x == P a) = (P x == P b)
      rw [h2 a ha b (hE a ha b hb) (hQ a ha b hb)])
    rw [beq_self_eq_true] at this
    exact beq_iff_eq.1 this.symm
theorem m_rows {n : Nat} {right : Nat → Int32} {r s : Nat → Nat} {E : Nat → List Nat} (hn : n ≤ 5) (hr : sP n r s) (fr : sR n right r) (hE : ∀ a, a < n → r a ∈ E a) : ∀ j k m f P, k + j = n → j < m → sR n f P → sJ n E (fun a b => a < k ∧ b = r a) P → ∃ f' P', jf_Mo_findsRows_L6 (nI n) right m (nI k) f = some f' ∧ sR n f' P' ∧ sJ n E (fun a b => a < n ∧ b = r a) P' := by
  intro j
  induction j with
  | zero =>
    intro k m f P e hm hf hJ
    obtain ⟨q, rfl⟩ : ∃ q, m = q + 1 := ⟨m - 1, by omega⟩
    have : k = n := by omega
    subst this
    exact ⟨f, P, by rw [jf_Mo_findsRows_L6, if_pos (nI_le (Nat.le_refl k) (by omega))], hf, hJ⟩
  | succ j ih =>
    intro k m f P e hm hf hJ
    obtain ⟨q, rfl⟩ : ∃ q, m = q + 1 := ⟨m - 1, by omega⟩
    have hk : k < n := by omega
    have hin : jin (nI k) 5 = true := jin_nI (by omega) (by decide)
    obtain ⟨f1, e1, h1⟩ := m_join hn hJ.1 hf hk (hr k hk).1
    rw [jf_Mo_findsRows_L6, if_neg (nI_ge hk (by omega)), if_pos hin, nI_clamp (by omega), fr k hk, e1, nI_1]
    refine ih (k + 1) q f1 _ (by omega) (by omega) h1 (sJ_join hJ hk (hr k hk).1 (hE k hk) (fun c d h => ?_))
    by_cases x : c = k
    · subst x; exact Or.inr ⟨rfl, h.2⟩
    · exact Or.inl ⟨by omega, h.2⟩
theorem m_findsRows {n : Nat} {right : Nat → Int32} {r s : Nat → Nat} {E : Nat → List Nat} (hn : n ≤ 5) (hr : sP n r s) (fr : sR n right r) (hE : ∀ a, a < n → r a ∈ E a) (f : Nat → Int32) : ∃ f' P', jf_Mo_findsRows (nI n) right f = some f' ∧ sR n f' P' ∧ sJ n E (fun a b => a < n ∧ b = r a) P' := by
  obtain ⟨f1, e1, h1⟩ := m_parts hn n 0 jF f (by omega) (jF_gt (by omega)) (fun i hi => absurd hi (Nat.not_lt_zero _))
  obtain ⟨f2, P2, e2, h2, h3⟩ := m_rows hn hr fr hE n 0 jF f1 _ (by omega) (jF_gt (by omega)) h1 (sJ_0 n E (fun a b h => absurd h.1 (Nat.not_lt_zero _)))
  refine ⟨f2, P2, ?_, h2, h3⟩
  unfold jf_Mo_findsRows jf_Mo_parts
  show Option.bind (Option.bind (jf_Mo_parts_L2 (nI n) jF (nI 0) f) _) _ = _
  rw [e1]
  show Option.bind (jf_Mo_findsRows_L6 (nI n) right jF (nI 0) f1) _ = _
  rw [e2]; rfl
theorem m_pieces {n : Nat} {right up : Nat → Int32} {r s u w : Nat → Nat} {E : Nat → List Nat} (hn : n ≤ 5) (hr : sP n r s) (hu : sP n u w) (fr : sR n right r) (fu : sR n up u) (hE : ∀ a, a < n → r a ∈ E a ∧ u a ∈ E a) : ∀ j k m f P, k + j = n → j < m → sR n f P → sJ n E (fun a b => a < k ∧ (b = r a ∨ b = u a)) P → ∃ f' P', jf_Mo_findsPieces_L6 (nI n) right up m (nI k) f = some f' ∧ sR n f' P' ∧ sJ n E (fun a b => a < n ∧ (b = r a ∨ b = u a)) P' := by
  intro j
  induction j with
  | zero =>
    intro k m f P e hm hf hJ
    obtain ⟨q, rfl⟩ : ∃ q, m = q + 1 := ⟨m - 1, by omega⟩
    have : k = n := by omega
    subst this
    exact ⟨f, P, by rw [jf_Mo_findsPieces_L6, if_pos (nI_le (Nat.le_refl k) (by omega))], hf, hJ⟩
  | succ j ih =>
    intro k m f P e hm hf hJ
    obtain ⟨q, rfl⟩ : ∃ q, m = q + 1 := ⟨m - 1, by omega⟩
    have hk : k < n := by omega
    have hin : jin (nI k) 5 = true := jin_nI (by omega) (by decide)
    obtain ⟨f1, e1, h1⟩ := m_join hn hJ.1 hf hk (hr k hk).1
    have hJ1 : sJ n E (fun a b => (a < k ∧ (b = r a ∨ b = u a)) ∨ (a = k ∧ b = r k)) (sJoin P k (r k)) := sJ_join hJ hk (hr k hk).1 (hE k hk).1 (fun c d h => h)
    obtain ⟨f2, e2, h2⟩ := m_join hn hJ1.1 h1 hk (hu k hk).1
    rw [jf_Mo_findsPieces_L6, if_neg (nI_ge hk (by omega)), if_pos hin, nI_clamp (by omega), fr k hk, e1]
    simp only [Option.bind]
    rw [if_pos hin, fu k hk, e2]
    simp only []
    rw [nI_1]
    refine ih (k + 1) q f2 _ (by omega) (by omega) h2 (sJ_join hJ1 hk (hu k hk).1 (hE k hk).2 (fun c d h => ?_))
    by_cases x : c = k
    · subst x
      rcases h.2 with h2 | h2
      · exact Or.inl (Or.inr ⟨rfl, h2⟩)
      · exact Or.inr ⟨rfl, h2⟩
    · exact Or.inl (Or.inl ⟨by omega, h.2⟩)
theorem m_findsPieces {n : Nat} {right up : Nat → Int32} {r s u w : Nat → Nat} {E : Nat → List Nat} (hn : n ≤ 5) (hr : sP n r s) (hu : sP n u w) (fr : sR n right r) (fu : sR n up u) (hE : ∀ a, a < n → r a ∈ E a ∧ u a ∈ E a) (f : Nat → Int32) : ∃ f' P', jf_Mo_findsPieces (nI n) right up f = some f' ∧ sR n f' P' ∧ sJ n E (fun a b => a < n ∧ (b = r a ∨ b = u a)) P' := by
  obtain ⟨f1, e1, h1⟩ := m_parts hn n 0 jF f (by omega) (jF_gt (by omega)) (fun i hi => absurd hi (Nat.not_lt_zero _))
  obtain ⟨f2, P2, e2, h2, h3⟩ := m_pieces hn hr hu fr fu hE n 0 jF f1 _ (by omega) (jF_gt (by omega)) h1 (sJ_0 n E (fun a b h => absurd h.1 (Nat.not_lt_zero _)))
  refine ⟨f2, P2, ?_, h2, h3⟩
  unfold jf_Mo_findsPieces jf_Mo_parts
  show Option.bind (Option.bind (jf_Mo_parts_L2 (nI n) jF (nI 0) f) _) _ = _
  rw [e1]
  show Option.bind (jf_Mo_findsPieces_L6 (nI n) right up jF (nI 0) f1) _ = _
  rw [e2]; rfl
theorem m_cones0 {n : Nat} {right up : Nat → Int32} {r s u w : Nat → Nat} {E : Nat → List Nat} (hn : n ≤ 5) (hr : sP n r s) (hu : sP n u w) (fr : sR n right r) (fu : sR n up u) (hE : ∀ a, a < n → sG r s u w a ∈ E a) : ∀ j k m f P, k + j = n → j < m → sR n f P → sJ n E (fun a b => a < k ∧ b = sG r s u w a) P → ∃ f' P', jf_Mo_cones_L6 (nI n) right up m (nI k) f = some f' ∧ sR n f' P' ∧ sJ n E (fun a b => a < n ∧ b = sG r s u w a) P' := by
  intro j
  induction j with
  | zero =>
    intro k m f P e hm hf hJ
    obtain ⟨q, rfl⟩ : ∃ q, m = q + 1 := ⟨m - 1, by omega⟩
    have : k = n := by omega
    subst this
    exact ⟨f, P, by rw [jf_Mo_cones_L6, if_pos (nI_le (Nat.le_refl k) (by omega))], hf, hJ⟩
  | succ j ih =>
    intro k m f P e hm hf hJ
    obtain ⟨q, rfl⟩ : ∃ q, m = q + 1 := ⟨m - 1, by omega⟩
    have hk : k < n := by omega
    have hg := (sG_P hr hu k hk).1
    obtain ⟨f1, e1, h1⟩ := m_join hn hJ.1 hf hk hg
    rw [jf_Mo_cones_L6, if_neg (nI_ge hk (by omega)), m_round hn hr hu fr fu hk]
    simp only [Option.bind]
    rw [e1]
    simp only []
    rw [nI_1]
    refine ih (k + 1) q f1 _ (by omega) (by omega) h1 (sJ_join hJ hk hg (hE k hk) (fun c d h => ?_))
    by_cases x : c = k
    · subst x; exact Or.inr ⟨rfl, h.2⟩
    · exact Or.inl ⟨by omega, h.2⟩
theorem m_cyls0 {n : Nat} {right up : Nat → Int32} {r s u w : Nat → Nat} {E : Nat → List Nat} (hn : n ≤ 5) (hr : sP n r s) (hu : sP n u w) (fr : sR n right r) (fu : sR n up u) (hE : ∀ a, a < n → sFlat n r (sG r s u w) a = true → u a ∈ E a) : ∀ j k m f P, k + j = n → j < m → sR n f P → sJ n E (fun a b => (a < n ∧ b = r a) ∨ (a < k ∧ sFlat n r (sG r s u w) a = true ∧ b = u a)) P → ∃ f' P', jf_Mo_findsCylinders_L6 (nI n) right up m (nI k) f = some f' ∧ sR n f' P' ∧ sJ n E (fun a b => (a < n ∧ b = r a) ∨ (a < n ∧ sFlat n r (sG r s u w) a = true ∧ b = u a)) P' := by
  intro j
  induction j with
  | zero =>
    intro k m f P e hm hf hJ
    obtain ⟨q, rfl⟩ : ∃ q, m = q + 1 := ⟨m - 1, by omega⟩
    have : k = n := by omega
    subst this
    exact ⟨f, P, by rw [jf_Mo_findsCylinders_L6, if_pos (nI_le (Nat.le_refl k) (by omega))], hf, hJ⟩
  | succ j ih =>
    intro k m f P e hm hf hJ
    obtain ⟨q, rfl⟩ : ∃ q, m = q + 1 := ⟨m - 1, by omega⟩
    have hk : k < n := by omega
    have hin : jin (nI k) 5 = true := jin_nI (by omega) (by decide)
    have hu1 := (hu k hk).1
    rw [jf_Mo_findsCylinders_L6, if_neg (nI_ge hk (by omega)), m_flat hn hr hu fr fu hk]
    unfold jf_Mo_findsCylinders_b33
    simp only [Option.bind]
    rw [if_pos hin, nI_clamp (by omega), fu k hk, nI_1]
    cases c : sFlat n r (sG r s u w) k with
    | false =>
      rw [if_pos (by decide)]
      refine ih (k + 1) q f P (by omega) (by omega) hf ⟨hJ.1, fun a ha b hb hq => hJ.2.1 a ha b hb ?_, hJ.2.2⟩
      rcases hq with hq | ⟨h1, h2, h3⟩
      · exact Or.inl hq
      · refine Or.inr ⟨?_, h2, h3⟩
        by_cases x : a = k
        · subst x; rw [c] at h2; cases h2
        · omega
    | true =>
      rw [if_neg (by decide)]
      obtain ⟨f1, e1, h1⟩ := m_join hn hJ.1 hf hk hu1
      rw [e1]
      refine ih (k + 1) q f1 _ (by omega) (by omega) h1 (sJ_join hJ hk hu1 (hE k hk c) (fun a b hq => ?_))
      rcases hq with hq | ⟨h1, h2, h3⟩
      · exact Or.inl (Or.inl hq)
      · by_cases x : a = k
        · subst x; exact Or.inr ⟨rfl, h3⟩
        · exact Or.inl (Or.inr ⟨by omega, h2, h3⟩)
theorem m_first {n : Nat} {f : Nat → Int32} {P : Nat → Nat} (hn : n ≤ 5) (hP : ∀ x, x < n → P x < n) (hf : sR n f P) (z1 : Int32) {k : Nat} (hk : k < n) : ∀ j i m (fl : Bool), i + j = k → j < m → ∃ b : Bool, jf_Mo_manyParts_L17 f z1 (nI k) m (if fl then 1 else 0) (nI i) = some (if b then 1 else 0) ∧ (b = true ↔ fl = true ∧ ∀ i', i ≤ i' → i' < k → (P i' == P k) = false) := by
  intro j
  induction j with
  | zero =>
    intro i m fl e hm
    obtain ⟨q, rfl⟩ : ∃ q, m = q + 1 := ⟨m - 1, by omega⟩
    exact ⟨fl, by rw [jf_Mo_manyParts_L17, if_pos (nI_le (by omega) (by omega))], fun h => ⟨h, fun i' h1 h2 => by omega⟩, fun h => h.1⟩
  | succ j ih =>
    intro i m fl e hm
    obtain ⟨q, rfl⟩ : ∃ q, m = q + 1 := ⟨m - 1, by omega⟩
    have hi : i < n := by omega
    have p1 := hP i hi
    have p2 := hP k hk
    rw [jf_Mo_manyParts_L17, if_neg (nI_ge (by omega) (by omega)), if_pos (jin_nI (n := 5) (by omega) (by decide)), if_pos (jin_nI (n := 5) (by omega) (by decide)), nI_clamp (by omega), nI_clamp (by omega), hf i hi, hf k hk]
    unfold jf_Mo_manyParts_b47 jf_Mo_manyParts_b48
    rw [nI_1]
    obtain ⟨b0, f1, f2⟩ := ih (i + 1) q false (by omega) (by omega)
    have hno : b0 = false := by
      cases b0 with
      | false => rfl
      | true => have := (f2.1 rfl).1; cases this
    subst hno
    cases fl with
    | false =>
      rw [if_pos (by decide)]
      exact ⟨false, f1, fun h => (by cases h), fun h => (by cases h.1)⟩
    | true =>
      rw [if_neg (by decide)]
      by_cases c : P i = P k
      · rw [if_pos (congrArg nI c)]
        refine ⟨false, f1, fun h => (by cases h), fun h => ?_⟩
        have := h.2 i (Nat.le_refl i) (by omega)
        rw [c, beq_self_eq_true] at this; cases this
      · rw [if_neg (fun h => c ((nI_eq (by omega) (by omega)).1 h))]
        obtain ⟨b, g1, g2⟩ := ih (i + 1) q true (by omega) (by omega)
        refine ⟨b, g1, ?_⟩
        rw [g2]
        constructor
        · intro h
          refine ⟨rfl, fun i' h1 h2 => ?_⟩
          by_cases d : i' = i
          · subst d; exact beq_eq_false_iff_ne.2 c
          · exact h.2 i' (by omega) h2
        · intro h; exact ⟨rfl, fun i' h1 h2 => h.2 i' (by omega) h2⟩
theorem m_many {n : Nat} {f : Nat → Int32} {P : Nat → Nat} (hn : n ≤ 5) (hP : ∀ x, x < n → P x < n) (hf : sR n f P) {D : Nat → Nat → Bool} (hD : ∀ i x, i < n → x < n → (P i == P x) = D i x) : jf_Mo_manyParts (nI n) f = some (nI (jcnt n (fun x => jall x (fun i => !D i x)))) := by
  have key : ∀ j k m, k + j = n → j < m → jf_Mo_manyParts_L4 (nI n) f m (nI (jcnt k (fun x => jall x (fun i => !D i x)))) (nI k) = some (nI (jcnt n (fun x => jall x (fun i => !D i x)))) := by
    intro j
    induction j with
    | zero =>
      intro k m e hm
      obtain ⟨q, rfl⟩ : ∃ q, m = q + 1 := ⟨m - 1, by omega⟩
      have : k = n := by omega
      subst this
      rw [jf_Mo_manyParts_L4, if_pos (nI_le (Nat.le_refl k) (by omega))]
    | succ j ih =>
      intro k m e hm
      obtain ⟨q, rfl⟩ : ∃ q, m = q + 1 := ⟨m - 1, by omega⟩
      have hk : k < n := by omega
      have i1 := ih (k + 1) q (by omega) (by omega)
      rw [jcnt] at i1
      obtain ⟨b, f1, f2⟩ := m_first hn hP hf (nI (jcnt k (fun x => jall x (fun i => !D i x)))) hk k 0 jF true (by omega) (jF_gt (by omega))
      have hb : b = jall k (fun i => !D i k) := by
        rw [Bool.eq_iff_iff, f2, jall_iff]
        constructor
        · intro h i hi
          rw [← hD i k (by omega) hk, h.2 i (Nat.zero_le _) hi]; rfl
        · intro h
          refine ⟨rfl, fun i _ hi => ?_⟩
          rw [hD i k (by omega) hk]
          exact jnot (h i hi)
      rw [← hb] at i1
      rw [jf_Mo_manyParts_L4, if_neg (nI_ge hk (by omega))]
      have f3 : jf_Mo_manyParts_L17 f (nI (jcnt k (fun x => jall x (fun i => !D i x)))) (nI k) jF 1 0 = some (if b then 1 else 0) := f1
      rw [f3]
      unfold jf_Mo_manyParts_b65
      simp only [Option.bind, jlet]
      rw [nI_1 k]
      cases b with
      | true => rw [if_neg (by decide), nI_1]; rw [if_pos rfl] at i1; exact i1
      | false => rw [if_pos (by decide), Int32.add_zero]; exact i1
  have h := key n 0 jF (by omega) (jF_gt (by omega))
  unfold jf_Mo_manyParts
  show Option.bind (jf_Mo_manyParts_L4 (nI n) f jF (nI (jcnt 0 (fun x => jall x (fun i => !D i x)))) (nI 0)) _ = _
  rw [h]; rfl
theorem m_sizeOf {n : Nat} {f : Nat → Int32} {P : Nat → Nat} (hn : n ≤ 5) (hP : ∀ x, x < n → P x < n) (hf : sR n f P) {k : Nat} (hk : k < n) : jf_Mo_sizeOf (nI n) f (nI k) = some (nI (jcnt n (fun i => P i == P k))) := by
  have key : ∀ j i m, i + j = n → j < m → jf_Mo_sizeOf_L4 (nI n) f (nI k) m (nI (jcnt i (fun i => P i == P k))) (nI i) = some (nI (jcnt n (fun i => P i == P k))) := by
    intro j
    induction j with
    | zero =>
      intro i m e hm
      obtain ⟨q, rfl⟩ : ∃ q, m = q + 1 := ⟨m - 1, by omega⟩
      have : i = n := by omega
      subst this
      rw [jf_Mo_sizeOf_L4, if_pos (nI_le (Nat.le_refl i) (by omega))]
    | succ j ih =>
      intro i m e hm
      obtain ⟨q, rfl⟩ : ∃ q, m = q + 1 := ⟨m - 1, by omega⟩
      have hi : i < n := by omega
      have p1 := hP i hi
      have p2 := hP k hk
      have i1 := ih (i + 1) q (by omega) (by omega)
      rw [jcnt] at i1
      rw [jf_Mo_sizeOf_L4, if_neg (nI_ge hi (by omega)), if_pos (jin_nI (n := 5) (by omega) (by decide)), if_pos (jin_nI (n := 5) (by omega) (by decide)), nI_clamp (by omega), nI_clamp (by omega), hf i hi, hf k hk]
      unfold jf_Mo_sizeOf_b33
      simp only [jlet]
      rw [nI_1 i]
      by_cases c : P i = P k
      · rw [if_pos (congrArg nI c), nI_1]
        rw [if_pos (beq_iff_eq.2 c)] at i1; exact i1
      · rw [if_neg (fun h => c ((nI_eq (by omega) (by omega)).1 h)), Int32.add_zero]
        rw [if_neg (fun h => c (beq_iff_eq.1 h))] at i1; exact i1
  have h := key n 0 jF (by omega) (jF_gt (by omega))
  unfold jf_Mo_sizeOf
  show Option.bind (jf_Mo_sizeOf_L4 (nI n) f (nI k) jF (nI (jcnt 0 (fun i => P i == P k))) (nI 0)) _ = _
  rw [h]; rfl
