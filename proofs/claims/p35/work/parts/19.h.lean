/-! the model's code -/
def dn (n x i : Nat) : Nat := x / n ^ i % n
def bPk (b : Nat) : Nat → (Nat → Nat) → Nat
  | 0, _ => 0
  | k + 1, f => bPk b k f + f k * b ^ k
theorem bPk_lt {b : Nat} {f : Nat → Nat} : ∀ n, (∀ k, k < n → f k < b) → bPk b n f < b ^ n
  | 0, _ => Nat.zero_lt_one
  | n + 1, h => by
    have i := bPk_lt n (fun k hk => h k (by omega))
    have h3 := h n (by omega)
    have h2 : f n * b ^ n + b ^ n ≤ b * b ^ n := by
      rw [← Nat.succ_mul]
      exact Nat.mul_le_mul_right _ h3
    rw [bPk, Nat.pow_succ, Nat.mul_comm (b ^ n)]
    omega
theorem bPk_dn {b : Nat} {f : Nat → Nat} : ∀ n, (∀ k, k < n → f k < b) → ∀ k, k < n → dn b (bPk b n f) k = f k
  | 0, _, k, hk => absurd hk (Nat.not_lt_zero _)
  | n + 1, h, k, hk => by
    have l := bPk_lt n (fun k hk => h k (by omega))
    have hb : 0 < b := by have := h k hk; omega
    unfold dn
    rw [bPk]
    by_cases e : k = n
    · subst e
      rw [Nat.add_mul_div_right _ _ (Nat.pow_pos hb), Nat.div_eq_of_lt l, Nat.zero_add]
      exact Nat.mod_eq_of_lt (h k hk)
    · have i := bPk_dn n (fun k hk => h k (by omega)) k (by omega)
      unfold dn at i
      have e2 : f n * b ^ n = (f n * b ^ (n - k - 1) * b) * b ^ k := by
        have : b ^ n = b ^ (n - k - 1) * b * b ^ k := by
          rw [← Nat.pow_succ, ← Nat.pow_add]; congr 1; omega
        rw [this, ← Nat.mul_assoc, ← Nat.mul_assoc]
      rw [e2, Nat.add_mul_div_right _ _ (Nat.pow_pos hb), Nat.add_mul_mod_self_right]
      exact i
def sFind (f : Nat → Nat) (z : Nat) : Nat → Nat
  | 0 => 0
  | k + 1 => if f k = z then k else sFind f z k
theorem sFind_at {f : Nat → Nat} {z : Nat} : ∀ n, (∃ k, k < n ∧ f k = z) → sFind f z n < n ∧ f (sFind f z n) = z
  | 0, ⟨k, hk, _⟩ => absurd hk (Nat.not_lt_zero _)
  | n + 1, ⟨k, hk, e⟩ => by
    rw [sFind]
    by_cases c : f n = z
    · rw [if_pos c]; exact ⟨Nat.lt_succ_self n, c⟩
    · rw [if_neg c]
      have := sFind_at n ⟨k, by
        by_cases d : k = n
        · subst d; exact absurd e c
        · omega, e⟩
      exact ⟨by omega, this.2⟩
theorem inj_perm {n : Nat} {σ : Nat → Nat} (h : ∀ k, k < n → σ k < n) (h2 : ∀ i k, i < k → k < n → σ i ≠ σ k) : ∃ τ, sP n σ τ := by
  have hit : ∀ z, z < n → ∃ k, k < n ∧ σ k = z := by
    intro z hz
    by_cases c : ∃ k, k < n ∧ σ k = z
    · exact c
    · have c2 : ∀ k, k < n → σ k ≠ z := fun k hk e => c ⟨k, hk, e⟩
      obtain ⟨m, rfl⟩ : ∃ m, n = m + 1 := ⟨n - 1, by omega⟩
      obtain ⟨i, j, hij, hj, e⟩ := jphp m (fun i => if z < σ i then σ i - 1 else σ i) (fun i hi => by
        have := h i (by omega)
        have := c2 i (by omega)
        show (if z < σ i then σ i - 1 else σ i) < m
        split <;> omega)
      have a1 := c2 i (by omega)
      have a2 := c2 j (by omega)
      have a3 := h2 i j hij (by omega)
      exact absurd (show σ i = σ j by split at e <;> split at e <;> omega) a3
  have inj : ∀ i k, i < n → k < n → σ i = σ k → i = k := fun i k hi hk e => by
    by_cases c : i < k
    · exact absurd e (h2 i k c hk)
    · by_cases d : k < i
      · exact absurd e.symm (h2 k i d hi)
      · omega
  refine ⟨fun z => sFind σ z n, fun k hk => ?_⟩
  have a := sFind_at n (hit k hk)
  have b := sFind_at n (hit (σ k) (h k hk))
  exact ⟨h k hk, a.1, a.2, inj _ _ b.1 hk b.2⟩
theorem m_name1 {n : Nat} {f : Nat → Int32} {D : Nat → Nat} (hn : n ≤ 5) (hD : ∀ i, i < n → D i < n) (z2 : Int32) {k : Nat} (hk : k < n) (hf : ∀ i, i ≤ k → f i = nI (D i)) : ∀ j i m (fl : Bool), i + j = k → j < m → ∃ b : Bool, jf_Mo_names_L39 f z2 (nI k) m (if fl then 1 else 0) (nI i) = some (if b then 1 else 0) ∧ (b = true ↔ fl = true ∧ ∀ i', i ≤ i' → i' < k → D i' ≠ D k) := by
  intro j
  induction j with
  | zero =>
    intro i m fl e hm
    obtain ⟨q, rfl⟩ : ∃ q, m = q + 1 := ⟨m - 1, by omega⟩
    exact ⟨fl, by rw [jf_Mo_names_L39, if_pos (nI_le (by omega) (by omega))], fun h => ⟨h, fun i' h1 h2 => by omega⟩, fun h => h.1⟩
  | succ j ih =>
    intro i m fl e hm
    obtain ⟨q, rfl⟩ : ∃ q, m = q + 1 := ⟨m - 1, by omega⟩
    have hi : i < n := by omega
    have p1 := hD i hi
    have p2 := hD k hk
    rw [jf_Mo_names_L39, if_neg (nI_ge (by omega) (by omega)), if_pos (jin_nI (n := 5) (by omega) (by decide)), if_pos (jin_nI (n := 5) (by omega) (by decide)), nI_clamp (by omega), nI_clamp (by omega), hf i (by omega), hf k (Nat.le_refl k)]
    unfold jf_Mo_names_b71 jf_Mo_names_b72
    rw [nI_1]
    obtain ⟨b0, f1, f2⟩ := ih (i + 1) q false (by omega) (by omega)
    have hno : b0 = false := by
      cases b0 with
      | false => rfl
      | true => have := (f2.1 rfl).1; cases this
    subst hno
    cases fl with
    | false =>
      rw [if_pos (by decide)]
      exact ⟨false, f1, fun h => (by cases h), fun h => (by cases h.1)⟩
    | true =>
      rw [if_neg (by decide)]
      by_cases c : D i = D k
      · rw [if_pos (congrArg nI c)]
        exact ⟨false, f1, fun h => (by cases h), fun h => absurd c (h.2 i (Nat.le_refl i) (by omega))⟩
      · rw [if_neg (fun h => c ((nI_eq (by omega) (by omega)).1 h))]
        obtain ⟨b, g1, g2⟩ := ih (i + 1) q true (by omega) (by omega)
        refine ⟨b, g1, ?_⟩
        rw [g2]
        constructor
        · intro h
          refine ⟨rfl, fun i' h1 h2 => ?_⟩
          by_cases d : i' = i
          · subst d; exact c
          · exact h.2 i' (by omega) h2
        · intro h; exact ⟨rfl, fun i' h1 h2 => h.2 i' (by omega) h2⟩
theorem m_names {n x : Nat} (h1 : 1 ≤ n) (hn : n ≤ 5) (hx : x < 2 ^ 31) : ∀ j k m (fl : Bool) f, k + j = n → j < m → (∀ i, i < k → f i = nI (dn n x i)) → (fl = true ↔ ∀ i k', i < k' → k' < k → dn n x i ≠ dn n x k') → ∃ (b : Bool) (f' : Nat → Int32), jf_Mo_names_L7 (nI n) m (nI (x / n ^ k)) (if fl then 1 else 0) (nI k) f = some (if b then 1 else 0, f') ∧ sR n f' (dn n x) ∧ (b = true ↔ ∀ i k', i < k' → k' < n → dn n x i ≠ dn n x k') := by
  intro j
  induction j with
  | zero =>
    intro k m fl f e hm hf hfl
    obtain ⟨q, rfl⟩ : ∃ q, m = q + 1 := ⟨m - 1, by omega⟩
    have : k = n := by omega
    subst this
    exact ⟨fl, f, by rw [jf_Mo_names_L7, if_pos (nI_le (Nat.le_refl k) (by omega))], hf, hfl⟩
  | succ j ih =>
    intro k m fl f e hm hf hfl
    obtain ⟨q, rfl⟩ : ∃ q, m = q + 1 := ⟨m - 1, by omega⟩
    have hk : k < n := by omega
    have n0 : ¬ nI n = 0 := nI_ne0 (by omega) (by omega)
    have hxk : x / n ^ k < 2 ^ 31 := Nat.lt_of_le_of_lt (Nat.div_le_self _ _) hx
    have hdiv : x / n ^ k / n = x / n ^ (k + 1) := by rw [Nat.div_div_eq_div_mul, Nat.pow_succ]
    have hf' : ∀ i, i ≤ k → upd f k (nI (dn n x k)) i = nI (dn n x i) := fun i hi => by
      by_cases c : i = k
      · subst c; exact upd_at _ _ _
      · rw [upd_ne _ _ c]; exact hf i (by omega)
    obtain ⟨b, e1, e2⟩ := m_name1 hn (fun i _ => Nat.mod_lt _ (by omega)) (nI (x / n ^ (k + 1))) hk hf' k 0 jF fl (by omega) (jF_gt (by omega))
    obtain ⟨b', f', i1, i2, i3⟩ := ih (k + 1) q b (upd f k (nI (dn n x k))) (by omega) (by omega) (fun i hi => hf' i (by omega)) (by
      rw [e2, hfl]
      constructor
      · intro h i k' h2 h3
        by_cases c : k' = k
        · subst c; exact h.2 i (Nat.zero_le _) h2
        · exact h.1 i k' h2 (by omega)
      · intro h
        exact ⟨fun i k' h2 h3 => h i k' h2 (by omega), fun i' _ h3 => h i' k h3 (by omega)⟩)
    refine ⟨b', f', ?_, i2, i3⟩
    rw [jf_Mo_names_L7, if_neg (nI_ge hk (by omega)), if_neg n0, if_pos (jin_nI (n := 5) (by omega) (by decide)), if_neg n0]
    simp only [jlet]
    rw [pk_rem hxk (by omega) (by omega), pk_div hxk (by omega) (by omega), hdiv, nI_clamp (by omega)]
    have e3 : jf_Mo_names_L39 (upd f k (nI (x / n ^ k % n))) (nI (x / n ^ (k + 1))) (nI k) jF (if fl then 1 else 0) 0 = some (if b then 1 else 0) := e1
    rw [e3]
    simp only [Option.bind]
    rw [nI_1]
    exact i1
theorem m_find {n : Nat} {f : Nat → Int32} {σ τ : Nat → Nat} (hn : n ≤ 5) (hs : sP n σ τ) (hf : sR n f σ) (z1 : Int32) {z : Nat} (hz : z < n) : ∀ j i m, i + j = τ z → j < m → jf_Mo_number_L14 f z1 (nI z) m (nI i) = some (nI (τ z)) := by
  intro j
  have a := hs z hz
  induction j with
  | zero =>
    intro i m e hm
    obtain ⟨q, rfl⟩ : ∃ q, m = q + 1 := ⟨m - 1, by omega⟩
    have : i = τ z := by omega
    subst this
    rw [jf_Mo_number_L14, if_pos (jin_nI (n := 5) (by omega) (by decide)), nI_clamp (by omega), hf _ a.2.1, a.2.2.1, if_pos rfl]
  | succ j ih =>
    intro i m e hm
    obtain ⟨q, rfl⟩ : ∃ q, m = q + 1 := ⟨m - 1, by omega⟩
    have hi : i < n := by omega
    have b := hs i hi
    have hne : ¬ nI (σ i) = nI z := fun h => by
      have h := (nI_eq (by omega) (by omega)).1 h
      have := b.2.2.2
      rw [h] at this
      omega
    rw [jf_Mo_number_L14, if_pos (jin_nI (n := 5) (by omega) (by decide)), nI_clamp (by omega), hf _ hi, if_neg hne, nI_1]
    exact ih (i + 1) q (by omega) (by omega)
theorem m_number {n : Nat} {f right up : Nat → Int32} {σ τ r s u w : Nat → Nat} (hn : n ≤ 5) (hs : sP n σ τ) (hf : sR n f σ) (hr : sP n r s) (hu : sP n u w) (fr : sR n right r) (fu : sR n up u) : jf_Mo_number (nI n) right up f = some (nI (cEnc n (fun i => σ (r (τ i))) (fun i => σ (u (τ i))))) := by
  have key : ∀ j k m, k + j = n → j < m → jf_Mo_number_L4 (nI n) right up f m (nI (cEnc k (fun i => σ (r (τ i))) (fun i => σ (u (τ i))))) (nI k) = some (nI (cEnc n (fun i => σ (r (τ i))) (fun i => σ (u (τ i))))) := by
    intro j
    induction j with
    | zero =>
      intro k m e hm
      obtain ⟨q, rfl⟩ : ∃ q, m = q + 1 := ⟨m - 1, by omega⟩
      have : k = n := by omega
      subst this
      rw [jf_Mo_number_L4, if_pos (nI_le (Nat.le_refl k) (by omega))]
    | succ j ih =>
      intro k m e hm
      obtain ⟨q, rfl⟩ : ∃ q, m = q + 1 := ⟨m - 1, by omega⟩
      have hk : k < n := by omega
      have a := (hs k hk).2.1
      have b := (hr _ a).1
      have c := (hu _ a).1
      have e1 := m_find hn hs hf (nI (cEnc k (fun i => σ (r (τ i))) (fun i => σ (u (τ i))))) hk (τ k) 0 jF (by omega) (jF_gt (by omega))
      have hin : jin (nI (τ k)) 5 = true := jin_nI (by omega) (by decide)
      rw [jf_Mo_number_L4, if_neg (nI_ge hk (by omega)), show (0 : Int32) = nI 0 from rfl, e1]
      simp only [Option.bind]
      rw [if_pos hin, nI_clamp (by omega), fr _ a, if_pos (jin_nI (n := 5) (by omega) (by decide)), if_pos hin, fu _ a, if_pos (jin_nI (n := 5) (by omega) (by decide)), nI_clamp (by omega), nI_clamp (by omega), hf _ b, hf _ c]
      simp only [jlet]
      have hacc : (25 * nI (cEnc k (fun i => σ (r (τ i))) (fun i => σ (u (τ i)))) + 5 * nI (σ (r (τ k)))) + nI (σ (u (τ k))) = nI (cEnc (k + 1) (fun i => σ (r (τ i))) (fun i => σ (u (τ i)))) := by
        rw [show (25 : Int32) = nI 25 from rfl, show (5 : Int32) = nI 5 from rfl, pk_mul, pk_mul, nI_add, nI_add]
        congr 1
        show 25 * (5 * cE k (fun i => σ (r (τ i))) + cE k (fun i => σ (u (τ i)))) + 5 * σ (r (τ k)) + σ (u (τ k)) = 5 * (25 * cE k (fun i => σ (r (τ i))) + σ (r (τ k))) + (25 * cE k (fun i => σ (u (τ i))) + σ (u (τ k)))
        omega
      rw [hacc, nI_1]
      exact ih (k + 1) q (by omega) (by omega)
  have h0 := key n 0 jF (by omega) (jF_gt (by omega))
  unfold jf_Mo_number
  show Option.bind (jf_Mo_number_L4 (nI n) right up f jF (nI (cEnc 0 (fun i => σ (r (τ i))) (fun i => σ (u (τ i))))) (nI 0)) _ = _
  rw [h0]; rfl
