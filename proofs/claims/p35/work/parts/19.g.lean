/-! the class's code: reached, and least -/
def cPk : Nat → (Nat → Nat) → Nat
  | 0, _ => 0
  | k + 1, f => cPk k f + f k * 5 ^ k
theorem cPk_lt {f : Nat → Nat} : ∀ n, (∀ k, k < n → f k < 5) → cPk n f < 5 ^ n
  | 0, _ => Nat.zero_lt_one
  | n + 1, h => by
    have i := cPk_lt n (fun k hk => h k (by omega))
    have h2 : f n * 5 ^ n ≤ 4 * 5 ^ n := Nat.mul_le_mul_right _ (by have := h n (by omega); omega)
    rw [cPk, Nat.pow_succ]
    omega
theorem cPk_g5 {f : Nat → Nat} : ∀ n, (∀ k, k < n → f k < 5) → ∀ k, k < n → g5 (cPk n f) k = f k
  | 0, _, k, hk => absurd hk (Nat.not_lt_zero _)
  | n + 1, h, k, hk => by
    have l := cPk_lt n (fun k hk => h k (by omega))
    rw [g5_eq, cPk]
    by_cases e : k = n
    · subst e
      rw [Nat.add_mul_div_right _ _ (Nat.pow_pos (by decide)), Nat.div_eq_of_lt l]
      have := h k (by omega)
      omega
    · have i := cPk_g5 n (fun k hk => h k (by omega)) k (by omega)
      rw [g5_eq] at i
      have e2 : f n * 5 ^ n = 5 * (f n * 5 ^ (n - k - 1)) * 5 ^ k := by
        have : 5 ^ n = 5 ^ (n - k - 1) * 5 * 5 ^ k := by
          rw [← Nat.pow_succ, ← Nat.pow_add]; congr 1; omega
        rw [this, Nat.mul_assoc, Nat.mul_assoc, Nat.mul_comm (5 ^ (n - k - 1)), Nat.mul_assoc, Nat.mul_left_comm (f n) 5, Nat.mul_comm (5 ^ k), Nat.mul_assoc]
      rw [e2, Nat.add_mul_div_right _ _ (Nat.pow_pos (by decide))]
      omega
theorem isP_of {n : Nat} {r s : Nat → Nat} (hn : n ≤ 5) (hr : sP n r s) : isP n (cPk n r) = true := by
  have g := cPk_g5 n (fun k hk => Nat.lt_of_lt_of_le (hr k hk).1 hn)
  unfold isP
  rw [jall_iff]
  intro k hk
  rw [Bool.and_eq_true, jall_iff]
  refine ⟨?_, fun i hi => ?_⟩
  · rw [Nat.blt_eq, g k hk]; exact (hr k hk).1
  · rw [g k hk, g i (by omega)]
    cases e : Nat.beq (r i) (r k) with
    | false => rfl
    | true => exact absurd (sP_inj hr (by omega) hk (Nat.eq_of_beq_eq_true e)) (by omega)
theorem cE_eq {f g : Nat → Nat} : ∀ n, (∀ k, k < n → f k = g k) → cE n f = cE n g
  | 0, _ => rfl
  | n + 1, h => by rw [cE, cE, cE_eq n (fun k hk => h k (by omega)), h n (by omega)]
theorem cEnc_eq {n : Nat} {f g f' g' : Nat → Nat} (h : ∀ k, k < n → f k = f' k) (h2 : ∀ k, k < n → g k = g' k) : cEnc n f g = cEnc n f' g' := by
  unfold cEnc
  rw [cE_eq n h, cE_eq n h2]
theorem cE_lt {f : Nat → Nat} : ∀ n, (∀ k, k < n → f k < 5) → 6 * cE n f + 1 ≤ 25 ^ n
  | 0, _ => Nat.le_refl 1
  | n + 1, h => by
    have i := cE_lt n (fun k hk => h k (by omega))
    have h2 := h n (by omega)
    show 6 * (25 * cE n f + f n) + 1 ≤ 25 ^ (n + 1)
    rw [Nat.pow_succ]
    omega
theorem cEnc_lt {n : Nat} {f g : Nat → Nat} (hn : n ≤ 5) (h : ∀ k, k < n → f k < n) (h2 : ∀ k, k < n → g k < n) : cEnc n f g < 25 ^ n := by
  have a := cE_lt n (fun k hk => Nat.lt_of_lt_of_le (h k hk) hn)
  have b := cE_lt n (fun k hk => Nat.lt_of_lt_of_le (h2 k hk) hn)
  show 5 * cE n f + cE n g < 25 ^ n
  omega
def TabOk (n : Nat) (P A : List (Nat × Nat)) (Hm Om w L T p : Nat) : Prop :=
  (∀ c, c < 5 ^ n → isP n c = true → (∃ t, (c, t) ∈ P) ∧ ∃ a, (c, a) ∈ A) ∧ (∀ R a U b, (R, a) ∈ A → (U, b) ∈ A → cCheck n Hm Om w L T p R U a b = true) ∧ (∀ R a, (R, a) ∈ A → fldOk n P R a = true) ∧ Hm = cH P.length ∧ Om = cO P.length ∧ invOk n P = true ∧ w ≤ 161
theorem any_ex {A : List (Nat × Nat)} {c : Nat} (h : A.any (fun q => Nat.beq q.1 c) = true) : ∃ a, (c, a) ∈ A := by
  rw [List.any_eq_true] at h
  obtain ⟨q, h1, h2⟩ := h
  have := Nat.eq_of_beq_eq_true h2
  subst this
  exact ⟨q.2, h1⟩
theorem mem_of {n m : Nat} {P A : List (Nat × Nat)} (h : jall m (fun c => !isP n c || (P.any (fun q => Nat.beq q.1 c) && A.any (fun q => Nat.beq q.1 c))) = true) : ∀ c, c < m → isP n c = true → (∃ t, (c, t) ∈ P) ∧ ∃ a, (c, a) ∈ A := by
  intro c hc hp
  have := jall_at h c hc
  rw [hp, Bool.not_true, Bool.false_or, Bool.and_eq_true] at this
  exact ⟨any_ex this.1, any_ex this.2⟩
theorem fld_of {n : Nat} {P A : List (Nat × Nat)} (h : A.all (fun q => fldOk n P q.1 q.2) = true) : ∀ R a, (R, a) ∈ A → fldOk n P R a = true := by
  intro R a hq
  rw [List.all_eq_true] at h
  exact h _ hq
theorem tab_1 : ∃ Hm Om w L T p, TabOk 1 cP1 cA1 Hm Om w L T p := by
  refine ⟨_, _, _, _, _, _, ?_, fun R a U b h1 h2 => k_all 1 k_1 (by decide +kernel) h1 h2, fld_of fld_1, cH_at.1, cH_at.2.2.2.2.2.1, inv_all.1, by decide⟩
  intro c hc hp
  have := jall_at mem_1 c hc
  rw [hp, Bool.true_and, show Nat.blt c 5 = true by rw [Nat.blt_eq]; exact hc, Bool.not_true, Bool.false_or, Bool.and_eq_true] at this
  exact ⟨any_ex this.1, any_ex this.2⟩
theorem tab_2 : ∃ Hm Om w L T p, TabOk 2 cP2 cA2 Hm Om w L T p :=
  ⟨_, _, _, _, _, _, mem_of mem_2, fun R a U b h1 h2 => k_all 2 k_2 (by decide +kernel) h1 h2, fld_of fld_2, cH_at.2.1, cH_at.2.2.2.2.2.2.1, inv_all.2.1, by decide⟩
theorem tab_3 : ∃ Hm Om w L T p, TabOk 3 cP3 cA3 Hm Om w L T p :=
  ⟨_, _, _, _, _, _, mem_of mem_3, fun R a U b h1 h2 => k_all 6 k_3 (by decide +kernel) h1 h2, fld_of fld_3, cH_at.2.2.1, cH_at.2.2.2.2.2.2.2.1, inv_all.2.2.1, by decide⟩
theorem tab_4 : ∃ Hm Om w L T p, TabOk 4 cP4 cA4 Hm Om w L T p :=
  ⟨_, _, _, _, _, _, mem_of mem_4, fun R a U b h1 h2 => k_all 24 k_4 (by decide +kernel) h1 h2, fld_of fld_4, cH_at.2.2.2.1, cH_at.2.2.2.2.2.2.2.2.1, inv_all.2.2.2.1, by decide⟩
theorem k_5' : ((cA5.drop 0).take 120).all (fun q => cRow5 cA5 q.1 q.2) = true := by
  have : (cA5.drop 0).take 120 = cA5.drop 0 := by decide +kernel
  rw [this]; exact k_5
theorem tab_5 : ∃ Hm Om w L T p, TabOk 5 cP5 cA5 Hm Om w L T p :=
  ⟨_, _, _, _, _, _, mem_of mem_5, fun R a U b h1 h2 => k_all 120 k_5' (by decide +kernel) h1 h2, fld_of fld_5, cH_at.2.2.2.2.1, cH_at.2.2.2.2.2.2.2.2.2, inv_all.2.2.2.2, by decide⟩
theorem tab_n {n : Nat} (h1 : 1 ≤ n) (h5 : n ≤ 5) : ∃ P A Hm Om w L T p, TabOk n P A Hm Om w L T p := by
  have : n = 1 ∨ n = 2 ∨ n = 3 ∨ n = 4 ∨ n = 5 := by omega
  rcases this with rfl | rfl | rfl | rfl | rfl
  · exact ⟨_, _, tab_1⟩
  · exact ⟨_, _, tab_2⟩
  · exact ⟨_, _, tab_3⟩
  · exact ⟨_, _, tab_4⟩
  · exact ⟨_, _, tab_5⟩
/-- the least of all numberings -/
def cBest (n : Nat) (r u : Nat → Nat) (v : Nat) : Prop :=
  (∃ σ τ, sP n σ τ ∧ v = cEnc n (fun i => σ (r (τ i))) (fun i => σ (u (τ i)))) ∧ ∀ σ τ, sP n σ τ → v ≤ cEnc n (fun i => σ (r (τ i))) (fun i => σ (u (τ i)))
theorem cBest_un {n : Nat} {r u : Nat → Nat} {v v' : Nat} (h : cBest n r u v) (h' : cBest n r u v') : v = v' := by
  obtain ⟨⟨σ, τ, a, b⟩, c⟩ := h
  obtain ⟨⟨σ', τ', a', b'⟩, c'⟩ := h'
  have h1 := c σ' τ' a'
  have h2 := c' σ τ a
  omega
theorem c_code {n : Nat} {P A : List (Nat × Nat)} {Hm Om wd L T p : Nat} (hT : TabOk n P A Hm Om wd L T p) {right up : Nat → Int32} {r s u w : Nat → Nat} (hn : n ≤ 5) (hr : sP n r s) (hu : sP n u w) (fr : sR n right r) (fu : sR n up u) (num : Int32) (order number : Nat → Int32) : ∃ v x order' number', jf_Su_leastCode num (nI n) right up order number = some (nI v, x, order', number') ∧ cBest n r u v ∧ cIn wd L T p v = true := by
  have gR := cPk_g5 n (fun k hk => Nat.lt_of_lt_of_le (hr k hk).1 hn)
  have gU := cPk_g5 n (fun k hk => Nat.lt_of_lt_of_le (hu k hk).1 hn)
  have lR := cPk_lt n (fun k hk => Nat.lt_of_lt_of_le (hr k hk).1 hn)
  have lU := cPk_lt n (fun k hk => Nat.lt_of_lt_of_le (hu k hk).1 hn)
  obtain ⟨t1, t2, t3, t4, t5, t6, -⟩ := hT
  obtain ⟨-, a, ha⟩ := t1 _ lR (isP_of hn hr)
  obtain ⟨-, b, hb⟩ := t1 _ lU (isP_of hn hu)
  have hck := t2 _ _ _ _ ha hb
  have fa := t3 _ _ ha
  have fb := t3 _ _ hb
  generalize cPk n r = R at *
  generalize cPk n u = U at *
  obtain ⟨v, M, c, O, N, x, o1, n1, e1, e2⟩ := f_code (R := R) (U := U) (right := right) (up := up) hn (fun k hk => (fr k hk).trans (congrArg nI (gR k hk).symm)) (fun k hk => (fu k hk).trans (congrArg nI (gU k hk).symm)) (fun k hk => by rw [gR k hk]; exact (hr k hk).1) (fun k hk => by rw [gU k hk]; exact (hu k hk).1) num order number
  have hck2 : (cPerm n O N && (Nat.beq v (cEnc n (fun i => g8 N (g5 R (g8 O i))) (fun i => g8 N (g5 U (g8 O i)))) && (Nat.beq (Nat.land (Nat.sub (Nat.add (Nat.add (Nat.mul 5 a) b) Hm) (Nat.mul v Om)) Hm) Hm && cIn wd L T p v))) = true := by
    rw [← hck]
    unfold cCheck
    exact (e2 (fun v _ _ O N => cPerm n O N && (Nat.beq v (cEnc n (fun i => g8 N (g5 R (g8 O i))) (fun i => g8 N (g5 U (g8 O i)))) && (Nat.beq (Nat.land (Nat.sub (Nat.add (Nat.add (Nat.mul 5 a) b) Hm) (Nat.mul v Om)) Hm) Hm && cIn wd L T p v)))).symm
  rw [Bool.and_eq_true, Bool.and_eq_true, Bool.and_eq_true] at hck2
  obtain ⟨c1, c2, c3, c4⟩ := hck2
  have c2 := Nat.eq_of_beq_eq_true c2
  have c3 := Nat.eq_of_beq_eq_true c3
  unfold cPerm at c1
  rw [jall_iff] at c1
  have hσ : sP n (g8 N) (g8 O) := fun k hk => by
    have := c1 k hk
    rw [Bool.and_eq_true, Bool.and_eq_true, Bool.and_eq_true, Nat.blt_eq, Nat.blt_eq] at this
    exact ⟨this.1, this.2.1, Nat.eq_of_beq_eq_true this.2.2.2, Nat.eq_of_beq_eq_true this.2.2.1⟩
  have hv : v = cEnc n (fun i => g8 N (r (g8 O i))) (fun i => g8 N (u (g8 O i))) := by
    rw [c2]
    exact cEnc_eq (fun k hk => by rw [gR _ (hσ k hk).2.1]) (fun k hk => by rw [gU _ (hσ k hk).2.1])
  have hlt : v < 25 ^ n := by
    rw [hv]
    exact cEnc_lt hn (fun k hk => (hσ _ (hr _ (hσ k hk).2.1).1).1) (fun k hk => (hσ _ (hu _ (hσ k hk).2.1).1).1)
  have h5 := f_pow5 hn hlt
  refine ⟨v, x, o1, n1, e1, ⟨⟨g8 N, g8 O, hσ, hv⟩, fun σ τ hs => ?_⟩, c4⟩
  have gS := cPk_g5 n (fun k hk => Nat.lt_of_lt_of_le (hs k hk).1 hn)
  obtain ⟨⟨t, ht⟩, -⟩ := t1 _ (cPk_lt n (fun k hk => Nat.lt_of_lt_of_le (hs k hk).1 hn)) (isP_of hn hs)
  generalize cPk n σ = S at *
  rw [t4, t5] at c3
  have hsim := simd n v R U (by omega) P a b fa fb c3 _ ht
  have htau : ∀ k, k < n → g5 t k = τ k := fun k hk => by
    unfold invOk at t6
    rw [List.all_eq_true] at t6
    have := jall_at (t6 _ ht) k hk
    rw [Bool.and_eq_true, Bool.and_eq_true, Bool.and_eq_true, Nat.blt_eq, Nat.blt_eq] at this
    have q1 : g5 t k < n := this.2.1
    have q2 : g5 S (g5 t k) = k := Nat.eq_of_beq_eq_true this.2.2.1
    rw [gS _ q1] at q2
    have q3 := (hs _ q1).2.2.2
    rw [q2] at q3
    exact q3.symm
  have f1 : cE n (fun k => g5 S (g5 R (g5 t k))) = cE n (fun i => σ (r (τ i))) := cE_eq n (fun k hk => by
    rw [htau k hk, gR _ (hs k hk).2.1, gS _ (hr _ (hs k hk).2.1).1])
  have f2 : cE n (fun k => g5 S (g5 U (g5 t k))) = cE n (fun i => σ (u (τ i))) := cE_eq n (fun k hk => by
    rw [htau k hk, gU _ (hs k hk).2.1, gS _ (hu _ (hs k hk).2.1).1])
  rw [f1, f2] at hsim
  exact hsim

