/-- a step backwards -/
def rNs (s : Nat) : Nat := if s / 64 % 4 = 0 then (if s % 8 = 0 then 64 else s % 64 - 1) else if s / 64 % 4 = 1 then (if s % 64 < 8 then 64 else s % 64 - 8) else if s / 64 % 4 = 2 then (if s % 8 = 7 then 64 else s % 64 + 1) else (if 56 ≤ s % 64 then 64 else s % 64 + 8)
def rBs (s : Nat) : Nat := if s / 64 % 2 = 0 then (if s < 256 then 3 else 1) else (if s < 256 then 2 else 0)
def rBst (s : Nat) : Nat := s % 64 + 64 * rBs s + (if s / 64 % 4 < 2 then 0 else 256)
def rBgo (s : Nat) : Nat := rNs s + 64 * rBs s + (if s / 64 % 4 < 2 then 256 else 0)
def rBh (B : Nat → Bool) (s : Nat) : Bool := rNs s == 64 || B (rNs s)
def rB (B : Nat → Bool) (s : Nat) : Nat := if rBh B s then rBst s else rBgo s
theorem rb_form (b : Int64) : ∀ s, s < 512 → jf_Ro_sideOf (nI s) = nI (s / 64 % 4) ∧ (jf_Ro_isAcrossX (nI (s / 64 % 4)) = if s / 64 % 2 = 0 then 1 else 0) ∧ (jf_Ro_isUpOf (nI s) = if s < 256 then 0 else 1) := jall_of (by decide +kernel)
theorem rb_cell : ∀ s, s < 512 → jf_Bi_isCell (jf_Ro_xBehind (nI s) (nI (s / 64 % 4))) (jf_Ro_yBehind (nI s) (nI (s / 64 % 4))) = if rNs s = 64 then 0 else 1 := jall_of (by decide +kernel)
theorem rb_nb : ∀ s, s < 512 → rNs s = 64 ∨ rNs s < 64 ∧ (jf_Ro_xBehind (nI s) (nI (s / 64 % 4))) + 8 * (jf_Ro_yBehind (nI s) (nI (s / 64 % 4))) = nI (rNs s) := jall_of (by decide +kernel)
theorem rb_go : ∀ s, s < 512 → rNs s = 64 ∨ jf_Ro_stateOf (jf_Ro_xBehind (nI s) (nI (s / 64 % 4))) (jf_Ro_yBehind (nI s) (nI (s / 64 % 4))) (nI (rBs s)) (jf_Ro_isLow (nI (s / 64 % 4))) = nI (rBgo s) := jall_of (by decide +kernel)
theorem rb_stay : ∀ s, s < 512 → (if jf_Ro_isLow (nI (s / 64 % 4)) = 0 then jf_Ro_before_b66 (jf_Ro_xOf (nI s)) (jf_Ro_yOf (nI s)) (nI (rBs s)) 1 else jf_Ro_before_b66 (jf_Ro_xOf (nI s)) (jf_Ro_yOf (nI s)) (nI (rBs s)) 0) = nI (rBst s) := jall_of (by decide +kernel)
theorem rb_behind (b : Int64) {s : Nat} (hs : s < 512) : jf_Ro_isBlockBehind b (nI s) (nI (s / 64 % 4)) = if rBh (jbit b) s then 1 else 0 := by
  unfold jf_Ro_isBlockBehind
  rcases rb_nb s hs with h | ⟨h, e⟩
  · have hc := rb_cell s hs
    rw [if_pos h] at hc
    have e2 : rBh (jbit b) s = true := by rw [rBh, h]; rfl
    unfold jf_Ro_isBlock
    rw [hc, if_pos rfl, e2]
    decide
  · have hc := rb_cell s hs
    rw [if_neg (by omega)] at hc
    have e2 : rBh (jbit b) s = jbit b (rNs s) := by
      have : (rNs s == 64) = false := by rw [beq_eq_false_iff_ne]; omega
      rw [rBh, this, Bool.false_or]
    rw [rc_block b hc h e, e2, jb01]
theorem rc_before (b : Int64) {s : Nat} (hs : s < 512) : jf_Ro_before b (nI s) = nI (rB (jbit b) s) := by
  have h33 : jf_Ro_before b (nI s) = jf_Ro_before_b33 b (nI s) (nI (s / 64 % 4)) (nI (rBs s)) := by
    obtain ⟨h1, h2, h3⟩ := rb_form b s hs
    unfold jf_Ro_before jf_Ro_before_b17
    simp only [jlet, h1, h2, h3]
    have e : rBs s = if s / 64 % 2 = 0 then (if s < 256 then 3 else 1) else (if s < 256 then 2 else 0) := rfl
    by_cases c1 : s / 64 % 2 = 0
    · by_cases c2 : s < 256
      · simp only [if_pos c1, if_pos c2] at e ⊢; rw [e]; rfl
      · simp only [if_pos c1, if_neg c2] at e ⊢; rw [e]; rfl
    · by_cases c2 : s < 256
      · simp only [if_neg c1, if_pos c2] at e ⊢; rw [e]; rfl
      · simp only [if_neg c1, if_neg c2] at e ⊢; rw [e]; rfl
  rw [h33]
  unfold jf_Ro_before_b33
  rw [rb_behind b hs]
  cases h : rBh (jbit b) s with
  | true =>
    rw [if_neg (by decide), rb_stay s hs, rB, h]; rfl
  | false =>
    rw [if_pos (by decide), rB, h]
    rcases rb_go s hs with e | e
    · have : rBh (jbit b) s = true := by rw [rBh, e]; rfl
      rw [this] at h; cases h
    · exact e
theorem rab1 : ∀ s, s < 512 → rNb (rBst s) = rNs s ∧ rStay (rBst s) = s ∧ rBst s < 512 ∧ rBst s % 64 = s % 64 ∧ (rNs s = 64 ∨ rNb (rBgo s) = s % 64 ∧ rGo (rBgo s) = s ∧ rBgo s < 512 ∧ rBgo s % 64 = rNs s) := jall_of (by decide +kernel)
theorem rab2 : ∀ s, s < 512 → rNs (rStay s) = rNb s ∧ rBst (rStay s) = s ∧ rStay s < 512 ∧ rStay s % 64 = s % 64 ∧ (rNb s = 64 ∨ rNs (rGo s) = s % 64 ∧ rBgo (rGo s) = s ∧ rGo s < 512 ∧ rGo s % 64 = rNb s) := jall_of (by decide +kernel)
/-- a state on a floor -/
def rF (B : Nat → Bool) (s : Nat) : Prop := s < 512 ∧ B (s % 64) = false
theorem rNb_ne {s : Nat} {B : Nat → Bool} (h : rHit B s = false) : rNb s ≠ 64 ∧ B (rNb s) = false := by
  rw [rHit, Bool.or_eq_false_iff, beq_eq_false_iff_ne] at h; exact h
theorem rNs_ne {s : Nat} {B : Nat → Bool} (h : rBh B s = false) : rNs s ≠ 64 ∧ B (rNs s) = false := by
  rw [rBh, Bool.or_eq_false_iff, beq_eq_false_iff_ne] at h; exact h
theorem rA_F {B : Nat → Bool} {s : Nat} (h : rF B s) : rF B (rA B s) := by
  obtain ⟨a, b, c, d, e⟩ := rab2 s h.1
  unfold rA
  cases k : rHit B s with
  | true => exact ⟨c, by show B (rStay s % 64) = false; rw [d]; exact h.2⟩
  | false =>
    obtain ⟨k1, k2⟩ := rNb_ne k
    rcases e with e | ⟨e1, e2, e3, e4⟩
    · exact absurd e k1
    · exact ⟨e3, by show B (rGo s % 64) = false; rw [e4]; exact k2⟩
theorem rB_F {B : Nat → Bool} {s : Nat} (h : rF B s) : rF B (rB B s) := by
  obtain ⟨a, b, c, d, e⟩ := rab1 s h.1
  unfold rB
  cases k : rBh B s with
  | true => exact ⟨c, by show B (rBst s % 64) = false; rw [d]; exact h.2⟩
  | false =>
    obtain ⟨k1, k2⟩ := rNs_ne k
    rcases e with e | ⟨e1, e2, e3, e4⟩
    · exact absurd e k1
    · exact ⟨e3, by show B (rBgo s % 64) = false; rw [e4]; exact k2⟩
theorem rAB {B : Nat → Bool} {s : Nat} (h : rF B s) : rA B (rB B s) = s := by
  obtain ⟨a, b, c, d, e⟩ := rab1 s h.1
  unfold rB
  cases k : rBh B s with
  | true =>
    show rA B (rBst s) = s
    have : rHit B (rBst s) = rBh B s := by unfold rHit rBh; rw [a]
    rw [rA, this, k]; exact b
  | false =>
    show rA B (rBgo s) = s
    obtain ⟨k1, k2⟩ := rNs_ne k
    rcases e with e | ⟨e1, e2, e3, e4⟩
    · exact absurd e k1
    · have : rHit B (rBgo s) = false := by rw [rHit, e1, h.2, Bool.or_false, beq_eq_false_iff_ne]; omega
      rw [rA, this]; exact e2
theorem rBA {B : Nat → Bool} {s : Nat} (h : rF B s) : rB B (rA B s) = s := by
  obtain ⟨a, b, c, d, e⟩ := rab2 s h.1
  unfold rA
  cases k : rHit B s with
  | true =>
    show rB B (rStay s) = s
    have : rBh B (rStay s) = rHit B s := by unfold rHit rBh; rw [a]
    rw [rB, this, k]; exact b
  | false =>
    show rB B (rGo s) = s
    obtain ⟨k1, k2⟩ := rNb_ne k
    rcases e with e | ⟨e1, e2, e3, e4⟩
    · exact absurd e k1
    · have : rBh B (rGo s) = false := by rw [rBh, e1, h.2, Bool.or_false, beq_eq_false_iff_ne]; omega
      rw [rB, this]; exact e2
/-! what goes round -/
theorem jphp : ∀ (n : Nat) (f : Nat → Nat), (∀ i, i ≤ n → f i < n) → ∃ i j, i < j ∧ j ≤ n ∧ f i = f j
  | 0, f, h => absurd (h 0 (Nat.le_refl 0)) (Nat.not_lt_zero _)
  | n + 1, f, h => by
    by_cases c : ∃ i, i ≤ n ∧ f i = f (n + 1)
    · obtain ⟨i, hi, e⟩ := c
      exact ⟨i, n + 1, by omega, Nat.le_refl _, e⟩
    · have c2 : ∀ i, i ≤ n → f i ≠ f (n + 1) := fun i hi e => c ⟨i, hi, e⟩
      obtain ⟨i, j, hij, hj, e⟩ := jphp n (fun i => if f i = n then f (n + 1) else f i) (fun i hi => by
        have h1 := h i (by omega)
        have h2 := h (n + 1) (Nat.le_refl _)
        have h3 := c2 i hi
        show (if f i = n then f (n + 1) else f i) < n
        split <;> omega)
      refine ⟨i, j, hij, by omega, ?_⟩
      have h3 := c2 i (by omega)
      have h4 := c2 j hj
      split at e <;> split at e <;> first | omega | exact e | exact absurd e.symm h4 | exact absurd e h3
/-- f, k times -/
def jit (f : Nat → Nat) : Nat → Nat → Nat
  | 0, s => s
  | k + 1, s => f (jit f k s)
theorem jit_add (f : Nat → Nat) (a b s : Nat) : jit f (a + b) s = jit f a (jit f b s) := by
  induction a with
  | zero => rw [Nat.zero_add]; rfl
  | succ a ih => rw [Nat.succ_add]; show f (jit f (a + b) s) = _; rw [ih]; rfl
theorem jit_P {f : Nat → Nat} {P : Nat → Prop} (hP : ∀ s, P s → P (f s)) {s : Nat} (h : P s) : ∀ k, P (jit f k s)
  | 0 => h
  | k + 1 => hP _ (jit_P hP h k)
theorem jit_inv {f g : Nat → Nat} {P : Nat → Prop} (hP : ∀ s, P s → P (f s)) (hg : ∀ s, P s → g (f s) = s) {s : Nat} (h : P s) (k : Nat) : jit g k (jit f k s) = s := by
  induction k generalizing s with
  | zero => rfl
  | succ k ih =>
    rw [jit_add g k 1]
    show jit g k (g (f (jit f k s))) = s
    rw [hg _ (jit_P hP h k)]
    exact ih h
theorem jleast {P : Nat → Prop} [∀ k, Decidable (P k)] : ∀ n, P n → ∃ m, m ≤ n ∧ P m ∧ ∀ k, k < m → ¬ P k
  | n, h => by
    induction n using Nat.strongRecOn with
    | _ n ih =>
      by_cases c : ∃ k, k < n ∧ P k
      · obtain ⟨k, hk, hp⟩ := c
        obtain ⟨m, h1, h2, h3⟩ := ih k hk hp
        exact ⟨m, by omega, h2, h3⟩
      · exact ⟨n, Nat.le_refl n, h, fun k hk hp => c ⟨k, hk, hp⟩⟩
/-- the period of s under f -/
def jPer (f : Nat → Nat) (s p : Nat) : Prop := 1 ≤ p ∧ jit f p s = s ∧ ∀ k, 1 ≤ k → k < p → jit f k s ≠ s
theorem jper_ex {f g : Nat → Nat} {P : Nat → Prop} {N : Nat} (hP : ∀ s, P s → P (f s)) (hg : ∀ s, P s → g (f s) = s) (hN : ∀ s, P s → s < N) {s : Nat} (h : P s) : ∃ p, jPer f s p ∧ p ≤ N := by
  obtain ⟨i, j, hij, hj, e⟩ := jphp N (fun k => jit f k s) (fun k _ => hN _ (jit_P hP h k))
  have e2 : jit f (j - i) s = s := by
    have h1 : jit f j s = jit f i (jit f (j - i) s) := by rw [← jit_add]; congr 1; omega
    have h2 := jit_inv hP hg (jit_P hP h (j - i)) i
    rw [← h1, ← e, jit_inv hP hg h i] at h2
    exact h2.symm
  obtain ⟨m, h1, ⟨h2, h3⟩, h4⟩ := jleast (P := fun k => 1 ≤ k ∧ jit f k s = s) (j - i) ⟨by omega, e2⟩
  exact ⟨m, ⟨h2, h3, fun k k1 k2 k3 => h4 k k2 ⟨k1, k3⟩⟩, by omega⟩
theorem jper_back {f g : Nat → Nat} {P : Nat → Prop} (hP : ∀ s, P s → P (f s)) (hPg : ∀ s, P s → P (g s)) (hg : ∀ s, P s → g (f s) = s) (hf : ∀ s, P s → f (g s) = s) {s p : Nat} (h : P s) (hp : jPer f s p) : jPer g s p := by
  refine ⟨hp.1, ?_, fun k k1 k2 e => hp.2.2 k k1 k2 ?_⟩
  · have := jit_inv hP hg h p
    rw [hp.2.1] at this; exact this
  · have := jit_inv hPg hf h k
    rw [e] at this; exact this

