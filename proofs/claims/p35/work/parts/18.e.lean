/-! the model's parts -/
/-- the numbers met within t steps -/
def sO (g : Nat → Nat) (k : Nat) : Nat → Nat → Bool
  | 0, _ => false
  | t + 1, z => sO g k t z || (z == jit g t k)
theorem sO_iff (g : Nat → Nat) (k z : Nat) : ∀ t, sO g k t z = true ↔ ∃ i, i < t ∧ z = jit g i k
  | 0 => ⟨fun h => (by cases h), fun ⟨i, h, _⟩ => absurd h (Nat.not_lt_zero _)⟩
  | t + 1 => by
    rw [sO, Bool.or_eq_true, sO_iff g k z t, beq_iff_eq]
    constructor
    · rintro (⟨i, h1, h2⟩ | h2)
      · exact ⟨i, by omega, h2⟩
      · exact ⟨t, by omega, h2⟩
    · rintro ⟨i, h1, h2⟩
      by_cases c : i = t
      · subst c; exact Or.inr h2
      · exact Or.inl ⟨i, by omega, h2⟩
theorem s_per {n : Nat} {g g' : Nat → Nat} (hg : sP n g g') {k : Nat} (hk : k < n) : ∃ p, jPer g k p ∧ p ≤ n :=
  jper_ex (P := fun x => x < n) (g := g') (fun x h => (hg x h).1) (fun x h => (hg x h).2.2.2) (fun x h => h) hk
theorem s_itlt {n : Nat} {g g' : Nat → Nat} (hg : sP n g g') {k : Nat} (hk : k < n) (t : Nat) : jit g t k < n := jit_P (P := fun x => x < n) (fun x h => (hg x h).1) hk t
theorem sO_rel {n p : Nat} {g g' : Nat → Nat} {E : Nat → List Nat} (hg : sP n g g') (hE : ∀ a, a < n → E a = [g a]) {k : Nat} (hk : k < n) (hp : jPer g k p) {x : Nat} (hx : x < n) : sO g k p x = true ↔ sRel n E k x := by
  constructor
  · intro h S hS
    obtain ⟨i, h1, rfl⟩ := (sO_iff g k x p).1 h
    clear h h1 hx
    induction i with
    | zero => rfl
    | succ i ih =>
      rw [ih]
      have a := s_itlt hg hk i
      exact hS _ a _ (by rw [hE _ a]; exact List.mem_singleton.2 rfl)
  · intro h
    have hc : sClosed n E (sO g k p) := by
      intro a ha b hb
      rw [hE a ha, List.mem_singleton] at hb
      subst hb
      rw [Bool.eq_iff_iff, sO_iff, sO_iff]
      constructor
      · rintro ⟨i, h1, h2⟩
        have e : g a = jit g (i + 1) k := by rw [h2]; rfl
        by_cases c : i + 1 = p
        · exact ⟨0, hp.1, by rw [e, c, hp.2.1]; rfl⟩
        · exact ⟨i + 1, by omega, e⟩
      · rintro ⟨i, h1, h2⟩
        have inj : ∀ y, y < n → g a = g y → a = y := fun y hy e => sP_inj hg ha hy e
        cases i with
        | zero =>
          have p1 := hp.1
          obtain ⟨q, rfl⟩ : ∃ q, p = q + 1 := ⟨p - 1, by omega⟩
          refine ⟨q, by omega, inj _ (s_itlt hg hk q) ?_⟩
          rw [h2]
          exact hp.2.1.symm
        | succ i => exact ⟨i, by omega, inj _ (s_itlt hg hk i) h2⟩
    have h0 : sO g k p k = true := (sO_iff g k k p).2 ⟨0, hp.1, rfl⟩
    rw [← h _ hc]
    exact h0
