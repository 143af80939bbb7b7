/-! the model's code -/
def sFind (f : Nat → Nat) (z : Nat) : Nat → Nat
  | 0 => 0
  | k + 1 => if f k = z then k else sFind f z k
theorem sFind_at {f : Nat → Nat} {z : Nat} : ∀ n, (∃ k, k < n ∧ f k = z) → sFind f z n < n ∧ f (sFind f z n) = z
  | 0, ⟨k, hk, _⟩ => absurd hk (Nat.not_lt_zero _)
  | n + 1, ⟨k, hk, e⟩ => by
    rw [sFind]
    by_cases c : f n = z
    · rw [if_pos c]; exact ⟨Nat.lt_succ_self n, c⟩
    · rw [if_neg c]
      have := sFind_at n ⟨k, by
        by_cases d : k = n
        · subst d; exact absurd e c
        · omega, e⟩
      exact ⟨by omega, this.2⟩
theorem inj_perm {n : Nat} {σ : Nat → Nat} (h : ∀ k, k < n → σ k < n) (h2 : ∀ i k, i < k → k < n → σ i ≠ σ k) : ∃ τ, sP n σ τ := by
  have hit : ∀ z, z < n → ∃ k, k < n ∧ σ k = z := by
    intro z hz
    by_cases c : ∃ k, k < n ∧ σ k = z
    · exact c
    · have c2 : ∀ k, k < n → σ k ≠ z := fun k hk e => c ⟨k, hk, e⟩
      obtain ⟨m, rfl⟩ : ∃ m, n = m + 1 := ⟨n - 1, by omega⟩
      obtain ⟨i, j, hij, hj, e⟩ := jphp m (fun i => if z < σ i then σ i - 1 else σ i) (fun i hi => by
        have := h i (by omega)
        have := c2 i (by omega)
        show (if z < σ i then σ i - 1 else σ i) < m
        split <;> omega)
      have a1 := c2 i (by omega)
      have a2 := c2 j (by omega)
      have a3 := h2 i j hij (by omega)
      exact absurd (show σ i = σ j by split at e <;> split at e <;> omega) a3
  have inj : ∀ i k, i < n → k < n → σ i = σ k → i = k := fun i k hi hk e => by
    by_cases c : i < k
    · exact absurd e (h2 i k c hk)
    · by_cases d : k < i
      · exact absurd e.symm (h2 k i d hi)
      · omega
  refine ⟨fun z => sFind σ z n, fun k hk => ?_⟩
  have a := sFind_at n (hit k hk)
  have b := sFind_at n (hit (σ k) (h k hk))
  exact ⟨h k hk, a.1, a.2, inj _ _ b.1 hk b.2⟩
