theorem sP_same {n : Nat} {σ τ σ' τ' : Nat → Nat} (h : sP n σ τ) (h' : sP n σ' τ') (e : ∀ k, k < n → σ k = σ' k) : ∀ k, k < n → τ k = τ' k := fun k hk => by
  have a := h k hk
  have b := h' k hk
  apply sP_inj h a.2.1 b.2.1
  rw [a.2.2.1, e _ b.2.1, b.2.2.1]
