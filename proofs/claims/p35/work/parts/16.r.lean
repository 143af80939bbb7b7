/-- a sum with two places exchanged -/
theorem xS_upd {f g : Nat → Nat} {a n : Nat} (ha : a < n) (h : ∀ k, k < n → k ≠ a → f k = g k) : xS f n + g a = xS g n + f a := by
  induction n with
  | zero => omega
  | succ n ih =>
    rw [xS, xS]
    by_cases c : a = n
    · subst c
      have : xS f a = xS g a := xS_eq fun k hk => h k (by omega) (by omega)
      omega
    · have h1 := ih (by omega) (fun k hk => h k (by omega))
      have h2 := h n (by omega) (fun e => c e.symm)
      omega
theorem xS_perm : ∀ (n : Nat) (r s : Nat → Nat) (g : Nat → Nat), (∀ k, k < n → r k < n ∧ s k < n ∧ r (s k) = k ∧ s (r k) = k) → xS (fun k => g (r k)) n = xS g n
  | 0, _, _, _, _ => rfl
  | n + 1, r, s, g, h => by
    obtain ⟨a1, a2, a3, a4⟩ := h n (by omega)
    -- a = s n: r a = n
    have hr' : ∀ k, k < n → (if k = s n then r n else r k) < n := by
      intro k hk
      split
      · rename_i e
        have h1 : r n ≠ n := fun e2 => by rw [e2] at a4; omega
        omega
      · rename_i e
        have h1 := h k (by omega)
        have h2 : r k ≠ n := fun e2 => by have := h1.2.2.2; rw [e2] at this; exact e this.symm
        have := h1.1
        omega
    have hs' : ∀ k, k < n → (if k = r n then s n else s k) < n := by
      intro k hk
      split
      · rename_i e
        have h1 : s n ≠ n := fun e2 => by rw [e2] at a3; omega
        omega
      · rename_i e
        have h1 := h k (by omega)
        have h2 : s k ≠ n := fun e2 => by have := h1.2.2.1; rw [e2] at this; exact e this.symm
        have := h1.2.1
        omega
    have ih := xS_perm n (fun k => if k = s n then r n else r k) (fun k => if k = r n then s n else s k) g (fun k hk => by
      have h1 := h k (by omega)
      refine ⟨hr' k hk, hs' k hk, ?_, ?_⟩
      · show (if (if k = r n then s n else s k) = s n then r n else r (if k = r n then s n else s k)) = k
        by_cases c : k = r n
        · rw [if_pos c, if_pos rfl, c]
        · rw [if_neg c, if_neg (fun e => by have := congrArg r e; rw [h1.2.2.1, a3] at this; omega)]
          exact h1.2.2.1
      · show (if (if k = s n then r n else r k) = r n then s n else s (if k = s n then r n else r k)) = k
        by_cases c : k = s n
        · rw [if_pos c, if_pos rfl, c]
        · rw [if_neg c, if_neg (fun e => by have := congrArg s e; rw [h1.2.2.2, a4] at this; omega)]
          exact h1.2.2.2)
    rw [xS, xS, ← ih]
    by_cases c : s n = n
    · have e1 : r n = n := by rw [c] at a3; exact a3
      have e2 : xS (fun k => g (r k)) n = xS (fun k => g (if k = s n then r n else r k)) n := xS_eq fun k hk => by rw [if_neg (by omega)]
      rw [e1] at e2 ⊢
      omega
    · have := xS_upd (f := fun k => g (r k)) (g := fun k => g (if k = s n then r n else r k)) (a := s n) (n := n) (by omega) (fun k hk hne => by show g (r k) = g (if k = s n then r n else r k); rw [if_neg hne])
      simp only [if_true, a3] at this
      omega

