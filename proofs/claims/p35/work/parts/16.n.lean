theorem jPm_in {n : Nat} {f h : Nat → Int32} (hp : jPm n f h) {k : Nat} (hk : k < n) : ∃ a, a < n ∧ f k = nI a := by
  obtain ⟨r, s, hh⟩ := hp
  exact ⟨r k, (hh k hk).1, (hh k hk).2.2.2.2.1⟩
