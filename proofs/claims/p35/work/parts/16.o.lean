theorem jPm_mk {n : Nat} {f : Nat → Int32} (r s : Nat → Nat) (h : ∀ k, k < n → r k < n ∧ s k < n ∧ r (s k) = k ∧ s (r k) = k) (hf : ∀ k, k < n → f k = nI (r k)) : ∃ g, jPm n f g :=
  ⟨fun k => nI (s k), r, s, fun k hk => ⟨(h k hk).1, (h k hk).2.1, (h k hk).2.2.1, (h k hk).2.2.2, hf k hk, rfl⟩⟩
theorem jPm_swap {n : Nat} {f g : Nat → Int32} (hp : jPm n f g) {a b : Nat} (ha : a < n) (hb : b < n) : ∃ g', jPm n (upd (upd f a (f b)) b (f a)) g' := by
  obtain ⟨r, s, h⟩ := hp
  refine jPm_mk (fun k => if k = b then r a else if k = a then r b else r k) (fun v => if s v = a then b else if s v = b then a else s v) (fun k hk => ?_) (fun k hk => ?_)
  · have h1 := h k hk; have h2 := h a ha; have h3 := h b hb
    refine ⟨?_, ?_, ?_, ?_⟩
    · show (if k = b then r a else if k = a then r b else r k) < n
      split
      · exact h2.1
      · split
        · exact h3.1
        · exact h1.1
    · show (if s k = a then b else if s k = b then a else s k) < n
      split
      · exact hb
      · split
        · exact ha
        · exact h1.2.1
    · show (if (if s k = a then b else if s k = b then a else s k) = b then r a else if (if s k = a then b else if s k = b then a else s k) = a then r b else r (if s k = a then b else if s k = b then a else s k)) = k
      by_cases c1 : s k = a
      · rw [if_pos c1, if_pos rfl, ← c1]; exact h1.2.2.1
      · rw [if_neg c1]
        by_cases c2 : s k = b
        · rw [if_pos c2]
          by_cases c3 : a = b
          · rw [if_pos c3, c3, ← c2]; exact h1.2.2.1
          · rw [if_neg c3, if_pos rfl, ← c2]; exact h1.2.2.1
        · rw [if_neg c2, if_neg c2, if_neg c1]; exact h1.2.2.1
    · show (if s (if k = b then r a else if k = a then r b else r k) = a then b else if s (if k = b then r a else if k = a then r b else r k) = b then a else s (if k = b then r a else if k = a then r b else r k)) = k
      by_cases c1 : k = b
      · rw [if_pos c1, h2.2.2.2.1, if_pos rfl, c1]
      · rw [if_neg c1]
        by_cases c2 : k = a
        · rw [if_pos c2, h3.2.2.2.1, if_pos rfl]
          by_cases c3 : b = a
          · exact absurd (c2.trans c3.symm) c1
          · rw [if_neg c3, c2]
        · rw [if_neg c2, h1.2.2.2.1, if_neg c2, if_neg c1]
  · show upd (upd f a (f b)) b (f a) k = nI (if k = b then r a else if k = a then r b else r k)
    by_cases c1 : k = b
    · rw [if_pos c1, c1, upd_at]; exact (h a ha).2.2.2.2.1
    · rw [if_neg c1, upd_ne _ _ c1]
      by_cases c2 : k = a
      · rw [if_pos c2, c2, upd_at]; exact (h b hb).2.2.2.2.1
      · rw [if_neg c2, upd_ne _ _ c2]; exact (h k hk).2.2.2.2.1
theorem upd_eq {f g : Nat → Int32} {k : Nat} {x y : Int32} {j : Nat} (h : j ≠ k → f j = g j) (e : x = y) : upd f k x j = upd g k y j := by
  unfold upd
  split
  · exact e
  · rename_i c; exact h c
