theorem jPm_grow {n : Nat} {f g : Nat → Int32} (hp : jPm n f g) : ∃ g', jPm (n + 1) (upd f n (nI n)) g' := by
  obtain ⟨r, s, h⟩ := hp
  refine jPm_mk (fun k => if k = n then n else r k) (fun k => if k = n then n else s k) (fun k hk => ?_) (fun k hk => ?_)
  · by_cases c : k = n
    · subst c
      simp
    · have h1 := h k (by omega)
      simp only [if_neg c]
      refine ⟨by omega, by omega, ?_, ?_⟩
      · rw [if_neg (by omega)]; exact h1.2.2.1
      · rw [if_neg (by omega)]; exact h1.2.2.2.1
  · show upd f n (nI n) k = nI (if k = n then n else r k)
    by_cases c : k = n
    · rw [if_pos c, c, upd_at]
    · rw [if_neg c, upd_ne _ _ c]; exact (h k (by omega)).2.2.2.2.1
