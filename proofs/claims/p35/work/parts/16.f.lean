/-- k steps from s: class and model -/
theorem rc_walk (b : Int64) {s m : Nat} (h : rF (jbit b) s) (hm : m < 2 ^ 31) : ∀ j n k, k + j = m → j < n → jf_Ro_stateBehind_L25 b (nI m) n (nI (jit (rA (jbit b)) k s)) (nI k) = some (nI (jit (rA (jbit b)) m s)) := by
  intro j
  induction j with
  | zero =>
    intro n k e hn
    obtain ⟨q, rfl⟩ : ∃ q, n = q + 1 := ⟨n - 1, by omega⟩
    have : k = m := by omega
    subst this
    rw [jf_Ro_stateBehind_L25, if_pos (nI_le (Nat.le_refl k) hm)]
  | succ j ih =>
    intro n k e hn
    obtain ⟨q, rfl⟩ : ∃ q, n = q + 1 := ⟨n - 1, by omega⟩
    rw [jf_Ro_stateBehind_L25, if_neg (nI_ge (by omega) hm)]
    simp only [jlet]
    rw [rc_after b (rA_it h k).1, nI_1]
    exact ih q (k + 1) (by omega) (by omega)
