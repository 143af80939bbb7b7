/-! the EXCHANGE -/
def xS (g : Nat → Nat) : Nat → Nat
  | 0 => 0
  | k + 1 => xS g k + g k
theorem xS_le {g : Nat → Nat} {n M : Nat} (h : ∀ k, k < n → g k ≤ M) : ∀ k, k ≤ n → xS g k ≤ M * k
  | 0, _ => Nat.zero_le _
  | k + 1, hk => by
    have := xS_le h k (by omega)
    have := h k (by omega)
    rw [xS, Nat.mul_succ]; omega
theorem xS_mono (g : Nat → Nat) (k : Nat) : ∀ j, xS g k ≤ xS g (k + j)
  | 0 => Nat.le_refl _
  | j + 1 => by have := xS_mono g k j; rw [← Nat.add_assoc, xS]; omega
theorem xS_eq {f g : Nat → Nat} {n : Nat} (h : ∀ k, k < n → f k = g k) : xS f n = xS g n := by
  induction n with
  | zero => rfl
  | succ n ih => rw [xS, xS, ih (fun k hk => h k (by omega)), h n (by omega)]
theorem xc_points {n : Nat} {len : Nat → Int32} {L : Nat → Nat} (hn : n ≤ 6) (hL : ∀ k, k < n → len k = nI (L k)) : jf_Ex_points (nI n) len = some (nI (xS L n)) := by
  have key : ∀ j m k, k + j = n → j < m → jf_Ex_points_L4 (nI n) len m (nI (xS L k)) (nI k) = some (nI (xS L n)) := by
    intro j
    induction j with
    | zero =>
      intro m k e hm
      obtain ⟨q, rfl⟩ : ∃ q, m = q + 1 := ⟨m - 1, by omega⟩
      have : k = n := by omega
      subst this
      rw [jf_Ex_points_L4, if_pos (nI_le (Nat.le_refl k) (by omega))]
    | succ j ih =>
      intro m k e hm
      obtain ⟨q, rfl⟩ : ∃ q, m = q + 1 := ⟨m - 1, by omega⟩
      rw [jf_Ex_points_L4, if_neg (nI_ge (by omega) (by omega)), jat_nI len (by omega) (by decide), hL k (by omega)]
      simp only [jlet]
      rw [nI_add, nI_1]
      exact ih q (k + 1) (by omega) (by omega)
  unfold jf_Ex_points
  have := key n jF 0 (by omega) (jF_gt (by omega))
  show Option.bind (jf_Ex_points_L4 (nI n) len jF (nI (xS L 0)) (nI 0)) _ = _
  rw [this]; rfl
