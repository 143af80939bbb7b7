/-! the EXCHANGE -/
def xS (g : Nat → Nat) : Nat → Nat
  | 0 => 0
  | k + 1 => xS g k + g k
theorem xS_le {g : Nat → Nat} {n M : Nat} (h : ∀ k, k < n → g k ≤ M) : ∀ k, k ≤ n → xS g k ≤ M * k
  | 0, _ => Nat.zero_le _
  | k + 1, hk => by
    have := xS_le h k (by omega)
    have := h k (by omega)
    rw [xS, Nat.mul_succ]; omega
theorem xS_mono (g : Nat → Nat) (k : Nat) : ∀ j, xS g k ≤ xS g (k + j)
  | 0 => Nat.le_refl _
  | j + 1 => by have := xS_mono g k j; rw [← Nat.add_assoc, xS]; omega
theorem xS_eq {f g : Nat → Nat} {n : Nat} (h : ∀ k, k < n → f k = g k) : xS f n = xS g n := by
  induction n with
  | zero => rfl
  | succ n ih => rw [xS, xS, ih (fun k hk => h k (by omega)), h n (by omega)]
theorem xc_points {n : Nat} {len : Nat → Int32} {L : Nat → Nat} (hn : n ≤ 6) (hL : ∀ k, k < n → len k = nI (L k)) : jf_Ex_points (nI n) len = some (nI (xS L n)) := by
  have key : ∀ j m k, k + j = n → j < m → jf_Ex_points_L4 (nI n) len m (nI (xS L k)) (nI k) = some (nI (xS L n)) := by
    intro j
    induction j with
    | zero =>
      intro m k e hm
      obtain ⟨q, rfl⟩ : ∃ q, m = q + 1 := ⟨m - 1, by omega⟩
      have : k = n := by omega
      subst this
      rw [jf_Ex_points_L4, if_pos (nI_le (Nat.le_refl k) (by omega))]
    | succ j ih =>
      intro m k e hm
      obtain ⟨q, rfl⟩ : ∃ q, m = q + 1 := ⟨m - 1, by omega⟩
      rw [jf_Ex_points_L4, if_neg (nI_ge (by omega) (by omega)), jat_nI len (by omega) (by decide), hL k (by omega)]
      simp only [jlet]
      rw [nI_add, nI_1]
      exact ih q (k + 1) (by omega) (by omega)
  unfold jf_Ex_points
  have := key n jF 0 (by omega) (jF_gt (by omega))
  show Option.bind (jf_Ex_points_L4 (nI n) len jF (nI (xS L 0)) (nI 0)) _ = _
  rw [this]; rfl
theorem xm_sum {n : Nat} {len : Nat → Int32} {L : Nat → Nat} (hn : n ≤ 6) (hL : ∀ k, k < n → len k = nI (L k)) : jf_Mo_sum (nI n) len = some (nI (xS L n)) := by
  have key : ∀ j m k, k + j = n → j < m → jf_Mo_sum_L4 (nI n) len m (nI (xS L k)) (nI k) = some (nI (xS L n)) := by
    intro j
    induction j with
    | zero =>
      intro m k e hm
      obtain ⟨q, rfl⟩ : ∃ q, m = q + 1 := ⟨m - 1, by omega⟩
      have : k = n := by omega
      subst this
      rw [jf_Mo_sum_L4, if_pos (nI_le (Nat.le_refl k) (by omega))]
    | succ j ih =>
      intro m k e hm
      obtain ⟨q, rfl⟩ : ∃ q, m = q + 1 := ⟨m - 1, by omega⟩
      rw [jf_Mo_sum_L4, if_neg (nI_ge (by omega) (by omega)), if_pos (jin_nI (n := 6) (by omega) (by decide)), nI_clamp (by omega), hL k (by omega)]
      simp only [jlet]
      rw [nI_add, nI_1]
      exact ih q (k + 1) (by omega) (by omega)
  unfold jf_Mo_sum
  have := key n jF 0 (by omega) (jF_gt (by omega))
  show Option.bind (jf_Mo_sum_L4 (nI n) len jF (nI (xS L 0)) (nI 0)) _ = _
  rw [this]; rfl
/-- a point: the class's check and the model's -/
theorem xpoint {n : Nat} {ml : Nat → Int32} {L : Nat → Nat} (hn : n ≤ 6) (hL : ∀ k, k < n → ml k = nI (L k)) (h50 : ∀ k, k < n → L k ≤ 50) (th x : Int32) :
    (∃ k, k < xS L n ∧ x = nI k ∧ jf_Bi_checkPlace x (nI (xS L n)) = .inl () ∧ jf_Mo_asksPoint th (nI n) ml x = some (1, 0)) ∨ (jf_Bi_checkPlace x (nI (xS L n)) = .inr eI ∧ jf_Mo_asksPoint th (nI n) ml x = some (0, 1)) := by
  have hs : xS L n ≤ 50 * n := xS_le h50 n (Nat.le_refl n)
  have hb : ∀ v, jf_Mo_in v 0 (nI (xS L n) - 1) = 0 ∨ jf_Mo_in v 0 (nI (xS L n) - 1) = 1 := by
    intro v; unfold jf_Mo_in
    split
    · exact Or.inl rfl
    · split
      · exact Or.inl rfl
      · exact Or.inr rfl
  unfold jf_Mo_asksPoint jf_Mo_asksPoint_b20
  rw [xm_sum hn hL]
  simp only [Option.bind]
  rcases jplace (n := xS L n) (by omega) x with ⟨k, hk, rfl, e1, e2⟩ | ⟨e1, e2⟩
  · left
    refine ⟨k, hk, rfl, e1, ?_⟩
    unfold jf_Mo_isPlace at e2
    rcases hb (nI k) with h | h
    · rw [h] at e2; exact absurd e2 (by decide)
    · rw [h]; rfl
  · right
    refine ⟨e1, ?_⟩
    unfold jf_Mo_isPlace at e2
    rcases hb x with h | h
    · rw [h]; rfl
    · rw [h] at e2; exact absurd e2 (by decide)
