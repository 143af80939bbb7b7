theorem nge512 {k : Nat} (h : k < 512) : ¬ (512 : Int32) ≤ nI k := nI_ge (b := 512) h (by decide)
/-- a number in a range: the class's check and the model's -/
theorem jrange (x lo hi : Int32) : (lo ≤ x ∧ x ≤ hi ∧ jf_Bi_checkRange x lo hi = .inl () ∧ jf_Mo_in x lo hi = 1) ∨ (jf_Bi_checkRange x lo hi = .inr eA ∧ jf_Mo_in x lo hi = 0) := by
  unfold jf_Bi_checkRange jf_Mo_in jf_Bi_checkRange_b10
  by_cases h1 : x < lo
  · right; rw [if_pos h1, if_pos h1]; exact ⟨rfl, rfl⟩
  rw [if_neg h1, if_neg h1]
  by_cases h2 : x ≤ hi
  · left
    have h3 : ¬ hi < x := by rw [Int32.lt_iff_toInt_lt]; rw [Int32.le_iff_toInt_le] at h2; omega
    rw [if_pos h2, if_neg h3]
    exact ⟨by rw [Int32.le_iff_toInt_le]; rw [Int32.lt_iff_toInt_lt] at h1; omega, h2, rfl, rfl⟩
  · right
    have h3 : hi < x := by rw [Int32.lt_iff_toInt_lt]; rw [Int32.le_iff_toInt_le] at h2; omega
    rw [if_neg h2, if_pos h3]
    exact ⟨rfl, rfl⟩
theorem jbl_block (b : Int64) {a c : Nat} (ha : a < 8) (hc : c < 8) (h : jf_Bi_isCell (nI a) (nI c) = 1) : jf_Ro_isBlock b (nI a) (nI c) = if jbit b (a + 8 * c) then 1 else 0 :=
  rc_block b h (by omega) (by rw [show (8 : Int32) = nI 8 from rfl, pk_mul, nI_add])
/-! periods -/
theorem rA_per (B : Nat → Bool) {s : Nat} (h : rF B s) : ∃ p, jPer (rA B) s p ∧ p ≤ 512 :=
  jper_ex (P := rF B) (g := rB B) (fun _ h => rA_F h) (fun _ h => rBA h) (fun _ h => h.1) h
theorem rA_it {B : Nat → Bool} {s : Nat} (h : rF B s) (k : Nat) : rF B (jit (rA B) k s) := jit_P (fun _ h => rA_F h) h k
theorem rB_it {B : Nat → Bool} {s : Nat} (h : rF B s) (k : Nat) : rF B (jit (rB B) k s) := jit_P (fun _ h => rB_F h) h k
theorem rc_rounds (b : Int64) {s p : Nat} (h : rF (jbit b) s) (hp : jPer (rA (jbit b)) s p) (h5 : p ≤ 512) : ∀ j n k, k + j = p → 1 ≤ k → j < n → jf_Ro_stepsRound_L8 b (nI s) n (nI k) (nI (jit (rA (jbit b)) k s)) = some (nI p) := by
  intro j
  induction j with
  | zero =>
    intro n k e hk hn
    obtain ⟨m, rfl⟩ : ∃ m, n = m + 1 := ⟨n - 1, by omega⟩
    have : k = p := by omega
    subst this
    rw [jf_Ro_stepsRound_L8, hp.2.1, if_pos rfl]
  | succ j ih =>
    intro n k e hk hn
    obtain ⟨m, rfl⟩ : ∃ m, n = m + 1 := ⟨n - 1, by omega⟩
    have hF := rA_it h k
    have hne : ¬ nI (jit (rA (jbit b)) k s) = nI s := by
      rw [nI_eq (by have := hF.1; omega) (by have := h.1; omega)]
      exact hp.2.2 k hk (by omega)
    rw [jf_Ro_stepsRound_L8, if_neg hne, if_neg (nge512 (by omega))]
    simp only [jlet]
    rw [rc_after b hF.1, nI_1]
    exact ih m (k + 1) (by omega) (by omega) (by omega)
theorem jF_gt {n : Nat} (h : n ≤ 8589934591) : n < jF := by unfold jF; omega
theorem rc_period (b : Int64) {s p : Nat} (h : rF (jbit b) s) (hp : jPer (rA (jbit b)) s p) (h5 : p ≤ 512) : jf_Ro_stepsRound b (nI s) = some (nI p) := by
  unfold jf_Ro_stepsRound
  simp only [jlet]
  rw [rc_after b h.1, show nI (rA (jbit b) s) = nI (jit (rA (jbit b)) 1 s) from rfl, show (1 : Int32) = nI 1 from rfl, rc_rounds b h hp h5 (p - 1) jF 1 (by have := hp.1; omega) (Nat.le_refl 1) (jF_gt (by omega))]
  rfl
theorem rc_roundsB (b : Int64) {s p : Nat} (h : rF (jbit b) s) (hp : jPer (rB (jbit b)) s p) (h5 : p ≤ 512) : ∀ j n k, k + j = p → 1 ≤ k → j < n → jf_Ro_stepsRoundBackwards_L8 b (nI s) n (nI k) (nI (jit (rB (jbit b)) k s)) = some (nI p) := by
  intro j
  induction j with
  | zero =>
    intro n k e hk hn
    obtain ⟨m, rfl⟩ : ∃ m, n = m + 1 := ⟨n - 1, by omega⟩
    have : k = p := by omega
    subst this
    rw [jf_Ro_stepsRoundBackwards_L8, hp.2.1, if_pos rfl]
  | succ j ih =>
    intro n k e hk hn
    obtain ⟨m, rfl⟩ : ∃ m, n = m + 1 := ⟨n - 1, by omega⟩
    have hF := rB_it h k
    have hne : ¬ nI (jit (rB (jbit b)) k s) = nI s := by
      rw [nI_eq (by have := hF.1; omega) (by have := h.1; omega)]
      exact hp.2.2 k hk (by omega)
    rw [jf_Ro_stepsRoundBackwards_L8, if_neg hne, if_neg (nge512 (by omega))]
    simp only [jlet]
    rw [rc_before b hF.1, nI_1]
    exact ih m (k + 1) (by omega) (by omega) (by omega)
theorem rc_periodB (b : Int64) {s p : Nat} (h : rF (jbit b) s) (hp : jPer (rA (jbit b)) s p) (h5 : p ≤ 512) : jf_Ro_stepsRoundBackwards b (nI s) = some (nI p) := by
  have hp2 : jPer (rB (jbit b)) s p := jper_back (P := rF (jbit b)) (fun _ h => rA_F h) (fun _ h => rB_F h) (fun _ h => rBA h) (fun _ h => rAB h) h hp
  unfold jf_Ro_stepsRoundBackwards
  simp only [jlet]
  rw [rc_before b h.1, show nI (rB (jbit b) s) = nI (jit (rB (jbit b)) 1 s) from rfl, show (1 : Int32) = nI 1 from rfl, rc_roundsB b h hp2 h5 (p - 1) jF 1 (by have := hp.1; omega) (Nat.le_refl 1) (jF_gt (by omega))]
  rfl
