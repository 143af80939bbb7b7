theorem jcnt_set {n c : Nat} (f : Nat → Bool) (hc : c < n) : jcnt n (fun k => f k || (k == c)) = jcnt n f + (if f c then 0 else 1) := by
  induction n with
  | zero => omega
  | succ n ih =>
    rw [jcnt, jcnt]
    by_cases e : c = n
    · subst e
      have h : jcnt c (fun k => f k || (k == c)) = jcnt c f := jcnt_eq fun k hk => by
        rw [show (k == c) = false from beq_eq_false_iff_ne.2 (by omega), Bool.or_false]
      rw [h, beq_self_eq_true, Bool.or_true]
      cases f c <;> rfl
    · rw [ih (by omega), show (n == c) = false from beq_eq_false_iff_ne.2 (by omega), Bool.or_false]
      omega
/-- the cells met within k steps -/
def rV (B : Nat → Bool) (s : Nat) : Nat → Nat → Bool
  | 0 => fun _ => false
  | k + 1 => fun c => rV B s k c || (c == jit (rA B) k s % 64)
theorem rxy : ∀ t, t < 512 → jf_Ro_xOf (nI t) + 8 * jf_Ro_yOf (nI t) = nI (t % 64) := jall_of (by decide +kernel)
theorem rc_cells (b : Int64) {s p : Nat} (h : rF (jbit b) s) (hp : jPer (rA (jbit b)) s p) (h5 : p ≤ 512) : ∀ j n k z, k + j = p → j < n → (∀ c, c < 64 → jbit z c = rV (jbit b) s k c) → ∃ z', jf_Ro_cellsRound_L8 b (nI s) n z (nI (jit (rA (jbit b)) k s)) (nI k) = some z' ∧ ∀ c, c < 64 → jbit z' c = rV (jbit b) s p c := by
  intro j
  induction j with
  | zero =>
    intro n k z e hn hz
    obtain ⟨q, rfl⟩ : ∃ q, n = q + 1 := ⟨n - 1, by omega⟩
    have : k = p := by omega
    subst this
    refine ⟨z, ?_, hz⟩
    rw [jf_Ro_cellsRound_L8]
    split
    · rfl
    · rw [if_neg (fun h => by rw [nI0_iff (by omega)] at h; have := hp.1; omega), hp.2.1, if_pos rfl]
  | succ j ih =>
    intro n k z e hn hz
    obtain ⟨q, rfl⟩ : ∃ q, n = q + 1 := ⟨n - 1, by omega⟩
    have hF := rA_it h k
    obtain ⟨z', e1, e2⟩ := ih q (k + 1) (z ||| jlshl 1 (nI (jit (rA (jbit b)) k s % 64))) (by omega) (by omega) (fun c hc => by
      rw [jbit_or z (by omega) hc, hz c hc]; rfl)
    refine ⟨z', ?_, e2⟩
    have h27 : jf_Ro_cellsRound_b27 (jf_Ro_cellsRound_L8 b (nI s) q) b (nI s) z (nI (jit (rA (jbit b)) k s)) (nI k) = some z' := by
      unfold jf_Ro_cellsRound_b27
      simp only [jlet]
      rw [rxy _ hF.1, rc_after b hF.1, nI_1]
      exact e1
    rw [jf_Ro_cellsRound_L8, if_neg (nge512 (by omega)), h27]
    split
    · rfl
    · rename_i hk
      rw [nI0_iff (by omega)] at hk
      rw [if_neg]
      rw [nI_eq (by have := hF.1; omega) (by have := h.1; omega)]
      exact hp.2.2 k (by omega) (by omega)
theorem jbit_0 : ∀ c, c < 64 → jbit 0 c = false := jall_of (p := fun c => jbit 0 c = false) (by decide +kernel)
theorem rc_touched (b : Int64) {s p : Nat} (h : rF (jbit b) s) (hp : jPer (rA (jbit b)) s p) (h5 : p ≤ 512) : jf_Ro_cellsRound b (nI s) = some (nI (jcnt 64 (rV (jbit b) s p))) := by
  unfold jf_Ro_cellsRound jf_Ro_cellsRound_b60
  obtain ⟨z, e1, e2⟩ := rc_cells b h hp h5 p jF 0 0 (by omega) (jF_gt (by omega)) (fun c hc => jbit_0 c hc)
  show Option.bind (jf_Ro_cellsRound_L8 b (nI s) jF 0 (nI (jit (rA (jbit b)) 0 s)) (nI 0)) _ = _
  rw [e1]
  show some (jf_Lo_bitCount z) = _
  rw [jbits, jcnt_eq e2]
