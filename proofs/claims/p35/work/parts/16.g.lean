/-- bounces among the first k steps -/
def rH (B : Nat → Bool) (s : Nat) : Nat → Nat
  | 0 => 0
  | k + 1 => rH B s k + (if rHit B (jit (rA B) k s) then 1 else 0)
theorem rH_le (B : Nat → Bool) (s : Nat) : ∀ k, rH B s k ≤ k
  | 0 => Nat.le_refl 0
  | k + 1 => by have := rH_le B s k; rw [rH]; split <;> omega
theorem rH_mono (B : Nat → Bool) (s : Nat) {k : Nat} : ∀ j, rH B s k ≤ rH B s (k + j)
  | 0 => Nat.le_refl _
  | j + 1 => by have := rH_mono B s (k := k) j; rw [← Nat.add_assoc, rH]; omega
theorem jit_mod {f : Nat → Nat} {s p : Nat} (hp : 1 ≤ p) (h : jit f p s = s) : ∀ k, jit f k s = jit f (k % p) s := by
  intro k
  induction k using Nat.strongRecOn with
  | _ k ih =>
    by_cases c : k < p
    · rw [Nat.mod_eq_of_lt c]
    · have e : k = (k - p) + p := by omega
      rw [e, jit_add, h, ih (k - p) (by omega), Nat.add_mod_right]
theorem rgo_out : ∀ s, s < 512 → jall 17 (fun j => !(rNb (jit rGo j s) == 64)) = false := jall_of (by decide +kernel)
theorem rH_pos {B : Nat → Bool} {s p : Nat} (h : rF B s) (hp : jPer (rA B) s p) : 0 < rH B s p := by
  by_cases c : ∃ k, k < p ∧ rHit B (jit (rA B) k s) = true
  · obtain ⟨k, hk, e⟩ := c
    have h1 : rH B s (k + 1) ≤ rH B s p := by have := rH_mono B s (k := k + 1) (p - (k + 1)); rwa [show k + 1 + (p - (k + 1)) = p by omega] at this
    rw [rH, if_pos e] at h1
    omega
  · have c2 : ∀ k, rHit B (jit (rA B) k s) = false := by
      intro k
      rw [jit_mod hp.1 hp.2.1 k]
      cases e : rHit B (jit (rA B) (k % p) s) with
      | false => rfl
      | true => exact absurd ⟨k % p, Nat.mod_lt _ hp.1, e⟩ c
    have c3 : ∀ k, jit (rA B) k s = jit rGo k s := by
      intro k
      induction k with
      | zero => rfl
      | succ k ih =>
        show rA B (jit (rA B) k s) = rGo (jit rGo k s)
        rw [rA, c2 k, ih]; rfl
    have c4 : jall 17 (fun j => !(rNb (jit rGo j s) == 64)) = true := by
      have : ∀ n, jall n (fun j => !(rNb (jit rGo j s) == 64)) = true := by
        intro n
        induction n with
        | zero => rfl
        | succ n ih =>
          rw [jall, ih, Bool.and_true, ← c3 n]
          have := (rNb_ne (c2 n)).1
          rw [Bool.not_eq_true', beq_eq_false_iff_ne]; exact this
      exact this 17
    rw [rgo_out s h.1] at c4
    cases c4
theorem nI0_iff {k : Nat} (h : k < 2 ^ 31) : nI k = 0 ↔ k = 0 := by
  rw [show (0 : Int32) = nI 0 from rfl]; exact nI_eq h (by decide)
theorem rc_hits (b : Int64) {s p : Nat} (h : rF (jbit b) s) (hp : jPer (rA (jbit b)) s p) (h5 : p ≤ 512) : ∀ j n k, k + j = p → j < n → jf_Ro_bouncesRound_L7 b (nI s) n (nI (rH (jbit b) s k)) (nI (jit (rA (jbit b)) k s)) (nI k) = some (nI (rH (jbit b) s p)) := by
  intro j
  induction j with
  | zero =>
    intro n k e hn
    obtain ⟨q, rfl⟩ : ∃ q, n = q + 1 := ⟨n - 1, by omega⟩
    have : k = p := by omega
    subst this
    rw [jf_Ro_bouncesRound_L7]
    split
    · rfl
    · rw [if_neg (fun h => by rw [nI0_iff (by omega)] at h; have := hp.1; omega), hp.2.1, if_pos rfl]
  | succ j ih =>
    intro n k e hn
    obtain ⟨q, rfl⟩ : ∃ q, n = q + 1 := ⟨n - 1, by omega⟩
    have hF := rA_it h k
    have h25 : jf_Ro_bouncesRound_b25 (jf_Ro_bouncesRound_L7 b (nI s) q) b (nI s) (nI (rH (jbit b) s k)) (nI (jit (rA (jbit b)) k s)) (nI k) = some (nI (rH (jbit b) s p)) := by
      unfold jf_Ro_bouncesRound_b25 jf_Ro_bouncesRound_b36
      simp only [jlet]
      rw [rc_bounce b hF.1, rc_after b hF.1, nI_1, nI_1]
      have := ih q (k + 1) (by omega) (by omega)
      rw [rH] at this
      cases c : rHit (jbit b) (jit (rA (jbit b)) k s) with
      | true => rw [c] at this; rw [if_neg (by decide)]; exact this
      | false => rw [c] at this; rw [if_pos (by decide)]; exact this
    rw [jf_Ro_bouncesRound_L7, if_neg (nge512 (by omega)), h25]
    split
    · rfl
    · rename_i hk
      rw [nI0_iff (by omega)] at hk
      rw [if_neg]
      rw [nI_eq (by have := hF.1; omega) (by have := h.1; omega)]
      exact hp.2.2 k (by omega) (by omega)
theorem rc_bounces (b : Int64) {s p : Nat} (h : rF (jbit b) s) (hp : jPer (rA (jbit b)) s p) (h5 : p ≤ 512) : jf_Ro_bouncesRound b (nI s) = some (nI (rH (jbit b) s p)) := by
  unfold jf_Ro_bouncesRound
  have e := rc_hits b h hp h5 p jF 0 (by omega) (jF_gt (by omega))
  show Option.bind (jf_Ro_bouncesRound_L7 b (nI s) jF (nI (rH (jbit b) s 0)) (nI (jit (rA (jbit b)) 0 s)) (nI 0)) _ = _
  rw [e]; rfl
