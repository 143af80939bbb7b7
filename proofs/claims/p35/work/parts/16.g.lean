/-- bounces among the first k steps -/
def rH (B : Nat → Bool) (s : Nat) : Nat → Nat
  | 0 => 0
  | k + 1 => rH B s k + (if rHit B (jit (rA B) k s) then 1 else 0)
theorem rH_le (B : Nat → Bool) (s : Nat) : ∀ k, rH B s k ≤ k
  | 0 => Nat.le_refl 0
  | k + 1 => by have := rH_le B s k; rw [rH]; split <;> omega
theorem rH_mono (B : Nat → Bool) (s : Nat) {k : Nat} : ∀ j, rH B s k ≤ rH B s (k + j)
  | 0 => Nat.le_refl _
  | j + 1 => by have := rH_mono B s (k := k) j; rw [← Nat.add_assoc, rH]; omega
theorem jit_mod {f : Nat → Nat} {s p : Nat} (hp : 1 ≤ p) (h : jit f p s = s) : ∀ k, jit f k s = jit f (k % p) s := by
  intro k
  induction k using Nat.strongRecOn with
  | _ k ih =>
    by_cases c : k < p
    · rw [Nat.mod_eq_of_lt c]
    · have e : k = (k - p) + p := by omega
      rw [e, jit_add, h, ih (k - p) (by omega), Nat.add_mod_right]
theorem rgo_out : ∀ s, s < 512 → jall 17 (fun j => !(rNb (jit rGo j s) == 64)) = false := jall_of (by decide +kernel)
theorem rH_pos {B : Nat → Bool} {s p : Nat} (h : rF B s) (hp : jPer (rA B) s p) : 0 < rH B s p := by
  by_cases c : ∃ k, k < p ∧ rHit B (jit (rA B) k s) = true
  · obtain ⟨k, hk, e⟩ := c
    have h1 : rH B s (k + 1) ≤ rH B s p := by have := rH_mono B s (k := k + 1) (p - (k + 1)); rwa [show k + 1 + (p - (k + 1)) = p by omega] at this
    rw [rH, if_pos e] at h1
    omega
  · have c2 : ∀ k, rHit B (jit (rA B) k s) = false := by
      intro k
      rw [jit_mod hp.1 hp.2.1 k]
      cases e : rHit B (jit (rA B) (k % p) s) with
      | false => rfl
      | true => exact absurd ⟨k % p, Nat.mod_lt _ hp.1, e⟩ c
    have c3 : ∀ k, jit (rA B) k s = jit rGo k s := by
      intro k
      induction k with
      | zero => rfl
      | succ k ih =>
        show rA B (jit (rA B) k s) = rGo (jit rGo k s)
        rw [rA, c2 k, ih]; rfl
    have c4 : jall 17 (fun j => !(rNb (jit rGo j s) == 64)) = true := by
      have : ∀ n, jall n (fun j => !(rNb (jit rGo j s) == 64)) = true := by
        intro n
        induction n with
        | zero => rfl
        | succ n ih =>
          rw [jall, ih, Bool.and_true, ← c3 n]
          have := (rNb_ne (c2 n)).1
          rw [Bool.not_eq_true', beq_eq_false_iff_ne]; exact this
      exact this 17
    rw [rgo_out s h.1] at c4
    cases c4
theorem nI0_iff {k : Nat} (h : k < 2 ^ 31) : nI k = 0 ↔ k = 0 := by
  rw [show (0 : Int32) = nI 0 from rfl]; exact nI_eq h (by decide)
theorem rc_hits (b : Int64) {s p : Nat} (h : rF (jbit b) s) (hp : jPer (rA (jbit b)) s p) (h5 : p ≤ 512) : ∀ j n k, k + j = p → j < n → jf_Ro_bouncesRound_L7 b (nI s) n (nI (rH (jbit b) s k)) (nI (jit (rA (jbit b)) k s)) (nI k) = some (nI (rH (jbit b) s p)) := by
  intro j
  induction j with
  | zero =>
    intro n k e hn
    obtain ⟨q, rfl⟩ : ∃ q, n = q + 1 := ⟨n - 1, by omega⟩
    have : k = p := by omega
    subst this
    rw [jf_Ro_bouncesRound_L7]
    split
    · rfl
    · rw [if_neg (fun h => by rw [nI0_iff (by omega)] at h; have := hp.1; omega), hp.2.1, if_pos rfl]
  | succ j ih =>
    intro n k e hn
    obtain ⟨q, rfl⟩ : ∃ q, n = q + 1 := ⟨n - 1, by omega⟩
    have hF := rA_it h k
    have h25 : jf_Ro_bouncesRound_b25 (jf_Ro_bouncesRound_L7 b (nI s) q) b (nI s) (nI (rH (jbit b) s k)) (nI (jit (rA (jbit b)) k s)) (nI k) = some (nI (rH (jbit b) s p)) := by
      unfold jf_Ro_bouncesRound_b25 jf_Ro_bouncesRound_b36
      simp only [jlet]
      rw [rc_bounce b hF.1, rc_after b hF.1, nI_1, nI_1]
      have := ih q (k + 1) (by omega) (by omega)
      rw [rH] at this
      cases c : rHit (jbit b) (jit (rA (jbit b)) k s) with
      | true => rw [c] at this; rw [if_neg (by decide)]; exact this
      | false => rw [c] at this; rw [if_pos (by decide)]; exact this
    rw [jf_Ro_bouncesRound_L7, if_neg (nge512 (by omega)), h25]
    split
    · rfl
    · rename_i hk
      rw [nI0_iff (by omega)] at hk
      rw [if_neg]
      rw [nI_eq (by have := hF.1; omega) (by have := h.1; omega)]
      exact hp.2.2 k (by omega) (by omega)
theorem rc_bounces (b : Int64) {s p : Nat} (h : rF (jbit b) s) (hp : jPer (rA (jbit b)) s p) (h5 : p ≤ 512) : jf_Ro_bouncesRound b (nI s) = some (nI (rH (jbit b) s p)) := by
  unfold jf_Ro_bouncesRound
  have e := rc_hits b h hp h5 p jF 0 (by omega) (jF_gt (by omega))
  show Option.bind (jf_Ro_bouncesRound_L7 b (nI s) jF (nI (rH (jbit b) s 0)) (nI (jit (rA (jbit b)) 0 s)) (nI 0)) _ = _
  rw [e]; rfl
theorem rm_hits {isB : Nat → Int32} {B : Nat → Bool} (hB : jBl isB B) {s p : Nat} (h : rF B s) (hp : jPer (rA B) s p) (h5 : p ≤ 512) : ∀ j n k v, k + j = p → j + 1 < n → ∃ v', jf_Mo_bouncesOf_L7 isB (nI s) n (nI (rH B s k)) (nI (jit (rA B) k s)) (if k = p then 0 else 1) v = some (nI (rH B s p), v') := by
  intro j
  induction j with
  | zero =>
    intro n k v e hn
    obtain ⟨q, rfl⟩ : ∃ q, n = q + 1 := ⟨n - 1, by omega⟩
    have : k = p := by omega
    subst this
    rw [jf_Mo_bouncesOf_L7, if_pos rfl, if_pos rfl]
    exact ⟨_, rfl⟩
  | succ j ih =>
    intro n k v e hn
    obtain ⟨q, rfl⟩ : ∃ q, n = q + 1 := ⟨n - 1, by omega⟩
    have hF := rA_it h k
    have hF2 := rA_it h (k + 1)
    have key : ∀ v, ∃ v', jf_Mo_bouncesOf_b31 (jf_Mo_bouncesOf_L7 isB (nI s) q) v isB (nI s) (nI (rA B (jit (rA B) k s))) (nI (rH B s k)) (if rHit B (jit (rA B) k s) then 1 else 0) = some (nI (rH B s p), v') := by
      intro v
      unfold jf_Mo_bouncesOf_b31 jf_Mo_bouncesOf_b43
      simp only [jlet]
      have e2 : nI (rH B s k) + (if rHit B (jit (rA B) k s) then 1 else 0) = nI (rH B s (k + 1)) := by
        rw [rH]; split
        · exact nI_1 _
        · exact nI_add _ 0
      rw [e2, show rA B (jit (rA B) k s) = jit (rA B) (k + 1) s from rfl]
      obtain ⟨v', e3⟩ := ih q (k + 1) v (by omega) (by omega)
      refine ⟨v', ?_⟩
      rw [← e3]
      by_cases c : k + 1 = p
      · rw [if_pos c, if_pos]
        rw [c, hp.2.1]
      · rw [if_neg c, if_neg]
        rw [nI_eq (by have := hF2.1; omega) (by have := h.1; omega)]
        exact hp.2.2 (k + 1) (by omega) (by omega)
    rw [jf_Mo_bouncesOf_L7, if_neg (show ¬ k = p by omega), if_neg (show ¬ (1 : Int32) = 0 by decide), rm_step v hB hF.1]
    simp only [Option.bind]
    obtain ⟨v', e4⟩ := key (if rHit B (jit (rA B) k s) then 1 else 0)
    refine ⟨v', ?_⟩
    rw [← e4]
    cases rHit B (jit (rA B) k s) with
    | true => rw [if_neg (by decide)]; rfl
    | false => rw [if_pos (by decide)]; rfl
theorem rm_bounces {isB : Nat → Int32} {B : Nat → Bool} (hB : jBl isB B) {s p : Nat} (h : rF B s) (hp : jPer (rA B) s p) (h5 : p ≤ 512) (v : Int32) : ∃ v', jf_Mo_bouncesOf v isB (nI s) = some (nI (rH B s p), v') := by
  unfold jf_Mo_bouncesOf
  obtain ⟨v', e⟩ := rm_hits hB h hp h5 p jF 0 v (by omega) (jF_gt (by omega))
  rw [if_neg (by have := hp.1; omega)] at e
  refine ⟨v', ?_⟩
  show Option.bind (jf_Mo_bouncesOf_L7 isB (nI s) jF (nI (rH B s 0)) (nI (jit (rA B) 0 s)) 1 v) _ = _
  rw [e]; rfl
theorem js_bounces : jS_bounces := by
  intro b _ _ _ _ _ _ _ _ _ _ _ th v _ _ _ isB _ _ _ _ _ _ _ x1 x2 x3 x4 hI
  have hB := jI_bl hI
  unfold jf_Mo_bounces jf_Bi_bounces
  rw [show (1 : Int32) = jf_Mo_in 0 0 0 from rfl]
  rcases jshot hB th x1 x2 x3 0 0 with ⟨x, y, d, hx, hy, hd, rfl, rfl, rfl, hf, -, -, e1, e2⟩ | ⟨e1, e2⟩ | ⟨e1, e2⟩ | ⟨e1, e2⟩
  · rw [e1, e2, jst_c, jst_m]
    have hF := jst_F (B := jbit b) (d := d) x4 hx hy hd hf
    obtain ⟨p, hp, h5⟩ := rA_per (jbit b) hF
    obtain ⟨v', e3⟩ := rm_bounces hB hF hp h5 v
    generalize (x + 8 * y + 64 * d + (if x4 = 0 then 0 else 256)) = s at *
    refine ⟨(nI (rH (jbit b) s p), 0, v'), ?_, Or.inl ⟨nI (rH (jbit b) s p), ?_, rfl, rfl, hI⟩⟩
    · simp only [Option.bind]
      rw [if_neg (by decide), e3]
    · simp only [jsum]
      rw [rc_bounces b hF hp h5]
      rfl
  · rw [e1, e2]; exact ⟨(0, 1, v), rfl, Or.inr (Or.inl ⟨rfl, rfl, hI⟩)⟩
  · rw [e1, e2]; exact ⟨(0, 2, v), rfl, Or.inr (Or.inr (Or.inl ⟨rfl, rfl, hI⟩))⟩
  · rw [e1, e2]; exact ⟨(0, 3, v), rfl, Or.inr (Or.inr (Or.inr ⟨rfl, rfl, hI⟩))⟩
