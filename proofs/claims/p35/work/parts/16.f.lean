theorem jm_in31 {x : Int32} : jf_Mo_in x 0 2147483647 = if x < 0 then 0 else 1 := by
  unfold jf_Mo_in
  by_cases h : x < 0
  · rw [if_pos h, if_pos h]
  · rw [if_neg h, if_neg h, if_neg]
    rw [Int32.lt_iff_toInt_lt]
    have h2 := Int32.toInt_lt x
    have h3 : (2147483647 : Int32).toInt = 2147483647 := by decide
    omega
/-- k steps from s: class and model -/
theorem rc_walk (b : Int64) {s m : Nat} (h : rF (jbit b) s) (hm : m < 2 ^ 31) : ∀ j n k, k + j = m → j < n → jf_Ro_stateBehind_L25 b (nI m) n (nI (jit (rA (jbit b)) k s)) (nI k) = some (nI (jit (rA (jbit b)) m s)) := by
  intro j
  induction j with
  | zero =>
    intro n k e hn
    obtain ⟨q, rfl⟩ : ∃ q, n = q + 1 := ⟨n - 1, by omega⟩
    have : k = m := by omega
    subst this
    rw [jf_Ro_stateBehind_L25, if_pos (nI_le (Nat.le_refl k) hm)]
  | succ j ih =>
    intro n k e hn
    obtain ⟨q, rfl⟩ : ∃ q, n = q + 1 := ⟨n - 1, by omega⟩
    rw [jf_Ro_stateBehind_L25, if_neg (nI_ge (by omega) hm)]
    simp only [jlet]
    rw [rc_after b (rA_it h k).1, nI_1]
    exact ih q (k + 1) (by omega) (by omega)
theorem rm_walk {isB : Nat → Int32} {B : Nat → Bool} (hB : jBl isB B) {s m : Nat} (h : rF B s) (hm : m < 2 ^ 31) : ∀ j n k v, k + j = m → j < n → ∃ v', jf_Mo_state_L46 isB (nI m) n (nI (jit (rA B) k s)) (nI k) v = some (nI (jit (rA B) m s), v') := by
  intro j
  induction j with
  | zero =>
    intro n k v e hn
    obtain ⟨q, rfl⟩ : ∃ q, n = q + 1 := ⟨n - 1, by omega⟩
    have : k = m := by omega
    subst this
    rw [jf_Mo_state_L46, if_pos (nI_le (Nat.le_refl k) hm)]
    exact ⟨_, rfl⟩
  | succ j ih =>
    intro n k v e hn
    obtain ⟨q, rfl⟩ : ∃ q, n = q + 1 := ⟨n - 1, by omega⟩
    rw [jf_Mo_state_L46, if_neg (nI_ge (by omega) hm), rm_step v hB (rA_it h k).1]
    simp only [Option.bind]
    rw [nI_1]
    exact ih q (k + 1) _ (by omega) (by omega)
theorem jnat31 {x : Int32} (h0 : (0 : Int32) ≤ x) : ∃ k : Nat, k < 2 ^ 31 ∧ x = nI k := by
  have h1 : ¬ x < 0 := by rw [Int32.lt_iff_toInt_lt]; rw [Int32.le_iff_toInt_le] at h0; omega
  exact nI_of h1
theorem js_state : jS_state := by
  intro b _ _ _ _ _ _ _ _ _ _ _ th v _ _ _ isB _ _ _ _ _ _ _ x1 x2 x3 x4 x5 hI
  have hB := jI_bl hI
  have hm0 : jf_Mo_state th v isB x1 x2 x3 (jb x4) x5 = jf_Mo_state_b14 th v isB x1 x2 x3 (jb x4) x5 x1 x2 x3 (jf_Mo_in x5 0 2147483647) := by
    unfold jf_Mo_state
    rw [jm_in31]
    split <;> rfl
  rw [hm0]
  unfold jf_Mo_state_b14 jf_Bi_state
  rcases jshot hB th x1 x2 x3 x5 2147483647 with ⟨x, y, d, hx, hy, hd, rfl, rfl, rfl, hf, h0, -, e1, e2⟩ | ⟨e1, e2⟩ | ⟨e1, e2⟩ | ⟨e1, e2⟩
  · obtain ⟨n, hn, rfl⟩ := jnat31 h0
    rw [e1, e2, jst_c, jst_m]
    have hF := jst_F (B := jbit b) (d := d) x4 hx hy hd hf
    obtain ⟨p, hp, h5⟩ := rA_per (jbit b) hF
    obtain ⟨v', e3⟩ := rm_period hB hF hp h5 v
    generalize (x + 8 * y + 64 * d + (if x4 = 0 then 0 else 256)) = s at *
    have hp1 := hp.1
    have hr : n % p < 2 ^ 31 := Nat.lt_of_le_of_lt (Nat.mod_le n p) hn
    obtain ⟨v'', e4⟩ := rm_walk hB hF hr (n % p) jF 0 v' (by omega) (jF_gt (by omega))
    have e5 := rc_walk b hF hr (n % p) jF 0 (by omega) (jF_gt (by omega))
    have hq : ¬ nI p = 0 := nI_ne0 (by omega) (by omega)
    refine ⟨(nI (jit (rA (jbit b)) (n % p) s), 0, v''), ?_, Or.inl ⟨nI (jit (rA (jbit b)) (n % p) s), ?_, rfl, rfl, hI⟩⟩
    · simp only [Option.bind, jlet]
      rw [if_neg (by decide), e3]
      simp only []
      rw [if_neg hq, pk_rem hn (by omega) (by omega)]
      show Option.bind (jf_Mo_state_L46 isB (nI (n % p)) jF (nI (jit (rA (jbit b)) 0 s)) (nI 0) v') _ = _
      rw [e4]
      rfl
    · simp only [jsum]
      unfold jf_Ro_stateBehind jf_Ro_stateBehind_b17
      rw [rc_period b hF hp h5]
      simp only [Option.bind]
      rw [if_neg (nI_nle (by omega) (by omega)), if_neg hq, pk_rem hn (by omega) (by omega)]
      show (Option.bind (Option.bind (jf_Ro_stateBehind_L25 b (nI (n % p)) jF (nI (jit (rA (jbit b)) 0 s)) (nI 0)) _) _) = _
      rw [e5]
      rfl
  · rw [e1, e2]; exact ⟨(0, 1, v), rfl, Or.inr (Or.inl ⟨rfl, rfl, hI⟩)⟩
  · rw [e1, e2]; exact ⟨(0, 2, v), rfl, Or.inr (Or.inr (Or.inl ⟨rfl, rfl, hI⟩))⟩
  · rw [e1, e2]; exact ⟨(0, 3, v), rfl, Or.inr (Or.inr (Or.inr ⟨rfl, rfl, hI⟩))⟩
