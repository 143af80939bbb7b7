theorem nge512 {k : Nat} (h : k < 512) : ¬ (512 : Int32) ≤ nI k := nI_ge (b := 512) h (by decide)
theorem jm_in7 {a : Nat} (ha : a < 2 ^ 31) : jf_Mo_in (nI a) 0 7 = if a < 8 then 1 else 0 := by
  unfold jf_Mo_in
  rw [if_neg (nI_pos ha)]
  by_cases h : a < 8
  · rw [if_neg (show ¬ (7 : Int32) < nI a from nI_nlt (a := 7) (b := a) (by omega) (by decide)), if_pos h]
  · rw [if_pos (show (7 : Int32) < nI a from nI_lt (a := 7) (by omega) ha), if_neg h]
theorem jm_in7n {x : Int32} (h : x < 0) (M : Int32) : jf_Mo_in x 0 M = 0 := by
  unfold jf_Mo_in
  rw [if_pos h]
theorem jcell8 {x y : Int32} : (∃ a b : Nat, a < 8 ∧ b < 8 ∧ x = nI a ∧ y = nI b ∧ jf_Bi_isCell x y = 1 ∧ jf_Mo_isCell x y = 1) ∨ (jf_Bi_isCell x y = 0 ∧ jf_Mo_isCell x y = 0) := by
  unfold jf_Bi_isCell jf_Mo_isCell
  by_cases h1 : x < 0
  · right; rw [if_pos h1, jm_in7n h1, if_pos rfl]; exact ⟨rfl, rfl⟩
  rw [if_neg h1]
  obtain ⟨a, ha, rfl⟩ := nI_of h1
  rw [jm_in7 ha]
  by_cases h2 : a < 8
  · rw [if_neg (show ¬ (8 : Int32) ≤ nI a from nI_ge (b := 8) h2 (by decide)), if_pos h2, if_neg (show ¬ (1 : Int32) = 0 by decide)]
    by_cases h3 : y < 0
    · right; rw [if_pos h3, jm_in7n h3, if_pos rfl]; exact ⟨rfl, rfl⟩
    rw [if_neg h3]
    obtain ⟨b, hb, rfl⟩ := nI_of h3
    rw [jm_in7 hb]
    by_cases h4 : b < 8
    · left
      rw [if_neg (show ¬ (8 : Int32) ≤ nI b from nI_ge (b := 8) h4 (by decide)), if_pos h4]
      exact ⟨a, b, h2, h4, rfl, rfl, rfl, rfl⟩
    · right
      rw [if_pos (show (8 : Int32) ≤ nI b from nI_le (a := 8) (by omega) hb), if_neg h4]
      exact ⟨rfl, rfl⟩
  · right
    rw [if_pos (show (8 : Int32) ≤ nI a from nI_le (a := 8) (by omega) ha), if_neg h2]
    exact ⟨rfl, rfl⟩
/-- a number in a range: the class's check and the model's -/
theorem jrange (x lo hi : Int32) : (lo ≤ x ∧ x ≤ hi ∧ jf_Bi_checkRange x lo hi = .inl () ∧ jf_Mo_in x lo hi = 1) ∨ (jf_Bi_checkRange x lo hi = .inr eA ∧ jf_Mo_in x lo hi = 0) := by
  unfold jf_Bi_checkRange jf_Mo_in jf_Bi_checkRange_b10
  by_cases h1 : x < lo
  · right; rw [if_pos h1, if_pos h1]; exact ⟨rfl, rfl⟩
  rw [if_neg h1, if_neg h1]
  by_cases h2 : x ≤ hi
  · left
    have h3 : ¬ hi < x := by rw [Int32.lt_iff_toInt_lt]; rw [Int32.le_iff_toInt_le] at h2; omega
    rw [if_pos h2, if_neg h3]
    exact ⟨by rw [Int32.le_iff_toInt_le]; rw [Int32.lt_iff_toInt_lt] at h1; omega, h2, rfl, rfl⟩
  · right
    have h3 : hi < x := by rw [Int32.lt_iff_toInt_lt]; rw [Int32.le_iff_toInt_le] at h2; omega
    rw [if_neg h2, if_pos h3]
    exact ⟨rfl, rfl⟩
theorem jnat_of {x : Int32} {n : Nat} (h0 : (0 : Int32) ≤ x) (h : x ≤ nI n) (hn : n < 2 ^ 31) : ∃ k, k ≤ n ∧ x = nI k := by
  have h1 : ¬ x < 0 := by rw [Int32.lt_iff_toInt_lt]; rw [Int32.le_iff_toInt_le] at h0; omega
  obtain ⟨k, hk, rfl⟩ := nI_of h1
  exact ⟨k, (nI_leI hk hn).1 h, rfl⟩
theorem jbl_block (b : Int64) {a c : Nat} (ha : a < 8) (hc : c < 8) (h : jf_Bi_isCell (nI a) (nI c) = 1) : jf_Ro_isBlock b (nI a) (nI c) = if jbit b (a + 8 * c) then 1 else 0 :=
  rc_block b h (by omega) (by rw [show (8 : Int32) = nI 8 from rfl, pk_mul, nI_add])
theorem jbl_floor {isB : Nat → Int32} {B : Nat → Bool} (h : jBl isB B) {a c : Nat} (ha : a < 8) (hc : c < 8) (h2 : jf_Mo_isCell (nI a) (nI c) = 1) : jf_Mo_isFloor isB (nI a) (nI c) = some (if B (a + 8 * c) then 0 else 1) :=
  rm_floor h h2 (by omega) (by rw [show (8 : Int32) = nI 8 from rfl, pk_mul, nI_add]; congr 1; omega)
/-- a shot: the class's checks and the model's -/
theorem jshot {b : Int64} {isB : Nat → Int32} (h : jBl isB (jbit b)) (th x1 x2 x3 n M : Int32) :
    (∃ x y d : Nat, x < 8 ∧ y < 8 ∧ d < 4 ∧ x1 = nI x ∧ x2 = nI y ∧ x3 = nI d ∧ jbit b (x + 8 * y) = false ∧ 0 ≤ n ∧ n ≤ M ∧ jf_Bi_checkShot b x1 x2 x3 n M = .inl () ∧ jf_Mo_asksShot th isB x1 x2 x3 (jf_Mo_in n 0 M) = some (1, 0)) ∨
    (jf_Bi_checkShot b x1 x2 x3 n M = .inr eI ∧ jf_Mo_asksShot th isB x1 x2 x3 (jf_Mo_in n 0 M) = some (0, 1)) ∨
    (jf_Bi_checkShot b x1 x2 x3 n M = .inr eA ∧ jf_Mo_asksShot th isB x1 x2 x3 (jf_Mo_in n 0 M) = some (0, 2)) ∨
    (jf_Bi_checkShot b x1 x2 x3 n M = .inr eS ∧ jf_Mo_asksShot th isB x1 x2 x3 (jf_Mo_in n 0 M) = some (0, 3)) := by
  rcases jcell8 (x := x1) (y := x2) with ⟨x, y, hx, hy, rfl, rfl, e1, e2⟩ | ⟨e1, e2⟩
  · have c0 : jf_Bi_checkCell (nI x) (nI y) = .inl () := by unfold jf_Bi_checkCell; rw [e1]; rfl
    rcases jrange x3 0 3 with ⟨a1, a2, a3, a4⟩ | ⟨a3, a4⟩
    · obtain ⟨d, hd, rfl⟩ := jnat_of a1 (n := 3) a2 (by decide)
      rcases jrange n 0 M with ⟨c1, c2, c3, c4⟩ | ⟨c3, c4⟩
      · have hc : jf_Bi_checkShot b (nI x) (nI y) (nI d) n M = if jbit b (x + 8 * y) then .inr eS else .inl () := by
          unfold jf_Bi_checkShot
          rw [c0, a3, c3]
          simp only [jsum]
          rw [jbl_block b hx hy e1]
          cases jbit b (x + 8 * y) <;> rfl
        have hm : jf_Mo_asksShot th isB (nI x) (nI y) (nI d) (jf_Mo_in n 0 M) = if jbit b (x + 8 * y) then some (0, 3) else some (1, 0) := by
          unfold jf_Mo_asksShot
          rw [e2, a4, c4, jbl_floor h hx hy e2]
          cases jbit b (x + 8 * y) <;> rfl
        cases k : jbit b (x + 8 * y) with
        | false => rw [k] at hc hm; left; exact ⟨x, y, d, hx, hy, by omega, rfl, rfl, rfl, k, c1, c2, hc, hm⟩
        | true => rw [k] at hc hm; right; right; right; exact ⟨hc, hm⟩
      · right; right; left
        exact ⟨by unfold jf_Bi_checkShot; rw [c0, a3, c3]; rfl, by unfold jf_Mo_asksShot; rw [e2, a4, c4]; rfl⟩
    · right; right; left
      exact ⟨by unfold jf_Bi_checkShot; rw [c0, a3]; rfl, by unfold jf_Mo_asksShot; rw [e2, a4]; rfl⟩
  · have c0 : jf_Bi_checkCell x1 x2 = .inr eI := by unfold jf_Bi_checkCell; rw [e1]; rfl
    right; left
    exact ⟨by unfold jf_Bi_checkShot; rw [c0]; rfl, by unfold jf_Mo_asksShot; rw [e2]; rfl⟩
theorem jst_c {x y d : Nat} (v : Int32) : jf_Ro_stateOf (nI x) (nI y) (nI d) (jb v) = nI (x + 8 * y + 64 * d + (if v = 0 then 0 else 256)) := by
  unfold jf_Ro_stateOf jf_Ro_stateOf_b22 jb
  rw [show (8 : Int32) = nI 8 from rfl, show (64 : Int32) = nI 64 from rfl, pk_mul, pk_mul, nI_add, nI_add, show (0 : Int32) = nI 0 from rfl, show (256 : Int32) = nI 256 from rfl, nI_add, nI_add]
  by_cases h : v = nI 0
  · rw [if_pos h, if_pos h, if_pos rfl]
  · rw [if_neg h, if_neg h, if_neg (by decide)]
theorem jst_m {x y d : Nat} (v : Int32) : jf_Mo_stateOf (nI x) (nI y) (nI d) (jb v) = nI (x + 8 * y + 64 * d + (if v = 0 then 0 else 256)) := jst_c v
theorem jst_F {B : Nat → Bool} {x y d : Nat} (v : Int32) (hx : x < 8) (hy : y < 8) (hd : d < 4) (h : B (x + 8 * y) = false) : rF B (x + 8 * y + 64 * d + (if v = 0 then 0 else 256)) := by
  refine ⟨by split <;> omega, ?_⟩
  rw [show (x + 8 * y + 64 * d + (if v = 0 then 0 else 256)) % 64 = x + 8 * y by split <;> omega]
  exact h
/-! periods -/
theorem rA_per (B : Nat → Bool) {s : Nat} (h : rF B s) : ∃ p, jPer (rA B) s p ∧ p ≤ 512 :=
  jper_ex (P := rF B) (g := rB B) (fun _ h => rA_F h) (fun _ h => rBA h) (fun _ h => h.1) h
theorem rA_it {B : Nat → Bool} {s : Nat} (h : rF B s) (k : Nat) : rF B (jit (rA B) k s) := jit_P (fun _ h => rA_F h) h k
theorem rB_it {B : Nat → Bool} {s : Nat} (h : rF B s) (k : Nat) : rF B (jit (rB B) k s) := jit_P (fun _ h => rB_F h) h k
theorem rc_rounds (b : Int64) {s p : Nat} (h : rF (jbit b) s) (hp : jPer (rA (jbit b)) s p) (h5 : p ≤ 512) : ∀ j n k, k + j = p → 1 ≤ k → j < n → jf_Ro_stepsRound_L8 b (nI s) n (nI k) (nI (jit (rA (jbit b)) k s)) = some (nI p) := by
  intro j
  induction j with
  | zero =>
    intro n k e hk hn
    obtain ⟨m, rfl⟩ : ∃ m, n = m + 1 := ⟨n - 1, by omega⟩
    have : k = p := by omega
    subst this
    rw [jf_Ro_stepsRound_L8, hp.2.1, if_pos rfl]
  | succ j ih =>
    intro n k e hk hn
    obtain ⟨m, rfl⟩ : ∃ m, n = m + 1 := ⟨n - 1, by omega⟩
    have hF := rA_it h k
    have hne : ¬ nI (jit (rA (jbit b)) k s) = nI s := by
      rw [nI_eq (by have := hF.1; omega) (by have := h.1; omega)]
      exact hp.2.2 k hk (by omega)
    rw [jf_Ro_stepsRound_L8, if_neg hne, if_neg (nge512 (by omega))]
    simp only [jlet]
    rw [rc_after b hF.1, nI_1]
    exact ih m (k + 1) (by omega) (by omega) (by omega)
theorem jF_gt {n : Nat} (h : n ≤ 8589934591) : n < jF := by unfold jF; omega
theorem rc_period (b : Int64) {s p : Nat} (h : rF (jbit b) s) (hp : jPer (rA (jbit b)) s p) (h5 : p ≤ 512) : jf_Ro_stepsRound b (nI s) = some (nI p) := by
  unfold jf_Ro_stepsRound
  simp only [jlet]
  rw [rc_after b h.1, show nI (rA (jbit b) s) = nI (jit (rA (jbit b)) 1 s) from rfl, show (1 : Int32) = nI 1 from rfl, rc_rounds b h hp h5 (p - 1) jF 1 (by have := hp.1; omega) (Nat.le_refl 1) (jF_gt (by omega))]
  rfl
theorem rc_roundsB (b : Int64) {s p : Nat} (h : rF (jbit b) s) (hp : jPer (rB (jbit b)) s p) (h5 : p ≤ 512) : ∀ j n k, k + j = p → 1 ≤ k → j < n → jf_Ro_stepsRoundBackwards_L8 b (nI s) n (nI k) (nI (jit (rB (jbit b)) k s)) = some (nI p) := by
  intro j
  induction j with
  | zero =>
    intro n k e hk hn
    obtain ⟨m, rfl⟩ : ∃ m, n = m + 1 := ⟨n - 1, by omega⟩
    have : k = p := by omega
    subst this
    rw [jf_Ro_stepsRoundBackwards_L8, hp.2.1, if_pos rfl]
  | succ j ih =>
    intro n k e hk hn
    obtain ⟨m, rfl⟩ : ∃ m, n = m + 1 := ⟨n - 1, by omega⟩
    have hF := rB_it h k
    have hne : ¬ nI (jit (rB (jbit b)) k s) = nI s := by
      rw [nI_eq (by have := hF.1; omega) (by have := h.1; omega)]
      exact hp.2.2 k hk (by omega)
    rw [jf_Ro_stepsRoundBackwards_L8, if_neg hne, if_neg (nge512 (by omega))]
    simp only [jlet]
    rw [rc_before b hF.1, nI_1]
    exact ih m (k + 1) (by omega) (by omega) (by omega)
theorem rc_periodB (b : Int64) {s p : Nat} (h : rF (jbit b) s) (hp : jPer (rA (jbit b)) s p) (h5 : p ≤ 512) : jf_Ro_stepsRoundBackwards b (nI s) = some (nI p) := by
  have hp2 : jPer (rB (jbit b)) s p := jper_back (P := rF (jbit b)) (fun _ h => rA_F h) (fun _ h => rB_F h) (fun _ h => rBA h) (fun _ h => rAB h) h hp
  unfold jf_Ro_stepsRoundBackwards
  simp only [jlet]
  rw [rc_before b h.1, show nI (rB (jbit b) s) = nI (jit (rB (jbit b)) 1 s) from rfl, show (1 : Int32) = nI 1 from rfl, rc_roundsB b h hp2 h5 (p - 1) jF 1 (by have := hp.1; omega) (Nat.le_refl 1) (jF_gt (by omega))]
  rfl
theorem rm_rounds {isB : Nat → Int32} {B : Nat → Bool} (hB : jBl isB B) {s p : Nat} (h : rF B s) (hp : jPer (rA B) s p) (h5 : p ≤ 512) : ∀ j n k v, k + j = p → 1 ≤ k → j < n → ∃ v', jf_Mo_periodOf_L8 isB (nI s) n (nI k) (nI (jit (rA B) k s)) v = some (nI p, v') := by
  intro j
  induction j with
  | zero =>
    intro n k v e hk hn
    obtain ⟨m, rfl⟩ : ∃ m, n = m + 1 := ⟨n - 1, by omega⟩
    have : k = p := by omega
    subst this
    rw [jf_Mo_periodOf_L8, hp.2.1, if_pos rfl]
    exact ⟨_, rfl⟩
  | succ j ih =>
    intro n k v e hk hn
    obtain ⟨m, rfl⟩ : ∃ m, n = m + 1 := ⟨n - 1, by omega⟩
    have hF := rA_it h k
    have hne : ¬ nI (jit (rA B) k s) = nI s := by
      rw [nI_eq (by have := hF.1; omega) (by have := h.1; omega)]
      exact hp.2.2 k hk (by omega)
    rw [jf_Mo_periodOf_L8, if_neg hne, rm_step v hB hF.1]
    simp only [Option.bind]
    rw [nI_1]
    exact ih m (k + 1) _ (by omega) (by omega) (by omega)
theorem rm_period {isB : Nat → Int32} {B : Nat → Bool} (hB : jBl isB B) {s p : Nat} (h : rF B s) (hp : jPer (rA B) s p) (h5 : p ≤ 512) (v : Int32) : ∃ v', jf_Mo_periodOf v isB (nI s) = some (nI p, v') := by
  unfold jf_Mo_periodOf
  rw [rm_step v hB h.1]
  simp only [Option.bind]
  obtain ⟨v', e⟩ := rm_rounds hB h hp h5 (p - 1) jF 1 (if rHit B s then 1 else 0) (by have := hp.1; omega) (Nat.le_refl 1) (jF_gt (by omega))
  refine ⟨v', ?_⟩
  show Option.bind (jf_Mo_periodOf_L8 isB (nI s) jF (nI 1) (nI (jit (rA B) 1 s)) (if rHit B s then 1 else 0)) _ = _
  rw [e]
  rfl
