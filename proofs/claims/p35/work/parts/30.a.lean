/-! p35: what the class answers of a shot, by numbers alone -/
theorem nI_mul (a b : Nat) : nI a * nI b = nI (a * b) := pk_mul a b
theorem nI_inj {a b : Nat} (ha : a < 2 ^ 31) (hb : b < 2 ^ 31) (h : nI a = nI b) : a = b := (nI_eq ha hb).1 h
theorem ge_10 {a : Nat} (h : a < 10) : ¬ (10 : Int32) ≤ nI a := nI_ge (b := 10) h (by decide)
theorem ge_128 {a : Nat} (h : a < 128) : ¬ (128 : Int32) ≤ nI a := nI_ge (b := 128) h (by decide)
theorem ge_161 {a : Nat} (h : a < 161) : ¬ (161 : Int32) ≤ nI a := nI_ge (b := 161) h (by decide)
theorem ge_300 {a : Nat} (h : a < 300) : ¬ (300 : Int32) ≤ nI a := nI_ge (b := 300) h (by decide)
theorem ge_5 {a : Nat} (h : a < 5) : ¬ (5 : Int32) ≤ nI a := nI_ge (b := 5) h (by decide)
theorem ge_64 {a : Nat} (h : a < 64) : ¬ (64 : Int32) ≤ nI a := nI_ge (b := 64) h (by decide)
theorem ge_8 {a : Nat} (h : a < 8) : ¬ (8 : Int32) ≤ nI a := nI_ge (b := 8) h (by decide)
theorem le_128 {b : Nat}  (h : 128 ≤ b) (hb : b < 2 ^ 31) : (128 : Int32) ≤ nI b := nI_le (a := 128) h hb
theorem le_64 {b : Nat}  (h : 64 ≤ b) (hb : b < 2 ^ 31) : (64 : Int32) ≤ nI b := nI_le (a := 64) h hb
theorem c_range {x lo hi : Int32} (h1 : lo ≤ x) (h2 : x ≤ hi) : jf_Bi_checkRange x lo hi = .inl () := by
  rcases jrange x lo hi with ⟨-, -, h, -⟩ | ⟨h, -⟩
  · exact h
  · exfalso
    unfold jf_Bi_checkRange at h
    rw [if_neg (Int32.not_lt.mpr h1), if_pos h2] at h
    cases h
theorem c_cell {x y : Nat} (hx : x < 8) (hy : y < 8) : jf_Bi_checkCell (nI x) (nI y) = .inl () := by
  unfold jf_Bi_checkCell
  rw [(lcell x hx y hy).1]
  rfl
theorem c_shot (b : Int64) {x y d : Nat} {n M : Int32} (hx : x < 8) (hy : y < 8) (hd : d < 4) (h0 : 0 ≤ n) (hM : n ≤ M) : jf_Bi_checkShot b (nI x) (nI y) (nI d) n M = if jbit b (x + 8 * y) then .inr eS else .inl () := by
  unfold jf_Bi_checkShot
  rw [c_cell hx hy, c_range (lo := 0) (hi := 3) (nI_pos' (by omega)) (nI_le (b := 3) (by omega) (by decide)), c_range h0 hM]
  simp only [jsum]
  rw [jbl_block b hx hy (lcell x hx y hy).1]
  cases jbit b (x + 8 * y) <;> rfl
/-- the state of a shot from its parts -/
def sV (s : Nat) : Int32 := if s < 256 then 0 else 1
theorem c_st {s : Nat} (hs : s < 512) : jf_Ro_stateOf (nI (s % 8)) (nI (s / 8 % 8)) (nI (s / 64 % 4)) (sV s) = nI s := jall_of (p := fun s => jf_Ro_stateOf (nI (s % 8)) (nI (s / 8 % 8)) (nI (s / 64 % 4)) (sV s) = nI s) (by decide +kernel) s hs
theorem c_cut {s : Nat} (hs : s < 512) : s % 8 + 8 * (s / 8 % 8) = s % 64 := by omega
theorem c_period (b : Int64) {s p : Nat} (h : rF (jbit b) s) (hp : jPer (rA (jbit b)) s p) (h5 : p ≤ 512) : jf_Lw_period b (nI (s % 8)) (nI (s / 8 % 8)) (nI (s / 64 % 4)) (sV s) = some (nI p) := by
  unfold jf_Lw_period jf_Bi_period
  rw [c_shot b (by omega) (by omega) (by omega) (Int32.le_refl 0) (Int32.le_refl 0), c_cut h.1, h.2, c_st h.1]
  simp only [jsum, Bool.false_eq_true, if_false]
  rw [rc_period b h hp h5]
  rfl
theorem c_periodAnew (b : Int64) {s p : Nat} (h : rF (jbit b) s) (hp : jPer (rA (jbit b)) s p) (h5 : p ≤ 512) : jf_Lw_periodAnew b (nI (s % 8)) (nI (s / 8 % 8)) (nI (s / 64 % 4)) (sV s) = some (nI p) := by
  unfold jf_Lw_periodAnew jf_Bi_periodAnew
  rw [c_shot b (by omega) (by omega) (by omega) (Int32.le_refl 0) (Int32.le_refl 0), c_cut h.1, h.2, c_st h.1]
  simp only [jsum, Bool.false_eq_true, if_false]
  rw [rc_periodB b h hp h5]
  rfl
theorem c_bounces (b : Int64) {s p : Nat} (h : rF (jbit b) s) (hp : jPer (rA (jbit b)) s p) (h5 : p ≤ 512) : jf_Lw_bounces b (nI (s % 8)) (nI (s / 8 % 8)) (nI (s / 64 % 4)) (sV s) = some (nI (rH (jbit b) s p)) := by
  unfold jf_Lw_bounces jf_Bi_bounces
  rw [c_shot b (by omega) (by omega) (by omega) (Int32.le_refl 0) (Int32.le_refl 0), c_cut h.1, h.2, c_st h.1]
  simp only [jsum, Bool.false_eq_true, if_false]
  rw [rc_bounces b h hp h5]
  rfl
theorem c_touched (b : Int64) {s p : Nat} (h : rF (jbit b) s) (hp : jPer (rA (jbit b)) s p) (h5 : p ≤ 512) : jf_Lw_touched b (nI (s % 8)) (nI (s / 8 % 8)) (nI (s / 64 % 4)) (sV s) = some (nI (jcnt 64 (rV (jbit b) s p))) := by
  unfold jf_Lw_touched jf_Bi_touched
  rw [c_shot b (by omega) (by omega) (by omega) (Int32.le_refl 0) (Int32.le_refl 0), c_cut h.1, h.2, c_st h.1]
  simp only [jsum, Bool.false_eq_true, if_false]
  rw [rc_touched b h hp h5]
  rfl
theorem c_state (b : Int64) {s p n : Nat} (h : rF (jbit b) s) (hp : jPer (rA (jbit b)) s p) (h5 : p ≤ 512) (hn : n < 2 ^ 31) : jf_Lw_state b (nI (s % 8)) (nI (s / 8 % 8)) (nI (s / 64 % 4)) (sV s) (nI n) = some (nI (jit (rA (jbit b)) (n % p) s)) := by
  have hp1 := hp.1
  have hr : n % p < 2 ^ 31 := Nat.lt_of_le_of_lt (Nat.mod_le n p) hn
  have e5 := rc_walk b h hr (n % p) jF 0 (by omega) (jF_gt (by omega))
  have hq : ¬ nI p = 0 := nI_ne0 (by omega) (by omega)
  unfold jf_Lw_state jf_Bi_state
  rw [c_shot b (M := 2147483647) (by omega) (by omega) (by omega) (nI_pos' hn) (nI_le (b := 2147483647) (by omega) (by decide)), c_cut h.1, h.2, c_st h.1]
  simp only [jsum, Bool.false_eq_true, if_false]
  unfold jf_Ro_stateBehind jf_Ro_stateBehind_b17
  rw [rc_period b h hp h5]
  simp only [Option.bind]
  rw [if_neg (nI_nle (by omega) (by omega)), if_neg hq, pk_rem hn (by omega) (by omega)]
  rw [show jf_Ro_stateBehind_L25 b (nI (n % p)) jF (nI s) 0 = some (nI (jit (rA (jbit b)) (n % p) s)) from e5]
  rfl
/-- the hits before a hit are its number -/
theorem rH_one {B : Nat → Bool} {s t t' : Nat} (h : rHit B (jit (rA B) t s) = true) (h' : rHit B (jit (rA B) t' s) = true) (e : rH B s t = rH B s t') : t = t' := by
  have key : ∀ a c : Nat, rHit B (jit (rA B) a s) = true → a < c → rH B s a + 1 ≤ rH B s c := by
    intro a c ha hac
    obtain ⟨j, rfl⟩ : ∃ j, c = a + 1 + j := ⟨c - (a + 1), by omega⟩
    have h1 := rH_mono B s (k := a + 1) j
    have h2 : rH B s (a + 1) = rH B s a + 1 := by show rH B s a + (if rHit B (jit (rA B) a s) then 1 else 0) = _; rw [ha]; rfl
    omega
  rcases Nat.lt_trichotomy t t' with c | c | c
  · have := key t t' h c; omega
  · exact c
  · have := key t' t h' c; omega
theorem c_bounce (b : Int64) {s p t : Nat} (h : rF (jbit b) s) (hp : jPer (rA (jbit b)) s p) (h5 : p ≤ 512) (ht : t < p) (hh : rHit (jbit b) (jit (rA (jbit b)) t s) = true) : jf_Lw_bounce b (nI (s % 8)) (nI (s / 8 % 8)) (nI (s / 64 % 4)) (sV s) (nI (rH (jbit b) s t)) = some (nI (rGoal (jit (rA (jbit b)) t s))) := by
  have hpos := rH_pos h hp
  have hle := rH_le (jbit b) s t
  have hle2 := rH_le (jbit b) s p
  have hlt : rH (jbit b) s t < rH (jbit b) s p := by
    obtain ⟨j, rfl⟩ : ∃ j, p = t + 1 + j := ⟨p - (t + 1), by omega⟩
    have h1 := rH_mono (jbit b) s (k := t + 1) j
    have h2 : rH (jbit b) s (t + 1) = rH (jbit b) s t + 1 := by show rH (jbit b) s t + (if rHit (jbit b) (jit (rA (jbit b)) t s) then 1 else 0) = _; rw [hh]; rfl
    omega
  have e5 := rc_bounceAt b h (by omega) hh rfl t jF 0 (by omega) (jF_gt (by omega))
  have hFt := rA_it h t
  have hq : ¬ nI (rH (jbit b) s p) = 0 := nI_ne0 hpos (by omega)
  unfold jf_Lw_bounce jf_Bi_bounce
  rw [c_shot b (M := 100000) (by omega) (by omega) (by omega) (nI_pos' (by omega)) (nI_le (b := 100000) (by omega) (by decide)), c_cut h.1, h.2, c_st h.1]
  simp only [jsum, Bool.false_eq_true, if_false]
  unfold jf_Ro_sideOfBounce jf_Ro_sideOfBounce_b17
  rw [rc_bounces b h hp h5]
  simp only [Option.bind]
  rw [if_neg (nI_nle (by omega) (by omega)), if_neg hq, pk_rem (by omega) (by omega) (by omega), Nat.mod_eq_of_lt hlt]
  rw [show jf_Ro_sideOfBounce_L25 b jF (nI (rH (jbit b) s t)) (nI s) 0 = some (.inl (nI (jit (rA (jbit b)) t s))) from e5]
  simp only [jsum]
  rw [ra_goal _ hFt.1]
  rfl
