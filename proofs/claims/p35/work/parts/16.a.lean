/-! plain facts: what the class's functions and the model's have in common -/
/-- f holds at every number below n -/
def jall : Nat → (Nat → Bool) → Bool
  | 0, _ => true
  | n + 1, f => f n && jall n f
theorem jall_at {n : Nat} {f : Nat → Bool} (h : jall n f = true) : ∀ k, k < n → f k = true := by
  induction n with
  | zero => intro k hk; omega
  | succ n ih =>
    intro k hk
    rw [jall, Bool.and_eq_true] at h
    by_cases e : k = n
    · rw [e]; exact h.1
    · exact ih h.2 k (by omega)
theorem jall_of {n : Nat} {p : Nat → Prop} [∀ k, Decidable (p k)] (h : jall n (fun k => decide (p k)) = true) : ∀ k, k < n → p k :=
  fun k hk => of_decide_eq_true (jall_at h k hk)
/-- a bit of a long -/
def jbit (b : Int64) (k : Nat) : Bool := b.toBitVec.getLsbD k
theorem jsh63 {k : Nat} (hk : k < 64) : (((nI k).toInt64.toUInt64 &&& Int64.toUInt64 63).toBitVec % 64#64).toNat = k :=
  jall_of (p := fun k => (((nI k).toInt64.toUInt64 &&& Int64.toUInt64 63).toBitVec % 64#64).toNat = k) (by decide +kernel) k hk
theorem jlushr_nat (b : Int64) {k : Nat} (hk : k < 64) : (jlushr b (nI k)).toBitVec.toNat = b.toBitVec.toNat >>> k := by
  unfold jlushr
  show ((b.toUInt64 >>> ((nI k).toInt64.toUInt64 &&& Int64.toUInt64 63)).toBitVec).toNat = _
  rw [UInt64.toBitVec_shiftRight, BitVec.ushiftRight_eq']
  show (b.toUInt64.toBitVec >>> (((nI k).toInt64.toUInt64 &&& Int64.toUInt64 63).toBitVec % 64#64).toNat).toNat = _
  rw [jsh63 hk, BitVec.toNat_ushiftRight]
  rfl
theorem jbit_at (b : Int64) {k : Nat} (hk : k < 64) : (if lg_cmp ((jlushr b (nI k)) &&& 1) 0 = 0 then (0 : Int32) else 1) = if jbit b k then 1 else 0 := by
  have h : ((jlushr b (nI k)) &&& 1 = 0) ↔ jbit b k = false := by
    rw [← Int64.toBitVec_inj, ← BitVec.toNat_inj]
    show (((jlushr b (nI k)).toBitVec &&& 1#64).toNat = 0) ↔ _
    rw [BitVec.toNat_and, jlushr_nat b hk, jbit, BitVec.getLsbD, Nat.testBit]
    show ((b.toBitVec.toNat >>> k) &&& 1 = 0) ↔ _
    rw [Nat.and_comm]
    simp
  by_cases e : jbit b k = true
  · rw [if_neg (by rw [lg_cmp_eq, h, e]; decide), if_pos e]
  · rw [if_pos (by rw [lg_cmp_eq, h]; exact Bool.not_eq_true _ ▸ e), if_neg e]

/-! the ROOM -/
def rGoal (s : Nat) : Nat := if s / 64 % 2 = 0 then (if s < 256 then 1 else 3) else (if s < 256 then 0 else 2)
def rNb (s : Nat) : Nat := if rGoal s = 0 then (if s % 8 = 0 then 64 else s % 64 - 1) else if rGoal s = 1 then (if s % 64 < 8 then 64 else s % 64 - 8) else if rGoal s = 2 then (if s % 8 = 7 then 64 else s % 64 + 1) else (if 56 ≤ s % 64 then 64 else s % 64 + 8)
def rLow (s : Nat) : Nat := if s / 64 % 4 < 2 then 256 else 0
def rStay (s : Nat) : Nat := s % 64 + 64 * rGoal s + rLow s
def rGo (s : Nat) : Nat := rNb s + 64 * ((rGoal s + 2) % 4) + rLow s
def rHit (B : Nat → Bool) (s : Nat) : Bool := rNb s == 64 || B (rNb s)
def rA (B : Nat → Bool) (s : Nat) : Nat := if rHit B s then rStay s else rGo s
theorem ra_goal : ∀ s, s < 512 → jf_Ro_goalOf (nI s) = nI (rGoal s) := jall_of (by decide +kernel)
theorem ra_cell : ∀ s, s < 512 → jf_Bi_isCell (jf_Ro_xBehind (nI s) (nI (rGoal s))) (jf_Ro_yBehind (nI s) (nI (rGoal s))) = if rNb s = 64 then 0 else 1 := jall_of (by decide +kernel)
theorem ra_nb : ∀ s, s < 512 → rNb s = 64 ∨ rNb s < 64 ∧ (jf_Ro_xBehind (nI s) (nI (rGoal s))) + 8 * (jf_Ro_yBehind (nI s) (nI (rGoal s))) = nI (rNb s) := jall_of (by decide +kernel)
theorem ra_go : ∀ s, s < 512 → rNb s = 64 ∨ jf_Ro_stateOf (jf_Ro_xBehind (nI s) (nI (rGoal s))) (jf_Ro_yBehind (nI s) (nI (rGoal s))) (jf_Ro_opposite (nI (rGoal s))) (jf_Ro_isLow (jf_Ro_sideOf (nI s))) = nI (rGo s) := jall_of (by decide +kernel)
theorem ra_stay : ∀ s, s < 512 → jf_Ro_stateOf (jf_Ro_xOf (nI s)) (jf_Ro_yOf (nI s)) (nI (rGoal s)) (jf_Ro_isLow (jf_Ro_sideOf (nI s))) = nI (rStay s) := jall_of (by decide +kernel)
theorem jb01 (c : Bool) : (if c = true then (1 : Int32) else 0) &&& 1 = if c = true then 1 else 0 := by cases c <;> decide
theorem rc_block (b : Int64) {X Y : Int32} {k : Nat} (hc : jf_Bi_isCell X Y = 1) (hk : k < 64) (e : X + 8 * Y = nI k) : jf_Ro_isBlock b X Y = if jbit b k then 1 else 0 := by
  unfold jf_Ro_isBlock
  rw [hc, if_neg (by decide), e]
  exact jbit_at b hk
theorem rc_behind (b : Int64) {s : Nat} (hs : s < 512) : jf_Ro_isBlockBehind b (nI s) (nI (rGoal s)) = if rHit (jbit b) s then 1 else 0 := by
  unfold jf_Ro_isBlockBehind
  rcases ra_nb s hs with h | ⟨h, e⟩
  · have hc := ra_cell s hs
    rw [if_pos h] at hc
    have e2 : rHit (jbit b) s = true := by rw [rHit, h]; rfl
    unfold jf_Ro_isBlock
    rw [hc, if_pos rfl, e2]
    decide
  · have hc := ra_cell s hs
    rw [if_neg (by omega)] at hc
    have e2 : rHit (jbit b) s = jbit b (rNb s) := by
      have : (rNb s == 64) = false := by rw [beq_eq_false_iff_ne]; omega
      rw [rHit, this, Bool.false_or]
    rw [rc_block b hc h e, e2, jb01]
theorem rc_bounce (b : Int64) {s : Nat} (hs : s < 512) : jf_Ro_doesBounce b (nI s) = if rHit (jbit b) s then 1 else 0 := by
  unfold jf_Ro_doesBounce
  rw [ra_goal s hs, rc_behind b hs, jb01]
theorem rc_after (b : Int64) {s : Nat} (hs : s < 512) : jf_Ro_after b (nI s) = nI (rA (jbit b) s) := by
  unfold jf_Ro_after
  simp only [jlet]
  rw [ra_goal s hs, rc_behind b hs]
  cases h : rHit (jbit b) s with
  | true =>
    rw [if_neg (by decide), ra_stay s hs, rA, h]; rfl
  | false =>
    rw [if_pos (by decide), rA, h]
    rcases ra_go s hs with e | e
    · have : rHit (jbit b) s = true := by rw [rHit, e]; rfl
      rw [this] at h; cases h
    · exact e

/-- the model's blocks and the class's are the same -/
def jBl (isB : Nat → Int32) (B : Nat → Bool) : Prop := ∀ k, k < 64 → isB k = if B k then 1 else 0
theorem rm_142 (b : Int32) (isB : Nat → Int32) (z2 z3 z7 z9 z10 s0 : Int32) : jf_Mo_step_b142 b isB z2 z3 z7 z9 z10 s0 = Option.bind (jf_Mo_isFloor isB z9 z10) (fun q => if q = 0 then some (jf_Mo_stateOf z2 z3 s0 z7, 1) else some (jf_Mo_stateOf z9 z10 ((s0 + 2) - (s0 + 2) / 4 * 4) z7, 0)) := by
  unfold jf_Mo_step_b142
  rw [if_neg (by decide), if_pos rfl]
/-- x and y behind the goal's edge, as the model finds them -/
def mX (s : Nat) : Int32 := if rGoal s = 0 then nI (s % 8) + (-1) else if rGoal s = 2 then nI (s % 8) + 1 else nI (s % 8)
def mY (s : Nat) : Int32 := if rGoal s = 1 then nI (s / 8 % 8) + (-1) else if rGoal s = 3 then nI (s / 8 % 8) + 1 else nI (s / 8 % 8)
theorem rm_form (b : Int32) (isB : Nat → Int32) {s : Nat} (hs : s < 512) : jf_Mo_step b isB (nI s) = jf_Mo_step_b142 b isB (nI (s % 8)) (nI (s / 8 % 8)) (if s / 64 % 4 < 2 then 1 else 0) (mX s) (mY s) (nI (rGoal s)) := by
  have e0 : ∃ d u, d < 4 ∧ u < 2 ∧ s / 64 % 4 = d ∧ s / 256 = u := ⟨s / 64 % 4, s / 256, by omega, by omega, rfl, rfl⟩
  obtain ⟨d, u, hd, hu, ed, eu⟩ := e0
  have hup : nI s < 256 ↔ u = 0 := by
    rw [show (256 : Int32) = nI 256 from rfl, nI_ltI (by omega) (by omega)]; omega
  have hg : rGoal s = if d % 2 = 0 then (if u = 0 then 1 else 3) else (if u = 0 then 0 else 2) := by
    unfold rGoal
    have : (s / 64 % 2 = 0) = (d % 2 = 0) := by rw [← ed]; exact propext (by omega)
    have h2 : (s < 256) = (u = 0) := propext (by omega)
    simp only [this, h2]
  unfold jf_Mo_step mX mY
  simp only [jlet]
  rw [show (8 : Int32) = nI 8 from rfl, show (64 : Int32) = nI 64 from rfl, show (4 : Int32) = nI 4 from rfl, pk_rem (by omega) (by omega) (by omega), pk_div (by omega) (by omega) (by omega), pk_rem (by omega) (by omega) (by omega), pk_div (by omega) (by omega) (by omega), pk_rem (by omega) (by omega) (by omega), ed, hg]
  generalize nI (s % 8) = X
  generalize nI (s / 8 % 8) = Y
  have hd2 : d = 0 ∨ d = 1 ∨ d = 2 ∨ d = 3 := by omega
  have hu2 : u = 0 ∨ u = 1 := by omega
  rcases hd2 with rfl | rfl | rfl | rfl <;> rcases hu2 with rfl | rfl
  · rw [if_pos (hup.2 rfl)]; rfl
  · rw [if_neg (fun h => absurd (hup.1 h) (by decide))]; rfl
  · rw [if_pos (hup.2 rfl)]; rfl
  · rw [if_neg (fun h => absurd (hup.1 h) (by decide))]; rfl
  · rw [if_pos (hup.2 rfl)]; rfl
  · rw [if_neg (fun h => absurd (hup.1 h) (by decide))]; rfl
  · rw [if_pos (hup.2 rfl)]; rfl
  · rw [if_neg (fun h => absurd (hup.1 h) (by decide))]; rfl
theorem rm_cell : ∀ s, s < 512 → jf_Mo_isCell (mX s) (mY s) = if rNb s = 64 then 0 else 1 := jall_of (by decide +kernel)
theorem rm_nb : ∀ s, s < 512 → rNb s = 64 ∨ rNb s < 64 ∧ 8 * mY s + mX s = nI (rNb s) := jall_of (by decide +kernel)
theorem rm_go : ∀ s, s < 512 → rNb s = 64 ∨ jf_Mo_stateOf (mX s) (mY s) ((nI (rGoal s) + 2) - (nI (rGoal s) + 2) / 4 * 4) (if s / 64 % 4 < 2 then 1 else 0) = nI (rGo s) := jall_of (by decide +kernel)
theorem rm_stay : ∀ s, s < 512 → jf_Mo_stateOf (nI (s % 8)) (nI (s / 8 % 8)) (nI (rGoal s)) (if s / 64 % 4 < 2 then 1 else 0) = nI (rStay s) := jall_of (by decide +kernel)
theorem rm_floor {isB : Nat → Int32} {B : Nat → Bool} (h : jBl isB B) {X Y : Int32} {k : Nat} (hc : jf_Mo_isCell X Y = 1) (hk : k < 64) (e : 8 * Y + X = nI k) : jf_Mo_isFloor isB X Y = some (if B k then 0 else 1) := by
  unfold jf_Mo_isFloor
  rw [hc, if_neg (by decide), e, if_pos (jin_of (nI_pos (by omega)) (nI_ge hk (by decide)) (by decide)), nI_clamp (by omega), h k hk]
  cases B k <;> rfl
theorem rm_step (b : Int32) {isB : Nat → Int32} {B : Nat → Bool} (h : jBl isB B) {s : Nat} (hs : s < 512) : jf_Mo_step b isB (nI s) = some (nI (rA B s), if rHit B s then 1 else 0) := by
  rw [rm_form b isB hs, rm_142]
  have hc := rm_cell s hs
  rcases rm_nb s hs with e | ⟨e, e2⟩
  · rw [if_pos e] at hc
    have h2 : rHit B s = true := by rw [rHit, e]; rfl
    unfold jf_Mo_isFloor
    rw [hc, if_pos rfl, rA, h2]
    show some (_, _) = some (_, _)
    rw [rm_stay s hs]
    rfl
  · rw [if_neg (by omega)] at hc
    have h2 : rHit B s = B (rNb s) := by
      have : (rNb s == 64) = false := by rw [beq_eq_false_iff_ne]; omega
      rw [rHit, this, Bool.false_or]
    rw [rm_floor h hc e e2, rA, h2]
    cases B (rNb s) with
    | true =>
      show some (_, _) = some (_, _)
      rw [rm_stay s hs]; rfl
    | false =>
      show some (_, _) = some (_, _)
      rcases rm_go s hs with e3 | e3
      · omega
      · rw [e3]; rfl
