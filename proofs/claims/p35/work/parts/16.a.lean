/-! plain facts: what the class's functions and the model's have in common -/
/-- f holds at every number below n -/
def jall : Nat → (Nat → Bool) → Bool
  | 0, _ => true
  | n + 1, f => f n && jall n f
theorem jall_at {n : Nat} {f : Nat → Bool} (h : jall n f = true) : ∀ k, k < n → f k = true := by
  induction n with
  | zero => intro k hk; omega
  | succ n ih =>
    intro k hk
    rw [jall, Bool.and_eq_true] at h
    by_cases e : k = n
    · rw [e]; exact h.1
    · exact ih h.2 k (by omega)
theorem jall_of {n : Nat} {p : Nat → Prop} [∀ k, Decidable (p k)] (h : jall n (fun k => decide (p k)) = true) : ∀ k, k < n → p k :=
  fun k hk => of_decide_eq_true (jall_at h k hk)
/-- a bit of a long -/
def jbit (b : Int64) (k : Nat) : Bool := b.toBitVec.getLsbD k
theorem jsh63 {k : Nat} (hk : k < 64) : (((nI k).toInt64.toUInt64 &&& Int64.toUInt64 63).toBitVec % 64#64).toNat = k :=
  jall_of (p := fun k => (((nI k).toInt64.toUInt64 &&& Int64.toUInt64 63).toBitVec % 64#64).toNat = k) (by decide +kernel) k hk
theorem jlushr_nat (b : Int64) {k : Nat} (hk : k < 64) : (jlushr b (nI k)).toBitVec.toNat = b.toBitVec.toNat >>> k := by
  unfold jlushr
  show ((b.toUInt64 >>> ((nI k).toInt64.toUInt64 &&& Int64.toUInt64 63)).toBitVec).toNat = _
  rw [UInt64.toBitVec_shiftRight, BitVec.ushiftRight_eq']
  show (b.toUInt64.toBitVec >>> (((nI k).toInt64.toUInt64 &&& Int64.toUInt64 63).toBitVec % 64#64).toNat).toNat = _
  rw [jsh63 hk, BitVec.toNat_ushiftRight]
  rfl
theorem jbit_at (b : Int64) {k : Nat} (hk : k < 64) : (if lg_cmp ((jlushr b (nI k)) &&& 1) 0 = 0 then (0 : Int32) else 1) = if jbit b k then 1 else 0 := by
  have h : ((jlushr b (nI k)) &&& 1 = 0) ↔ jbit b k = false := by
    rw [← Int64.toBitVec_inj, ← BitVec.toNat_inj]
    show (((jlushr b (nI k)).toBitVec &&& 1#64).toNat = 0) ↔ _
    rw [BitVec.toNat_and, jlushr_nat b hk, jbit, BitVec.getLsbD, Nat.testBit]
    show ((b.toBitVec.toNat >>> k) &&& 1 = 0) ↔ _
    rw [Nat.and_comm]
    simp
  by_cases e : jbit b k = true
  · rw [if_neg (by rw [lg_cmp_eq, h, e]; decide), if_pos e]
  · rw [if_pos (by rw [lg_cmp_eq, h]; exact Bool.not_eq_true _ ▸ e), if_neg e]

/-! the ROOM -/
def rGoal (s : Nat) : Nat := if s / 64 % 2 = 0 then (if s < 256 then 1 else 3) else (if s < 256 then 0 else 2)
def rNb (s : Nat) : Nat := if rGoal s = 0 then (if s % 8 = 0 then 64 else s % 64 - 1) else if rGoal s = 1 then (if s % 64 < 8 then 64 else s % 64 - 8) else if rGoal s = 2 then (if s % 8 = 7 then 64 else s % 64 + 1) else (if 56 ≤ s % 64 then 64 else s % 64 + 8)
def rLow (s : Nat) : Nat := if s / 64 % 4 < 2 then 256 else 0
def rStay (s : Nat) : Nat := s % 64 + 64 * rGoal s + rLow s
def rGo (s : Nat) : Nat := rNb s + 64 * ((rGoal s + 2) % 4) + rLow s
def rHit (B : Nat → Bool) (s : Nat) : Bool := rNb s == 64 || B (rNb s)
def rA (B : Nat → Bool) (s : Nat) : Nat := if rHit B s then rStay s else rGo s
theorem ra_goal : ∀ s, s < 512 → jf_Ro_goalOf (nI s) = nI (rGoal s) := jall_of (by decide +kernel)
theorem ra_cell : ∀ s, s < 512 → jf_Bi_isCell (jf_Ro_xBehind (nI s) (nI (rGoal s))) (jf_Ro_yBehind (nI s) (nI (rGoal s))) = if rNb s = 64 then 0 else 1 := jall_of (by decide +kernel)
theorem ra_nb : ∀ s, s < 512 → rNb s = 64 ∨ rNb s < 64 ∧ (jf_Ro_xBehind (nI s) (nI (rGoal s))) + 8 * (jf_Ro_yBehind (nI s) (nI (rGoal s))) = nI (rNb s) := jall_of (by decide +kernel)
theorem ra_go : ∀ s, s < 512 → rNb s = 64 ∨ jf_Ro_stateOf (jf_Ro_xBehind (nI s) (nI (rGoal s))) (jf_Ro_yBehind (nI s) (nI (rGoal s))) (jf_Ro_opposite (nI (rGoal s))) (jf_Ro_isLow (jf_Ro_sideOf (nI s))) = nI (rGo s) := jall_of (by decide +kernel)
theorem ra_stay : ∀ s, s < 512 → jf_Ro_stateOf (jf_Ro_xOf (nI s)) (jf_Ro_yOf (nI s)) (nI (rGoal s)) (jf_Ro_isLow (jf_Ro_sideOf (nI s))) = nI (rStay s) := jall_of (by decide +kernel)
theorem jb01 (c : Bool) : (if c = true then (1 : Int32) else 0) &&& 1 = if c = true then 1 else 0 := by cases c <;> decide
theorem rc_block (b : Int64) {X Y : Int32} {k : Nat} (hc : jf_Bi_isCell X Y = 1) (hk : k < 64) (e : X + 8 * Y = nI k) : jf_Ro_isBlock b X Y = if jbit b k then 1 else 0 := by
  unfold jf_Ro_isBlock
  rw [hc, if_neg (by decide), e]
  exact jbit_at b hk
theorem rc_behind (b : Int64) {s : Nat} (hs : s < 512) : jf_Ro_isBlockBehind b (nI s) (nI (rGoal s)) = if rHit (jbit b) s then 1 else 0 := by
  unfold jf_Ro_isBlockBehind
  rcases ra_nb s hs with h | ⟨h, e⟩
  · have hc := ra_cell s hs
    rw [if_pos h] at hc
    have e2 : rHit (jbit b) s = true := by rw [rHit, h]; rfl
    unfold jf_Ro_isBlock
    rw [hc, if_pos rfl, e2]
    decide
  · have hc := ra_cell s hs
    rw [if_neg (by omega)] at hc
    have e2 : rHit (jbit b) s = jbit b (rNb s) := by
      have : (rNb s == 64) = false := by rw [beq_eq_false_iff_ne]; omega
      rw [rHit, this, Bool.false_or]
    rw [rc_block b hc h e, e2, jb01]
theorem rc_bounce (b : Int64) {s : Nat} (hs : s < 512) : jf_Ro_doesBounce b (nI s) = if rHit (jbit b) s then 1 else 0 := by
  unfold jf_Ro_doesBounce
  rw [ra_goal s hs, rc_behind b hs, jb01]
theorem rc_after (b : Int64) {s : Nat} (hs : s < 512) : jf_Ro_after b (nI s) = nI (rA (jbit b) s) := by
  unfold jf_Ro_after
  simp only [jlet]
  rw [ra_goal s hs, rc_behind b hs]
  cases h : rHit (jbit b) s with
  | true =>
    rw [if_neg (by decide), ra_stay s hs, rA, h]; rfl
  | false =>
    rw [if_pos (by decide), rA, h]
    rcases ra_go s hs with e | e
    · have : rHit (jbit b) s = true := by rw [rHit, e]; rfl
      rw [this] at h; cases h
    · exact e

