/-! p35: the law's shot: points that go by halves of cells -/
theorem j6_0 : jin 0 6 = true := by decide
theorem j6_1 : jin 1 6 = true := by decide
theorem j6_2 : jin 2 6 = true := by decide
theorem j6_3 : jin 3 6 = true := by decide
theorem j6_4 : jin 4 6 = true := by decide
theorem j6_5 : jin 5 6 = true := by decide
theorem t_0 : (0 : Int32).toNatClampNeg = 0 := by decide
theorem t_1 : (1 : Int32).toNatClampNeg = 1 := by decide
theorem t_2 : (2 : Int32).toNatClampNeg = 2 := by decide
theorem t_3 : (3 : Int32).toNatClampNeg = 3 := by decide
theorem t_4 : (4 : Int32).toNatClampNeg = 4 := by decide
theorem t_5 : (5 : Int32).toNatClampNeg = 5 := by decide
def qX (s : Nat) : Int32 := nI (2 * (s % 8) + (if s / 64 % 4 = 0 then 0 else if s / 64 % 4 = 2 then 2 else 1))
def qY (s : Nat) : Int32 := nI (2 * (s / 8 % 8) + (if s / 64 % 4 = 1 then 0 else if s / 64 % 4 = 3 then 2 else 1))
def qBy (s : Nat) : Int32 := if s < 256 then -1 else 1
def qU (s : Nat) : Int32 := if s / 64 % 2 = 0 then (if s / 64 % 4 = 0 then 1 else -1) else qBy s
def qV (s : Nat) : Int32 := if s / 64 % 2 = 0 then qBy s else (if s / 64 % 4 = 1 then 1 else -1)
/-- six numbers in a row -/
def qR (x y u v a c : Int32) : Nat → Int32 := fun i => if i = 0 then x else if i = 1 then y else if i = 2 then u else if i = 3 then v else if i = 4 then a else if i = 5 then c else 0
theorem qR_0 (x y u v a c : Int32) : qR x y u v a c 0 = x := rfl
theorem qR_1 (x y u v a c : Int32) : qR x y u v a c 1 = y := rfl
theorem qR_2 (x y u v a c : Int32) : qR x y u v a c 2 = u := rfl
theorem qR_3 (x y u v a c : Int32) : qR x y u v a c 3 = v := rfl
theorem qR_4 (x y u v a c : Int32) : qR x y u v a c 4 = a := rfl
theorem qR_5 (x y u v a c : Int32) : qR x y u v a c 5 = c := rfl
theorem qR_u0 (x y u v a c z : Int32) : upd (qR x y u v a c) 0 z = qR z y u v a c := by funext i; unfold upd qR; by_cases h : i = 0 <;> simp [h]
theorem qR_u1 (x y u v a c z : Int32) : upd (qR x y u v a c) 1 z = qR x z u v a c := by funext i; unfold upd qR; by_cases h : i = 1 <;> simp [h]
theorem qR_u2 (x y u v a c z : Int32) : upd (qR x y u v a c) 2 z = qR x y z v a c := by funext i; unfold upd qR; by_cases h : i = 2 <;> simp [h]
theorem qR_u3 (x y u v a c z : Int32) : upd (qR x y u v a c) 3 z = qR x y u z a c := by funext i; unfold upd qR; by_cases h : i = 3 <;> simp [h]
theorem qR_u4 (x y u v a c z : Int32) : upd (qR x y u v a c) 4 z = qR x y u v z c := by funext i; unfold upd qR; by_cases h : i = 4 <;> simp [h]
theorem qR_u5 (x y u v a c z : Int32) : upd (qR x y u v a c) 5 z = qR x y u v a z := by funext i; unfold upd qR; by_cases h : i = 5 <;> simp [h]
theorem qR_z : (fun _ => 0 : Nat → Int32) = qR 0 0 0 0 0 0 := by funext i; unfold qR; simp only [ite_self]
abbrev qA (s : Nat) (a c : Int32) : Nat → Int32 := qR (qX s) (qY s) (qU s) (qV s) a c
/-- the state that a row tells, by its first four numbers -/
def qSt (x y u v : Int32) : Option Int32 := jf_Lw_stateAt (qR x y u v 0 0)
theorem qSt_eq (x y u v a c : Int32) : jf_Lw_stateAt (qR x y u v a c) = qSt x y u v := by
  unfold qSt jf_Lw_stateAt jf_Lw_stateAt_b13 jf_Lw_stateAt_b34 jf_Lw_stateAt_b39 jf_Lw_stateAt_b60 jf_Lw_stateAt_b65 jf_Lw_stateAt_b95
  simp only [j6_0, j6_1, j6_2, j6_3, t_0, t_1, t_2, t_3, qR_0, qR_1, qR_2, qR_3]
theorem q_at0 : ∀ s, s < 512 → qSt (qX s) (qY s) (qU s) (qV s) = some (nI s) := jall_of (by decide +kernel)
theorem q_at {s : Nat} (hs : s < 512) (a c : Int32) : jf_Lw_stateAt (qA s a c) = some (nI s) := (qSt_eq _ _ _ _ _ _).trans (q_at0 s hs)
/-- a step: where it comes to, and the cell that lies there -/
def qE (x : Int32) : Bool := decide (x - x / 2 * 2 = 0)
def qC (x u : Int32) : Int32 := (x + (if qE x then (if 0 ≤ u then 0 else -2) else 0)) >>> (1 &&& 31)
theorem g_113 (x y u v a c : Int32) : jf_Lw_goes_b113 (qR x y u v a c) = some (1, qR x y u v (a + 1) c) := by
  unfold jf_Lw_goes_b113
  rw [if_pos j6_4, if_pos j6_4, t_4, qR_4, qR_u4]
theorem g_74 (x y u v a c : Int32) (b : Int64) (s0 s1 s2 : Int32) : jf_Lw_goes_b74 (qR x y u v a c) b s0 s1 s2 = if jf_Lw_isFloor s0 ((s1 + s2) >>> (1 &&& 31)) b = 0 then (if x - x / 2 * 2 = 0 then some (1, qR x y (-u) v (a + 1) c) else some (1, qR x y u (-v) (a + 1) c)) else some (0, qR x y u v a c) := by
  unfold jf_Lw_goes_b74
  simp only [jlet]
  rw [if_pos j6_0, t_0, qR_0, if_pos j6_2, if_pos j6_2, if_pos j6_3, if_pos j6_3, t_2, t_3, qR_2, qR_3, qR_u2, qR_u3, g_113, g_113]
theorem g_48 (x y u v a c : Int32) (b : Int64) (s0 s1 : Int32) : jf_Lw_goes_b48 (qR x y u v a c) b s0 s1 = jf_Lw_goes_b74 (qR x y u v a c) b ((s0 + s1) >>> (1 &&& 31)) y (if y - y / 2 * 2 = 0 then (if 0 ≤ v then 0 else -2) else 0) := by
  unfold jf_Lw_goes_b48 jf_Lw_goes_b73
  rw [if_pos j6_1, if_pos j6_1, t_1, qR_1, if_pos j6_3, t_3, qR_3]
  by_cases h2 : y - y / 2 * 2 = 0
  · rw [if_pos h2, if_pos h2]
    by_cases h4 : 0 ≤ v
    · rw [if_pos h4, if_pos h4]
    · rw [if_neg h4, if_neg h4]
  · rw [if_neg h2, if_neg h2]
theorem g_0 (x y u v a c : Int32) (b : Int64) : jf_Lw_goes (qR x y u v a c) b = jf_Lw_goes_b48 (qR (x + u) (y + v) u v a (c + 1)) b (x + u) (if (x + u) - (x + u) / 2 * 2 = 0 then (if 0 ≤ u then 0 else -2) else 0) := by
  unfold jf_Lw_goes
  rw [if_pos j6_0, if_pos j6_2, if_pos j6_0, if_pos j6_1, if_pos j6_3, if_pos j6_1, if_pos j6_5, if_pos j6_5, if_pos j6_0, if_pos j6_0, if_pos j6_2, t_0, t_1, t_2, t_3, t_5, qR_0, qR_2, qR_u0, qR_1, qR_3, qR_u1, qR_5, qR_u5, qR_0, qR_2]
  unfold jf_Lw_goes_b47
  by_cases h2 : (x + u) - (x + u) / 2 * 2 = 0
  · rw [if_pos h2, if_pos h2]
    by_cases h4 : 0 ≤ u
    · rw [if_pos h4, if_pos h4]
    · rw [if_neg h4, if_neg h4]
  · rw [if_neg h2, if_neg h2]
theorem qE_if {α : Type} (x : Int32) (p q : α) : (if qE x = true then p else q) = if x - x / 2 * 2 = 0 then p else q := by
  unfold qE
  by_cases h : x - x / 2 * 2 = 0
  · rw [if_pos h, if_pos (decide_eq_true h)]
  · rw [if_neg h, if_neg (by rw [decide_eq_false h]; decide)]
theorem q_goes0 (x y u v a c : Int32) (b : Int64) : jf_Lw_goes (qR x y u v a c) b = if jf_Lw_isFloor (qC (x + u) u) (qC (y + v) v) b = 0 then (if qE (x + u) then some (1, qR (x + u) (y + v) (-u) v (a + 1) (c + 1)) else some (1, qR (x + u) (y + v) u (-v) (a + 1) (c + 1))) else some (0, qR (x + u) (y + v) u v a (c + 1)) := by
  rw [g_0, g_48, g_74]
  unfold qC
  rw [qE_if, qE_if, qE_if]
/-- the last bit behind a shift with the sign -/
theorem l_sh63 {k : Nat} (hk : k < 64) : (((nI k).toInt64 &&& 63).toBitVec.smod 64).toNat = k := jall_of (p := fun k => (((nI k).toInt64 &&& 63).toBitVec.smod 64).toNat = k) (by decide +kernel) k hk
theorem l_shb (b : Int64) {k : Nat} (hk : k < 64) : jbit (jlshr b (nI k)) 0 = jbit b k := by
  unfold jlshr jbit
  show (b.toBitVec.sshiftRight (((nI k).toInt64 &&& 63).toBitVec.smod 64).toNat).getLsbD 0 = _
  rw [l_sh63 hk, BitVec.getLsbD_sshiftRight]
  simp [hk]
theorem l_and1 (x : Int64) : x &&& 1 = if jbit x 0 then 1 else 0 := by
  rw [← Int64.toBitVec_inj, ← BitVec.toNat_inj]
  show (x.toBitVec &&& 1#64).toNat = _
  rw [BitVec.toNat_and, jbit, BitVec.getLsbD, Nat.testBit_zero]
  show x.toBitVec.toNat &&& 1 = _
  rw [Nat.and_one_is_mod]
  by_cases h : x.toBitVec.toNat % 2 = 1
  · rw [h]; rfl
  · rw [show x.toBitVec.toNat % 2 = 0 by omega]; rfl
theorem l_bit (b : Int64) {k : Nat} (hk : k < 64) : (jlshr b (nI k)) &&& 1 = if jbit b k then 1 else 0 := by rw [l_and1, l_shb b hk]
theorem l_shr (b : Int64) {k : Nat} (hk : k < 64) : (if lg_cmp ((jlshr b (nI k)) &&& 1) 0 = 0 then (1 : Int32) else 0) = if jbit b k then 0 else 1 := by
  rw [l_bit b hk]
  cases jbit b k <;> decide
theorem l_floor (b : Int64) {x y : Nat} (hx : x < 8) (hy : y < 8) : jf_Lw_isFloor (nI x) (nI y) b = if jbit b (x + 8 * y) then 0 else 1 := by
  unfold jf_Lw_isFloor
  rw [if_neg (nI_pos (by omega)), if_neg (nI_pos (by omega)), if_neg (ge_8 hx), if_neg (ge_8 hy), show (8 : Int32) = nI 8 from rfl, nI_mul, nI_add, show 8 * y + x = x + 8 * y by omega]
  exact l_shr b (by omega)
theorem q_cell0 : ∀ s, s < 512 → (rNb s = 64 ∧ (qC (qX s + qU s) (qU s) < 0 ∨ qC (qY s + qV s) (qV s) < 0 ∨ 8 ≤ qC (qX s + qU s) (qU s) ∨ 8 ≤ qC (qY s + qV s) (qV s))) ∨ (rNb s < 64 ∧ qC (qX s + qU s) (qU s) = nI (rNb s % 8) ∧ qC (qY s + qV s) (qV s) = nI (rNb s / 8)) := jall_of (by decide +kernel)
theorem l_out {X Y : Int32} (b : Int64) (h : X < 0 ∨ Y < 0 ∨ 8 ≤ X ∨ 8 ≤ Y) : jf_Lw_isFloor X Y b = 0 := by
  unfold jf_Lw_isFloor
  by_cases h1 : X < 0
  · rw [if_pos h1]
  · rw [if_neg h1]
    by_cases h2 : Y < 0
    · rw [if_pos h2]
    · rw [if_neg h2]
      by_cases h3 : 8 ≤ X
      · rw [if_pos h3]
      · rw [if_neg h3]
        rcases h with h | h | h | h
        · exact absurd h h1
        · exact absurd h h2
        · exact absurd h h3
        · rw [if_pos h]
theorem q_hit (b : Int64) {s : Nat} (hs : s < 512) : jf_Lw_isFloor (qC (qX s + qU s) (qU s)) (qC (qY s + qV s) (qV s)) b = if rHit (jbit b) s then 0 else 1 := by
  rcases q_cell0 s hs with ⟨h, k⟩ | ⟨h, k1, k2⟩
  · rw [l_out b k]
    unfold rHit
    rw [h]
    rfl
  · rw [k1, k2, l_floor b (by omega) (by omega), show rNb s % 8 + 8 * (rNb s / 8) = rNb s by omega]
    unfold rHit
    rw [show (rNb s == 64) = false from beq_eq_false_iff_ne.mpr (by omega), Bool.false_or]
theorem q_stay0 : ∀ s, s < 512 → qX (rStay s) = qX s + qU s ∧ qY (rStay s) = qY s + qV s ∧ (if qE (qX s + qU s) then qU (rStay s) = -(qU s) ∧ qV (rStay s) = qV s else qU (rStay s) = qU s ∧ qV (rStay s) = -(qV s)) := jall_of (by decide +kernel)
theorem q_go0 : ∀ s, s < 512 → rNb s = 64 ∨ qX (rGo s) = qX s + qU s ∧ qY (rGo s) = qY s + qV s ∧ qU (rGo s) = qU s ∧ qV (rGo s) = qV s := jall_of (by decide +kernel)
theorem q_goes (b : Int64) {s : Nat} (hs : s < 512) (a c : Int32) : jf_Lw_goes (qA s a c) b = some (if rHit (jbit b) s then 1 else 0, qA (rA (jbit b) s) (if rHit (jbit b) s then a + 1 else a) (c + 1)) := by
  rw [q_goes0, q_hit b hs]
  cases k : rHit (jbit b) s with
  | true =>
    have e : rA (jbit b) s = rStay s := by rw [rA, k]; rfl
    obtain ⟨h1, h2, h3⟩ := q_stay0 s hs
    rw [if_pos rfl, if_pos rfl, if_pos rfl, e]
    rw [if_pos rfl]
    by_cases g : qE (qX s + qU s) = true
    · rw [if_pos g] at h3
      rw [if_pos g, ← h1, ← h2, ← h3.1, ← h3.2]
    · rw [if_neg g] at h3
      rw [if_neg g, ← h1, ← h2, ← h3.1, ← h3.2]
  | false =>
    have e : rA (jbit b) s = rGo s := by rw [rA, k]; rfl
    obtain ⟨hn, -⟩ := rNb_ne k
    rcases q_go0 s hs with h | ⟨h1, h2, h3, h4⟩
    · exact absurd h hn
    · rw [if_neg (by decide), if_neg (by decide), if_neg (by decide), e, ← h1, ← h2]
      show some (_, qR _ _ _ _ _ _) = some (_, qR _ _ _ _ _ _)
      rw [h3, h4]
theorem q_side0 : ∀ s, s < 512 → (qE (qX s) = true ∧ ((if qU s ≤ 0 then (2 : Int32) else 0) = nI (s / 64 % 4))) ∨ (qE (qX s) = false ∧ ((if qV s ≤ 0 then (3 : Int32) else 1) = nI (s / 64 % 4))) := jall_of (by decide +kernel)
theorem q_parts0 : ∀ s, s < 512 → nI s &&& 7 = nI (s % 8) ∧ (nI s >>> (3 &&& 31)) &&& 7 = nI (s / 8 % 8) ∧ (nI s >>> (6 &&& 31)) &&& 3 = nI (s / 64 % 4) ∧ ((nI s : Int32) ≤ 255 ↔ s < 256) ∧ nI s &&& 63 = nI (s % 64) := jall_of (by decide +kernel)
/-- what stands behind the sixth place stays -/
def q6 (o : Option (Nat → Int32)) (f : Nat → Int32) : Prop := ∀ g, o = some g → ∀ i, 6 ≤ i → g i = f i
theorem q6_some (f : Nat → Int32) : q6 (some f) f := fun g hg i hi => by cases hg; rfl
theorem q6_ite {c : Prop} [Decidable c] {a b : Option (Nat → Int32)} {f : Nat → Int32} (ha : q6 a f) (hb : q6 b f) : q6 (if c then a else b) f := by
  by_cases h : c
  · rw [if_pos h]; exact ha
  · rw [if_neg h]; exact hb
theorem q6_put {f : Nat → Int32} {s : Int32} (z : Int32) {o : Option (Nat → Int32)} (h : q6 o (upd f s.toNatClampNeg z)) : q6 (if jin s 6 = true then o else none) f := by
  by_cases c : jin s 6 = true
  · rw [if_pos c]
    intro g hg i hi
    rw [h g hg i hi]
    exact upd_ne f z (fun e => jin_in c (Or.inr (by omega)))
  · rw [if_neg c]
    intro g hg
    cases hg
theorem q6_137 (f : Nat → Int32) (s1 s2 : Int32) : q6 (jf_Lw_begins_b137 f s1 s2) f := by
  unfold jf_Lw_begins_b137
  exact q6_put s2 (q6_put 0 (q6_put 0 (q6_some _)))
theorem q6_115 (f : Nat → Int32) (z2 z3 z4 s1 s2 : Int32) : q6 (jf_Lw_begins_b115 f z2 z3 z4 s1 s2) f := by
  unfold jf_Lw_begins_b115
  exact q6_put s2 (q6_ite (q6_ite (q6_137 _ _ _) (q6_137 _ _ _)) (q6_137 _ _ _))
theorem q6_93 (f : Nat → Int32) (z2 z3 z4 s1 s2 s3 : Int32) : q6 (jf_Lw_begins_b93 f z2 z3 z4 s1 s2 s3) f := by
  unfold jf_Lw_begins_b93
  exact q6_put (s2 + s3) (q6_ite (q6_115 _ _ _ _ _ _) (q6_ite (q6_115 _ _ _ _ _ _) (q6_115 _ _ _ _ _ _)))
theorem q6_62 (f : Nat → Int32) (z0 z2 z3 z4 s1 s2 s3 : Int32) : q6 (jf_Lw_begins_b62 f z0 z2 z3 z4 s1 s2 s3) f := by
  unfold jf_Lw_begins_b62
  exact q6_put (s2 + s3) (q6_ite (q6_93 _ _ _ _ _ _ _) (q6_ite (q6_93 _ _ _ _ _ _ _) (q6_93 _ _ _ _ _ _ _)))
theorem q6_34 (f : Nat → Int32) (z0 z2 z3 s0 : Int32) : q6 (jf_Lw_begins_b34 f z0 z2 z3 s0) f := by
  unfold jf_Lw_begins_b34
  exact q6_ite (q6_62 _ _ _ _ _ _ _ _) (q6_ite (q6_62 _ _ _ _ _ _ _ _) (q6_62 _ _ _ _ _ _ _ _))
theorem q6_29 (f : Nat → Int32) (z0 z2 z3 : Int32) : q6 (jf_Lw_begins_b29 f z0 z2 z3) f := by
  unfold jf_Lw_begins_b29
  exact q6_34 _ _ _ _ _
theorem q6_19 (f : Nat → Int32) (z0 z2 s0 : Int32) : q6 (jf_Lw_begins_b19 f z0 z2 s0) f := by
  unfold jf_Lw_begins_b19
  exact q6_ite (q6_29 _ _ _ _) (q6_ite (q6_29 _ _ _ _) (q6_34 _ _ _ _ _))
theorem q_beginN {f g : Nat → Int32} {x : Int32} (h : jf_Lw_begins f x = some g) : ∀ i, 6 ≤ i → g i = f i := by
  have h2 : q6 (jf_Lw_begins f x) f := by
    unfold jf_Lw_begins
    simp only [jlet]
    exact q6_ite (q6_19 _ _ _ _) (q6_19 _ _ _ _)
  exact h2 g h
theorem q_begin0 : jall 512 (fun s => match jf_Lw_begins (fun _ => 0) (nI s) with | some f => jall 6 (fun i => f i == qA s 0 0 i) | none => false) = true := by decide +kernel
theorem q_begin {s : Nat} (hs : s < 512) : jf_Lw_begins (fun _ => 0) (nI s) = some (qA s 0 0) := by
  have h := jall_at q_begin0 s hs
  cases e : jf_Lw_begins (fun _ => 0) (nI s) with
  | none => rw [e] at h; cases h
  | some g =>
    rw [e] at h
    refine congrArg some (funext fun i => ?_)
    by_cases hi : i < 6
    · exact eq_of_beq (jall_at h i hi)
    · rw [q_beginN e i (by omega)]
      unfold qA qR
      simp only [show i ≠ 0 by omega, show i ≠ 1 by omega, show i ≠ 2 by omega, show i ≠ 3 by omega, show i ≠ 4 by omega, show i ≠ 5 by omega, if_false]
