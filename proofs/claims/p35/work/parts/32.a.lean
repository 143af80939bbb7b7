/-! p35: how many CELLS are lit, and their share -/
def aLit (B : Nat → Bool) (n : Nat) (L : Nat → Nat) (c : Nat) : Bool := jex n (fun i => sSee B (c % 8) (c / 8) (L i % 8) (L i / 8))
theorem a_done {lm : Nat → Int32} (z2 : Int32) (b : Int64) (z5 z6 z7 z9 : Int32) (q : Nat) : jf_Lw_areLit_L49 lm z2 b z5 z6 z7 (q + 1) 1 z9 = some 1 := by
  rw [jf_Lw_areLit_L49]
  split
  · rfl
  · rw [if_neg (by decide)]
theorem a_one (b : Int64) {n c : Nat} {lm : Nat → Int32} {L : Nat → Nat} (hn : n ≤ 6) (hl : ∀ k, k < n → L k < 64 ∧ lm k = nI (L k)) (hc : c < 64) (z5 z6 : Int32) : ∀ j k m, k + j = n → j < m → jf_Lw_areLit_L49 lm (nI n) b z5 z6 (nI c) m 0 (nI k) = some (if jex j (fun i => sSee (jbit b) (c % 8) (c / 8) (L (k + i) % 8) (L (k + i) / 8)) then 1 else 0) := by
  intro j
  induction j with
  | zero =>
    intro k m e hm
    obtain ⟨q, rfl⟩ : ∃ q, m = q + 1 := ⟨m - 1, by omega⟩
    rw [jf_Lw_areLit_L49, if_pos (nI_le (by omega) (by omega))]
    rfl
  | succ j ih =>
    intro k m e hm
    obtain ⟨q, rfl⟩ : ∃ q, m = q + 2 := ⟨m - 2, by omega⟩
    obtain ⟨hL, hk⟩ := hl k (by omega)
    have hj : jin (nI k) 6 = true := jin_nI (by omega) (by decide)
    have i1 := ih (k + 1) (q + 1) (by omega) (by omega)
    rw [jf_Lw_areLit_L49, if_neg (nI_ge (by omega) (by omega)), if_pos rfl, if_pos hj, if_pos hj, nI_clamp (by omega), hk, show (8 : Int32) = nI 8 from rfl, pk_rem (by omega) (by omega) (by omega), pk_div (by omega) (by omega) (by omega), pk_rem (by omega) (by omega) (by omega), pk_div (by omega) (by omega) (by omega), s_see b (by omega) (by omega) (by omega) (by omega)]
    simp only [Option.bind]
    rw [jex, nI_1]
    have e0 : jex j (fun i => sSee (jbit b) (c % 8) (c / 8) (L (k + (i + 1)) % 8) (L (k + (i + 1)) / 8)) = jex j (fun i => sSee (jbit b) (c % 8) (c / 8) (L (k + 1 + i) % 8) (L (k + 1 + i) / 8)) := jex_eq (fun i _ => by rw [show k + (i + 1) = k + 1 + i by omega])
    rw [e0, show k + 0 = k from rfl]
    cases sSee (jbit b) (c % 8) (c / 8) (L k % 8) (L k / 8) with
    | true => rw [if_pos rfl, a_done]; rfl
    | false => rw [if_neg (by decide), Bool.false_or]; exact i1
theorem a_loop0 (b : Int64) {n : Nat} {lm : Nat → Int32} {L : Nat → Nat} (hn : n ≤ 6) (hl : ∀ k, k < n → L k < 64 ∧ lm k = nI (L k)) : ∀ j k m, k + j = 64 → j < m → jf_Lw_areLit_L9 lm (nI n) b m (nI (jcnt k (aLit (jbit b) n L))) (nI (jcnt k (fun c => !jbit b c))) (nI k) = some (nI (jcnt 64 (aLit (jbit b) n L)), nI (jcnt 64 (fun c => !jbit b c))) := by
  intro j
  induction j with
  | zero =>
    intro k m e hm
    obtain ⟨q, rfl⟩ : ∃ q, m = q + 1 := ⟨m - 1, by omega⟩
    have : k = 64 := by omega
    subst this
    rw [jf_Lw_areLit_L9, if_pos (le_64 (b := 64) (by decide) (by decide))]
  | succ j ih =>
    intro k m e hm
    obtain ⟨q, rfl⟩ : ∃ q, m = q + 1 := ⟨m - 1, by omega⟩
    have i1 := ih (k + 1) q (by omega) (by omega)
    have h40 : ∀ s1, s1 = (if jbit b k then (0 : Int32) else 1) → jf_Lw_areLit_b40 (jf_Lw_areLit_L9 lm (nI n) b q) lm (nI n) b (nI (jcnt k (aLit (jbit b) n L))) (nI k) (nI (jcnt k (fun c => !jbit b c))) s1 = some (nI (jcnt 64 (aLit (jbit b) n L)), nI (jcnt 64 (fun c => !jbit b c))) := by
      rintro s1 rfl
      unfold jf_Lw_areLit_b40
      simp only [jlet]
      have e2 : nI (jcnt k (fun c => !jbit b c)) + (if jbit b k then (0 : Int32) else 1) = nI (jcnt (k + 1) (fun c => !jbit b c)) := by
        show _ = nI (jcnt k (fun c => !jbit b c) + (if (!jbit b k) = true then 1 else 0))
        cases jbit b k with
        | true => exact Int32.add_zero _
        | false => exact nI_1 _
      rw [e2]
      have h1 := a_one b hn hl (c := k) (by omega) (nI (jcnt k (aLit (jbit b) n L))) (nI (jcnt (k + 1) (fun c => !jbit b c))) n 0 jF (by omega) (jF_gt (by omega))
      simp only [Nat.zero_add] at h1
      rw [show jf_Lw_areLit_L49 lm (nI n) b (nI (jcnt k (aLit (jbit b) n L))) (nI (jcnt (k + 1) (fun c => !jbit b c))) (nI k) jF 0 0 = some (if aLit (jbit b) n L k then 1 else 0) from h1]
      simp only [Option.bind]
      unfold jf_Lw_areLit_b96 jf_Lw_areLit_b108
      simp only [jlet]
      have e3 : jcnt (k + 1) (aLit (jbit b) n L) = jcnt k (aLit (jbit b) n L) + (if aLit (jbit b) n L k then 1 else 0) := rfl
      rw [e3] at i1
      cases g : aLit (jbit b) n L k with
      | true =>
        rw [g] at i1
        rw [if_neg (by decide), nI_1, nI_1]
        exact i1
      | false =>
        rw [g] at i1
        rw [if_pos (by decide), Int32.add_zero, nI_1]
        exact i1
    rw [jf_Lw_areLit_L9, if_neg (ge_64 (by omega)), show (8 : Int32) = nI 8 from rfl, pk_rem (by omega) (by omega) (by omega), pk_div (by omega) (by omega) (by omega), l_floor b (by omega) (by omega), show k % 8 + 8 * (k / 8) = k by omega]
    cases g : jbit b k with
    | true => rw [if_pos rfl, if_pos rfl]; exact h40 _ (by rw [g]; rfl)
    | false => rw [if_neg (by decide)]; exact h40 _ (by rw [g]; rfl)
theorem a_lit1 (b : Int64) {n c : Nat} {cellOf : Nat → Int32} {L : Nat → Nat} (hn : n ≤ 6) (hl : ∀ k, k < n → L k < 64 ∧ cellOf k = nI (L k)) (hc : c < 64) : ∀ j k m, k + j = n → j < m → jf_La_isLit_L3 (nI n) cellOf b (nI (c % 8)) (nI (c / 8)) m (nI k) = some (if jex j (fun i => sSee (jbit b) (c % 8) (c / 8) (L (k + i) % 8) (L (k + i) / 8)) then .inl () else .inr ()) := by
  intro j
  induction j with
  | zero =>
    intro k m e hm
    obtain ⟨q, rfl⟩ : ∃ q, m = q + 1 := ⟨m - 1, by omega⟩
    rw [jf_La_isLit_L3, if_pos (nI_le (by omega) (by omega))]; rfl
  | succ j ih =>
    intro k m e hm
    obtain ⟨q, rfl⟩ : ∃ q, m = q + 1 := ⟨m - 1, by omega⟩
    obtain ⟨hL, hk⟩ := hl k (by omega)
    rw [jf_La_isLit_L3, if_neg (nI_ge (by omega) (by omega)), jat_nI cellOf (by omega) (by decide), hk, show (8 : Int32) = nI 8 from rfl]
    simp only [jlet]
    rw [pk_rem (by omega) (by omega) (by omega), pk_div (by omega) (by omega) (by omega), s_between b (by omega) (by omega) (by omega) (by omega)]
    simp only [Option.bind]
    rw [jex, nI_1]
    have e0 : jex j (fun i => sSee (jbit b) (c % 8) (c / 8) (L (k + (i + 1)) % 8) (L (k + (i + 1)) / 8)) = jex j (fun i => sSee (jbit b) (c % 8) (c / 8) (L (k + 1 + i) % 8) (L (k + 1 + i) / 8)) := jex_eq (fun i _ => by rw [show k + (i + 1) = k + 1 + i by omega])
    rw [e0, show k + 0 = k from rfl]
    cases sSee (jbit b) (c % 8) (c / 8) (L k % 8) (L k / 8) with
    | true => rw [if_pos rfl, if_neg (by decide)]; rfl
    | false => rw [if_pos (show (if false = true then (1 : Int32) else 0) = 0 by decide), Bool.false_or]; exact ih (k + 1) q (by omega) (by omega)
theorem a_lit2 (b : Int64) {n : Nat} {cellOf : Nat → Int32} {L : Nat → Nat} (hn : n ≤ 6) (hl : ∀ k, k < n → L k < 64 ∧ cellOf k = nI (L k)) : ∀ j k m, k + j = 64 → j < m → jf_La_cellsLit_L4 (nI n) cellOf b m (nI (jcnt k (aLit (jbit b) n L))) (nI k) = some (nI (jcnt 64 (aLit (jbit b) n L))) := by
  intro j
  induction j with
  | zero =>
    intro k m e hm
    obtain ⟨q, rfl⟩ : ∃ q, m = q + 1 := ⟨m - 1, by omega⟩
    have : k = 64 := by omega
    subst this
    rw [jf_La_cellsLit_L4, if_pos (le_64 (b := 64) (by decide) (by decide))]
  | succ j ih =>
    intro k m e hm
    obtain ⟨q, rfl⟩ : ∃ q, m = q + 1 := ⟨m - 1, by omega⟩
    have i1 := ih (k + 1) q (by omega) (by omega)
    have h1 := a_lit1 b hn hl (c := k) (by omega) n 0 jF (by omega) (jF_gt (by omega))
    simp only [Nat.zero_add] at h1
    have h2 : jf_La_isLit (nI n) cellOf b (nI (k % 8)) (nI (k / 8)) = some (if aLit (jbit b) n L k then 1 else 0) := by
      unfold jf_La_isLit
      rw [show jf_La_isLit_L3 (nI n) cellOf b (nI (k % 8)) (nI (k / 8)) jF 0 = some (if aLit (jbit b) n L k then .inl () else .inr ()) from h1]
      cases aLit (jbit b) n L k <;> rfl
    rw [jf_La_cellsLit_L4, if_neg (ge_64 (by omega)), show (8 : Int32) = nI 8 from rfl, pk_rem (by omega) (by omega) (by omega), pk_div (by omega) (by omega) (by omega), h2]
    simp only [Option.bind]
    unfold jf_La_cellsLit_b29
    have e3 : jcnt (k + 1) (aLit (jbit b) n L) = jcnt k (aLit (jbit b) n L) + (if aLit (jbit b) n L k then 1 else 0) := rfl
    rw [e3] at i1
    cases g : aLit (jbit b) n L k with
    | true => rw [g] at i1; rw [if_neg (by decide), nI_1, nI_1]; exact i1
    | false => rw [g] at i1; rw [if_pos (by decide), nI_1]; exact i1
theorem a_lit (b : Int64) {n : Nat} {cellOf : Nat → Int32} {L : Nat → Nat} (hn : n ≤ 6) (hl : ∀ k, k < n → L k < 64 ∧ cellOf k = nI (L k)) : jf_La_cellsLit (nI n) cellOf b = some (nI (jcnt 64 (aLit (jbit b) n L))) := by
  unfold jf_La_cellsLit
  rw [show jf_La_cellsLit_L4 (nI n) cellOf b jF 0 0 = some (nI (jcnt 64 (aLit (jbit b) n L))) from a_lit2 b hn hl 64 0 jF (by omega) (jF_gt (by omega))]
  rfl
theorem aLit_floor {B : Nat → Bool} {n : Nat} {L : Nat → Nat} (hl : ∀ k, k < n → L k < 64) {c : Nat} (hc : c < 64) (h : aLit B n L c = true) : (!B c) = true := by
  obtain ⟨i, hi, h2⟩ := (jex_iff _ _).1 h
  have hL := hl i hi
  unfold sSee at h2
  rw [← (m_all (x := c % 8) (y := c / 8) (ox := L i % 8) (oy := L i / 8) (by omega) (by omega) (by omega) (by omega)).1] at h2
  have e : mHit B (mL (c % 8) (c / 8) (L i % 8) (L i / 8)) = false := by
    cases g : mHit B (mL (c % 8) (c / 8) (L i % 8) (L i / 8)) with
    | false => rfl
    | true => rw [g] at h2; cases h2
  have e2 : mHit B ((2 ^ (c % 8 + 8 * (c / 8)) ||| 2 ^ (L i % 8 + 8 * (L i / 8))) ||| (mOr _ _ ||| mOr _ _)) = false := e
  rw [mHit_or, mHit_or, mHit_1 _ (by omega), show c % 8 + 8 * (c / 8) = c by omega] at e2
  cases g : B c with
  | false => rfl
  | true => rw [g] at e2; cases e2
/-- shares, told again by their floors -/
def fOk (p f : Nat) : Bool := jnn (FP.fdiv (FP.i2f (nI p)) (FP.i2f (nI f))) && jnn (FP.fmul (FP.fdiv (FP.i2f (nI p)) (FP.i2f (nI f))) (FP.i2f (nI f))) && !decide (Op.cmpValue (FP.fcmp (FP.fmul (FP.fdiv (FP.i2f (nI p)) (FP.i2f (nI f))) (FP.i2f (nI f))) (FP.i2f (nI p - 1))) .l ≤ 0) && !decide (0 ≤ Op.cmpValue (FP.fcmp (FP.fmul (FP.fdiv (FP.i2f (nI p)) (FP.i2f (nI f))) (FP.i2f (nI f))) (FP.i2f (nI p + 1))) .g)
theorem fs_all0 : jall 64 (fun f => jall (f + 2) (fun p => fOk p (f + 1))) = true := by decide +kernel
theorem f_zero : Op.cmpValue (FP.fcmp FP.fconst0 FP.fconst0) .l = 0 := by decide +kernel
theorem a_law (b : Int64) {n : Nat} {lm cellOf : Nat → Int32} {L : Nat → Nat} (hn : n ≤ 6) (hl : ∀ k, k < n → L k < 64 ∧ lm k = nI (L k)) (hc : ∀ k, k < n → L k < 64 ∧ cellOf k = nI (L k)) : jf_Lw_areLit b (nI n) cellOf lm (nI n) b = some 1 := by
  have h0 := a_loop0 b hn hl 64 0 jF (by omega) (jF_gt (by omega))
  have h1 : jf_Lw_areLit_L9 lm (nI n) b jF 0 0 0 = some (nI (jcnt 64 (aLit (jbit b) n L)), nI (jcnt 64 (fun c => !jbit b c))) := h0
  have hlit := a_lit b hn hc
  have hp : jcnt 64 (aLit (jbit b) n L) ≤ jcnt 64 (fun c => !jbit b c) := jcnt_mono (fun c hc2 h => aLit_floor (fun k hk => (hl k hk).1) hc2 h)
  have hf64 := jcnt_le 64 (fun c => !jbit b c)
  have e1 : jf_Bi_lit b (nI n) cellOf = some (nI (jcnt 64 (aLit (jbit b) n L))) := by unfold jf_Bi_lit; rw [hlit]; rfl
  unfold jf_Lw_areLit
  rw [h1]
  simp only [Option.bind]
  rw [e1]
  simp only []
  first | rw [if_pos rfl] | rw [if_pos trivial]
  generalize hF : jcnt 64 (fun c => !jbit b c) = F at *
  generalize hP : jcnt 64 (aLit (jbit b) n L) = P at *
  have e2 : jf_Ro_floors b = nI F := by rw [rc_floors b, hF]
  by_cases cF : F = 0
  · subst cF
    rw [if_pos (show nI 0 = 0 from rfl)]
    have e3 : jf_Bi_share b (nI n) cellOf = some FP.fconst0 := by
      unfold jf_Bi_share
      rw [e2]
      simp only [jlet]
      rw [if_pos (by decide)]
    rw [e3]
    simp only []
    rw [if_pos f_zero]
    rfl
  · obtain ⟨f, rfl⟩ : ∃ f, F = f + 1 := ⟨F - 1, by omega⟩
    have ok := jall_at (jall_at fs_all0 f (by omega)) P (by omega)
    unfold fOk at ok
    simp only [Bool.and_eq_true, Bool.not_eq_true', decide_eq_false_iff_not] at ok
    obtain ⟨⟨⟨o1, o2⟩, o3⟩, o4⟩ := ok
    have e3 : jf_Bi_share b (nI n) cellOf = some (FP.fdiv (FP.i2f (nI P)) (FP.i2f (nI (f + 1)))) := by
      unfold jf_Bi_share
      rw [e2]
      simp only [jlet]
      rw [if_neg (nI_nle (by omega) (by omega)), hlit]
      simp only [Option.bind]
      rw [if_pos o1]
    rw [if_neg (nI_ne0 (by omega) (by omega)), e3]
    simp only []
    rw [if_pos o2, if_neg o3]
    rw [if_pos o2, if_neg o4]
    rfl
