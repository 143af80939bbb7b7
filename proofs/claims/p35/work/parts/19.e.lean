/-! the class's numbering is the one on numbers -/
theorem g5_eq (R k : Nat) : g5 R k = R / 5 ^ k % 5 := rfl
theorem g8_eq (R k : Nat) : g8 R k = R / 8 ^ k % 8 := rfl
theorem pow8_split {x y : Nat} (h : x < y) : 8 ^ y = 8 ^ x * 8 * 8 ^ (y - x - 1) := by
  rw [← Nat.pow_succ, ← Nat.pow_add]
  congr 1; omega
theorem g8_put {N x c : Nat} (hc : c < 8) (h : g8 N x = 0) (y : Nat) : g8 (N + c * 8 ^ x) y = if y = x then c else g8 N y := by
  rw [g8_eq] at *
  rw [g8_eq]
  have px : 0 < 8 ^ x := Nat.pow_pos (by decide)
  by_cases e : y = x
  · subst e
    rw [if_pos rfl, Nat.add_mul_div_right _ _ px]
    omega
  · rw [if_neg e]
    by_cases l : x < y
    · rw [pow8_split l, ← Nat.div_div_eq_div_mul, ← Nat.div_div_eq_div_mul, ← Nat.div_div_eq_div_mul, ← Nat.div_div_eq_div_mul, Nat.add_mul_div_right _ _ px]
      have : (N / 8 ^ x + c) / 8 = N / 8 ^ x / 8 := by omega
      rw [this]
    · have l2 : y < x := by omega
      have py : 0 < 8 ^ y := Nat.pow_pos (by decide)
      have e2 : c * 8 ^ x = 8 * (c * 8 ^ (x - y - 1)) * 8 ^ y := by
        rw [pow8_split l2, Nat.mul_assoc, Nat.mul_assoc, Nat.mul_comm (8 ^ y), Nat.mul_assoc, Nat.mul_left_comm c 8, Nat.mul_assoc]
      rw [e2, Nat.add_mul_div_right _ _ py]
      omega
theorem g8_lt {N c : Nat} (h : N < 8 ^ c) {i : Nat} (hi : c ≤ i) : g8 N i = 0 := by
  rw [g8_eq, Nat.div_eq_of_lt (Nat.lt_of_lt_of_le h (Nat.pow_le_pow_right (by decide) hi))]
theorem g8_up {N c x : Nat} (h : N < 8 ^ c) (hx : x < 8) : N + x * 8 ^ c < 8 ^ (c + 1) := by
  have h2 : x * 8 ^ c ≤ 7 * 8 ^ c := Nat.mul_le_mul_right _ (by omega)
  rw [Nat.pow_succ]
  omega
def fBit (M x : Nat) : Bool := Nat.beq (Nat.land (Nat.shiftRight M x) (nat_lit 1)) (nat_lit 1)
theorem f_all0 : jall 32 (fun M => jall 5 (fun x => (fBit M x == sHas M x) && (sHas M x || (decide (M + 2 ^ x < 32) && decide (nI M ||| ((1 : Int32) <<< (nI x &&& 31)) = nI (M + 2 ^ x)) && decide (jcnt 5 (sHas (M + 2 ^ x)) = jcnt 5 (sHas M) + 1) && jall 5 (fun y => sHas (M + 2 ^ x) y == (sHas M y || (y == x))))))) = true := by decide +kernel
theorem f_bit {M x : Nat} (hM : M < 32) (hx : x < 5) : fBit M x = sHas M x := by
  have h := jall_at (jall_at f_all0 M hM) x hx
  rw [Bool.and_eq_true] at h
  exact beq_iff_eq.1 h.1
theorem f_add {M x : Nat} (hM : M < 32) (hx : x < 5) (e : sHas M x = false) : M + 2 ^ x < 32 ∧ nI M ||| ((1 : Int32) <<< (nI x &&& 31)) = nI (M + 2 ^ x) ∧ jcnt 5 (sHas (M + 2 ^ x)) = jcnt 5 (sHas M) + 1 ∧ ∀ y, y < 5 → sHas (M + 2 ^ x) y = (sHas M y || (y == x)) := by
  have h := jall_at (jall_at f_all0 M hM) x hx
  rw [Bool.and_eq_true, e, Bool.false_or, Bool.and_eq_true, Bool.and_eq_true, Bool.and_eq_true, decide_eq_true_iff, decide_eq_true_iff, decide_eq_true_iff] at h
  exact ⟨h.2.1.1.1, h.2.1.1.2, h.2.1.2, fun y hy => beq_iff_eq.1 (jall_at h.2.2 y hy)⟩
theorem f_lt0 : jall 6 (fun n => jall (2 ^ n) (fun M => jall n (fun x => sHas M x || decide (M + 2 ^ x < 2 ^ n)))) = true := by decide +kernel
theorem f_lt {n M x : Nat} (hn : n ≤ 5) (hM : M < 2 ^ n) (hx : x < n) (e : sHas M x = false) : M + 2 ^ x < 2 ^ n := by
  have h := jall_at (jall_at (jall_at f_lt0 n (by omega)) M hM) x hx
  rw [e, Bool.false_or] at h
  exact of_decide_eq_true h
theorem f_32 {n M : Nat} (hn : n ≤ 5) (hM : M < 2 ^ n) : M < 32 := Nat.lt_of_lt_of_le hM (Nat.pow_le_pow_right (n := 2) (by decide) hn)
def fRel (n M c O N : Nat) (order number : Nat → Int32) : Prop :=
  M < 2 ^ n ∧ c = jcnt 5 (sHas M) ∧ O < 8 ^ c ∧ (∀ i, i < c → g8 O i < n ∧ order i = nI (g8 O i)) ∧ (∀ y, y < 5 → sHas M y = true → g8 N y < 5 ∧ number y = nI (g8 N y)) ∧ ∀ y, y < 5 → sHas M y = false → g8 N y = 0
theorem fRel_c {n M c O N : Nat} {order number : Nat → Int32} (hn : n ≤ 5) (h : fRel n M c O N order number) : c ≤ n := by
  rw [h.2.1, sCnt_n hn h.1]
  exact jcnt_le n _
def fExt (M c O N M' c' O' N' : Nat) : Prop := c ≤ c' ∧ (∀ i, i < c → g8 O' i = g8 O i) ∧ ∀ y, y < 5 → sHas M y = true → sHas M' y = true ∧ g8 N' y = g8 N y
theorem fExt_rfl (M c O N : Nat) : fExt M c O N M c O N := ⟨Nat.le_refl c, fun _ _ => rfl, fun _ _ h => ⟨h, rfl⟩⟩
theorem fExt_trans {M c O N M' c' O' N' M2 c2 O2 N2 : Nat} (h : fExt M c O N M' c' O' N') (h2 : fExt M' c' O' N' M2 c2 O2 N2) : fExt M c O N M2 c2 O2 N2 :=
  ⟨Nat.le_trans h.1 h2.1, fun i hi => (h2.2.1 i (Nat.lt_of_lt_of_le hi h.1)).trans (h.2.1 i hi), fun y hy e => ⟨(h2.2.2 y hy (h.2.2 y hy e).1).1, ((h2.2.2 y hy (h.2.2 y hy e).1).2).trans (h.2.2 y hy e).2⟩⟩
theorem fRel_back {n M c O N M' c' O' N' : Nat} {order number order' number' : Nat → Int32} (h : fRel n M c O N order number) (h' : fRel n M' c' O' N' order' number') (e : fExt M c O N M' c' O' N') : fRel n M c O N order' number' := by
  obtain ⟨a1, a2, a3, a4, a5, a6⟩ := h
  refine ⟨a1, a2, a3, fun i hi => ⟨(a4 i hi).1, ?_⟩, fun y hy q => ⟨(a5 y hy q).1, ?_⟩, a6⟩
  · rw [(h'.2.2.2.1 i (Nat.lt_of_lt_of_le hi e.1)).2, e.2.1 i hi]
  · rw [(h'.2.2.2.2.1 y hy (e.2.2 y hy q).1).2, (e.2.2 y hy q).2]
theorem f_next {n M c O N x : Nat} {order number : Nat → Int32} (hn : n ≤ 5) (h : fRel n M c O N order number) (hx : x < n) : ∃ M' c' O' N' order' number', jf_Su_numberNext (nI M) order number (nI x) = (nI M', order', number') ∧ (∀ K : Nat → Nat → Nat → Nat → Bool, fNum x M c O N K = K M' c' O' N') ∧ fRel n M' c' O' N' order' number' ∧ fExt M c O N M' c' O' N' ∧ sHas M' x = true := by
  have h32 := f_32 hn h.1
  have hb := f_bit h32 (show x < 5 by omega)
  have hs := sBit h32 (show x < 5 by omega)
  have hcn := fRel_c hn h
  have h0 := h
  obtain ⟨a1, a2, a3, a4, a5, a6⟩ := h0
  have hcnt : jf_In_bitCount (nI M) = nI c := by rw [of_decide_eq_true (jall_at sCnt M h32), a2]
  cases q : sHas M x with
  | true =>
    refine ⟨M, c, O, N, order, number, ?_, fun K => ?_, h, fExt_rfl _ _ _ _, q⟩
    · unfold jf_Su_numberNext
      rw [hs, q, if_neg (by decide)]
    · unfold fNum
      show cond (fBit M x) _ _ = _
      rw [hb, q]; rfl
  | false =>
    obtain ⟨f1, f2, f3, f4⟩ := f_add h32 (show x < 5 by omega) q
    have f5 := f_lt hn a1 hx q
    have c5 : c < 5 := by
      have := jcnt_le 5 (sHas (M + 2 ^ x))
      omega
    have gO := g8_put (N := O) (x := c) (c := x) (by omega) (g8_lt a3 (Nat.le_refl c))
    have gN := g8_put (N := N) (x := x) (c := c) (by omega) (a6 x (by omega) q)
    refine ⟨M + 2 ^ x, c + 1, O + x * 8 ^ c, N + c * 8 ^ x, upd order c (nI x), upd number x (nI c), ?_, fun K => ?_, ⟨f5, by omega, g8_up a3 (by omega), fun i hi => ?_, fun y hy e => ?_, fun y hy e => ?_⟩, ⟨by omega, fun i hi => ?_, fun y hy e => ?_⟩, ?_⟩
    · unfold jf_Su_numberNext
      simp only [jlet]
      rw [hs, q, if_pos (by decide), hcnt, f2, jput_nI _ _ c5 (by decide), jput_nI _ _ (by omega) (by decide)]
    · unfold fNum
      show cond (fBit M x) _ _ = _
      rw [hb, q]; rfl
    · rw [gO i]
      by_cases e : i = c
      · subst e; rw [if_pos rfl]; exact ⟨hx, upd_at _ _ _⟩
      · rw [if_neg e, upd_ne _ _ e]; exact a4 i (by omega)
    · rw [gN y]
      by_cases e2 : y = x
      · subst e2; rw [if_pos rfl]; exact ⟨c5, upd_at _ _ _⟩
      · rw [if_neg e2, upd_ne _ _ e2]
        rw [f4 y hy, beq_eq_false_iff_ne.2 e2, Bool.or_false] at e
        exact a5 y hy e
    · rw [f4 y hy, Bool.or_eq_false_iff, beq_eq_false_iff_ne] at e
      rw [gN y, if_neg e.2]
      exact a6 y hy e.1
    · rw [gO i, if_neg (by omega)]
    · rw [f4 y hy, e, Bool.true_or, gN y]
      refine ⟨rfl, ?_⟩
      rw [if_neg (fun e2 => by rw [e2, q] at e; cases e)]
    · rw [f4 x (by omega), beq_self_eq_true, Bool.or_true]
/-- the digits of a piece -/
theorem f_from {n R U : Nat} {right up : Nat → Int32} (hn : n ≤ 5) (fr : sR n right (g5 R)) (fu : sR n up (g5 U)) (hR : ∀ k, k < n → g5 R k < n) (hU : ∀ k, k < n → g5 U k < n) : ∀ j k m d M c O N order number, k + j = n → j < m → fRel n M c O N order number → d < 25 ^ k → ∃ d' M' c' O' N' order' number', jf_Su_numberFrom_L18 (nI n) right up m (nI d) (nI k) (nI M) order number = some (nI d', nI M', order', number') ∧ (∀ K : Nat → Nat → Nat → Nat → Nat → Bool, fFrom R U K j k d M c O N = K d' M' c' O' N') ∧ fRel n M' c' O' N' order' number' ∧ fExt M c O N M' c' O' N' ∧ d' < 25 ^ n := by
  intro j
  induction j with
  | zero =>
    intro k m d M c O N order number e hm h hd
    obtain ⟨q, rfl⟩ : ∃ q, m = q + 1 := ⟨m - 1, by omega⟩
    have : k = n := by omega
    subst this
    exact ⟨d, M, c, O, N, order, number, by rw [jf_Su_numberFrom_L18, if_pos (nI_le (Nat.le_refl k) (by omega))], fun K => rfl, h, fExt_rfl _ _ _ _, hd⟩
  | succ j ih =>
    intro k m d M c O N order number e hm h hd
    obtain ⟨q, rfl⟩ : ∃ q, m = q + 1 := ⟨m - 1, by omega⟩
    have hk : k < n := by omega
    have h32 := f_32 hn h.1
    have hcn := fRel_c hn h
    have hcnt : jf_In_bitCount (nI M) = nI c := by rw [of_decide_eq_true (jall_at sCnt M h32), h.2.1]
    have hd25 : nI d * 5 * 5 = nI (25 * d) := by
      rw [show (5 : Int32) = nI 5 from rfl, pk_mul, pk_mul]; congr 1; omega
    have hp : 25 ^ (k + 1) = 25 * 25 ^ k := by rw [Nat.pow_succ, Nat.mul_comm]
    rw [jf_Su_numberFrom_L18, if_neg (nI_ge hk (by omega))]
    unfold jf_Su_numberFrom_b108 jf_Su_rightOf jf_Su_upOf
    simp only [jlet]
    rw [hcnt, hd25, nI_1 k]
    by_cases ck : c ≤ k
    · rw [if_pos (nI_le ck (by omega))]
      obtain ⟨d', M', c', O', N', order', number', i1, i2, i3, i4, i5⟩ := ih (k + 1) q (25 * d) M c O N order number (by omega) (by omega) h (by omega)
      refine ⟨d', M', c', O', N', order', number', i1, fun K => ?_, i3, i4, i5⟩
      rw [fFrom, show Nat.ble c k = true from Nat.ble_eq_true_of_le ck, cond_true]
      exact i2 K
    · rw [if_neg (nI_ge (by omega) (by omega))]
      obtain ⟨g1, g2⟩ := h.2.2.2.1 k (by omega)
      have r1 := hR _ g1
      have u1 := hU _ g1
      rw [jat_nI order (by omega) (by decide), g2, jat_nI right (by omega) (by decide), fr _ g1, jat_nI up (by omega) (by decide), fu _ g1]
      obtain ⟨M1, c1, O1, N1, o1, n1, e1, e2, e3, e4, e5⟩ := f_next hn h r1
      obtain ⟨M2, c2, O2, N2, o2, n2, e6, e7, e8, e9, e10⟩ := f_next hn e3 u1
      rw [e1]
      simp only []
      rw [e6]
      simp only []
      have x1 := e8.2.2.2.2.1 (g5 R (g8 O k)) (by omega) (e9.2.2 _ (by omega) e5).1
      have x2 := e8.2.2.2.2.1 (g5 U (g8 O k)) (by omega) e10
      rw [jat_nI n2 (by omega) (by decide), jat_nI n2 (by omega) (by decide), x1.2, x2.2]
      have hdig : nI (25 * d) + (5 * nI (g8 N2 (g5 R (g8 O k))) + nI (g8 N2 (g5 U (g8 O k)))) = nI (25 * d + (5 * g8 N2 (g5 R (g8 O k)) + g8 N2 (g5 U (g8 O k)))) := by
        rw [show (5 : Int32) = nI 5 from rfl, pk_mul, nI_add, nI_add]
      rw [hdig]
      have y1 := x1.1
      have y2 := x2.1
      obtain ⟨d', M', c', O', N', order', number', i1, i2, i3, i4, i5⟩ := ih (k + 1) q (25 * d + (5 * g8 N2 (g5 R (g8 O k)) + g8 N2 (g5 U (g8 O k)))) M2 c2 O2 N2 o2 n2 (by omega) (by omega) e8 (by omega)
      refine ⟨d', M', c', O', N', order', number', i1, fun K => ?_, i3, fExt_trans e4 (fExt_trans e9 i4), i5⟩
      rw [fFrom, show Nat.ble c k = false by
        cases b : Nat.ble c k with
        | false => rfl
        | true => exact absurd (Nat.le_of_ble_eq_true b) ck, cond_false, e2, e7]
      exact i2 K
theorem f_piece {n R U s M c O N : Nat} {right up order number : Nat → Int32} (hn : n ≤ 5) (fr : sR n right (g5 R)) (fu : sR n up (g5 U)) (hR : ∀ k, k < n → g5 R k < n) (hU : ∀ k, k < n → g5 U k < n) (h : fRel n M c O N order number) (hs : s < n) : ∃ d' M' c' O' N' order' number', jf_Su_numberFrom (nI M) (nI n) right up order number (nI s) = some (nI d', nI M', order', number') ∧ (∀ K : Nat → Nat → Nat → Nat → Nat → Bool, fPiece n R U s M c O N K = K d' M' c' O' N') ∧ fRel n M' c' O' N' order' number' ∧ fExt M c O N M' c' O' N' ∧ d' < 25 ^ n := by
  have h32 := f_32 hn h.1
  have hcn := fRel_c hn h
  have hcnt : jf_In_bitCount (nI M) = nI c := by rw [of_decide_eq_true (jall_at sCnt M h32), h.2.1]
  obtain ⟨M1, c1, O1, N1, o1, n1, e1, e2, e3, e4, e5⟩ := f_next hn h hs
  obtain ⟨d', M', c', O', N', order', number', i1, i2, i3, i4, i5⟩ := f_from hn fr fu hR hU (n - c) c jF 0 M1 c1 O1 N1 o1 n1 (by omega) (jF_gt (by omega)) e3 (Nat.pow_pos (by decide))
  refine ⟨d', M', c', O', N', order', number', ?_, fun K => ?_, i3, fExt_trans e4 i4, i5⟩
  · unfold jf_Su_numberFrom
    simp only [jlet]
    rw [hcnt, e1]
    show Option.bind (jf_Su_numberFrom_L18 (nI n) right up jF (nI 0) (nI c) (nI M1) o1 n1) _ = _
    rw [i1]; rfl
  · unfold fPiece
    rw [e2]
    exact i2 K

