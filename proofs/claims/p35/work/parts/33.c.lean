/-! p35: parts that stay apart; what is told; the EXCHANGE as a whole -/
theorem a_bit0 : jall 64 (fun A => jall 6 (fun v => A.testBit v || (decide (A + 2 ^ v < 64) && decide (nI A ||| ((1 : Int32) <<< (nI v &&& 31)) = nI (A + 2 ^ v)) && jall 6 (fun x => (A + 2 ^ v).testBit x == (A.testBit x || (x == v)))))) = true := by decide +kernel
theorem a_pow0 : jall 6 (fun v => decide ((1 : Int32) <<< (nI v &&& 31) = nI (2 ^ v))) = true := by decide +kernel
theorem a_pow {v : Nat} (hv : v < 6) : (1 : Int32) <<< (nI v &&& 31) = nI (2 ^ v) := of_decide_eq_true (jall_at a_pow0 v hv)
def aS (r : Nat → Nat) (k : Nat) : Nat := xS (fun i => 2 ^ r i) k
theorem aS_bits {n : Nat} {r s : Nat → Nat} (hn : n ≤ 6) (hr : ∀ k, k < n → r k < n ∧ s k < n ∧ r (s k) = k ∧ s (r k) = k) : ∀ k, k ≤ n → aS r k < 64 ∧ ∀ x, x < 6 → ((aS r k).testBit x = true ↔ ∃ i, i < k ∧ r i = x)
  | 0, _ => ⟨by show 0 < 64; decide, fun x _ => ⟨fun h => (by rw [show aS r 0 = 0 from rfl, Nat.zero_testBit] at h; cases h), fun ⟨i, h, _⟩ => absurd h (Nat.not_lt_zero i)⟩⟩
  | k + 1, hk => by
    obtain ⟨h1, h2⟩ := aS_bits hn hr k (by omega)
    have hrk := (hr k (by omega)).1
    have hno : (aS r k).testBit (r k) = false := by
      cases g : (aS r k).testBit (r k) with
      | false => rfl
      | true =>
        obtain ⟨i, a, c⟩ := (h2 (r k) (by omega)).1 g
        have h3 := (hr i (by omega)).2.2.2
        rw [c, (hr k (by omega)).2.2.2] at h3
        omega
    have h4 := jall_at (jall_at a_bit0 (aS r k) h1) (r k) (by omega)
    rw [hno, Bool.false_or] at h4
    simp only [Bool.and_eq_true, decide_eq_true_eq] at h4
    have e : aS r (k + 1) = aS r k + 2 ^ r k := rfl
    rw [e]
    refine ⟨h4.1.1, fun x hx => ?_⟩
    rw [eq_of_beq (jall_at h4.2 x hx), Bool.or_eq_true, h2 x hx]
    constructor
    · rintro (⟨i, a, c⟩ | c)
      · exact ⟨i, by omega, c⟩
      · exact ⟨k, by omega, (eq_of_beq c).symm⟩
    · rintro ⟨i, a, c⟩
      by_cases d : i = k
      · subst d; exact Or.inr (beq_iff_eq.mpr c.symm)
      · exact Or.inl ⟨i, by omega, c⟩
theorem aS_or {n : Nat} {r s : Nat → Nat} (hn : n ≤ 6) (hr : ∀ k, k < n → r k < n ∧ s k < n ∧ r (s k) = k ∧ s (r k) = k) {k : Nat} (hk : k < n) : nI (aS r k) ||| ((1 : Int32) <<< (nI (r k) &&& 31)) = nI (aS r (k + 1)) := by
  obtain ⟨h1, h2⟩ := aS_bits hn hr k (by omega)
  have hrk := (hr k hk).1
  have hno : (aS r k).testBit (r k) = false := by
    cases g : (aS r k).testBit (r k) with
    | false => rfl
    | true =>
      obtain ⟨i, a, c⟩ := (h2 (r k) (by omega)).1 g
      have h3 := (hr i (by omega)).2.2.2
      rw [c, (hr k hk).2.2.2] at h3
      omega
  have h4 := jall_at (jall_at a_bit0 (aS r k) h1) (r k) (by omega)
  rw [hno, Bool.false_or] at h4
  simp only [Bool.and_eq_true, decide_eq_true_eq] at h4
  exact h4.1.2
def apF (A B : Nat → Nat) : Nat → Nat → Nat
  | 0, _ => 0
  | j + 1, k => if A (k + 1) = B (k + 1) then k + 1 else apF A B j (k + 1)
theorem apF_end (A B : Nat → Nat) : ∀ j k, apF A B (j + 1) k = if apF A B j k ≠ 0 then apF A B j k else if A (k + j + 1) = B (k + j + 1) then k + j + 1 else 0
  | 0, k => rfl
  | j + 1, k => by
    rw [apF]
    by_cases c : A (k + 1) = B (k + 1)
    · rw [if_pos c, apF, if_pos c, if_pos (by omega)]
    · rw [if_neg c, apF_end A B j (k + 1)]
      rw [show apF A B (j + 1) k = apF A B j (k + 1) by rw [apF, if_neg c], show k + 1 + j + 1 = k + (j + 1) + 1 by omega]
theorem apF_le (A B : Nat → Nat) : ∀ j k, apF A B j k ≤ k + j
  | 0, k => Nat.zero_le _
  | j + 1, k => by
    rw [apF]
    split
    · omega
    · have := apF_le A B j (k + 1); omega
theorem c_apart0 {n : Nat} {above below : Nat → Int32} {r s p u : Nat → Nat} (hn : n ≤ 6) (hr : ∀ k, k < n → r k < n ∧ s k < n ∧ r (s k) = k ∧ s (r k) = k) (hu : ∀ k, k < n → p k < n ∧ u k < n ∧ p (u k) = k ∧ u (p k) = k) (fr : ∀ k, k < n → above k = nI (r k)) (fp : ∀ k, k < n → below k = nI (p k)) : ∀ j k m, k + j = n → j < m → ∃ o, jf_Ex_leastApart_L6 (nI n) above below m (nI (aS r k)) (nI (aS p k)) (nI k) = some o ∧ jsum (fun o_1 => some (o_1 + 1)) (fun _ => some 0) o = some (nI (apF (aS r) (aS p) j k)) := by
  intro j
  induction j with
  | zero =>
    intro k m e hm
    obtain ⟨q, rfl⟩ : ∃ q, m = q + 1 := ⟨m - 1, by omega⟩
    exact ⟨.inr (), by rw [jf_Ex_leastApart_L6, if_pos (nI_le (by omega) (by omega))], rfl⟩
  | succ j ih =>
    intro k m e hm
    obtain ⟨q, rfl⟩ : ∃ q, m = q + 1 := ⟨m - 1, by omega⟩
    have hk : k < n := by omega
    have h1 := (aS_bits hn hr (k + 1) (by omega)).1
    have h2 := (aS_bits hn hu (k + 1) (by omega)).1
    rw [jf_Ex_leastApart_L6, if_neg (nI_ge hk (by omega)), jat_nI above (by omega) (by decide), jat_nI below (by omega) (by decide), fr k hk, fp k hk, aS_or hn hr hk, aS_or hn hu hk]
    simp only [jlet]
    rw [apF]
    by_cases c : aS r (k + 1) = aS p (k + 1)
    · refine ⟨.inl (nI k), by rw [if_pos (by rw [c])], ?_⟩
      rw [if_pos c]
      show some (nI k + 1) = _
      rw [nI_1]
    · rw [if_neg (fun z => c (nI_inj (by omega) (by omega) z)), if_neg c, nI_1]
      exact ih (k + 1) q (by omega) (by omega)
theorem x_apart {n : Nat} {len above below : Nat → Int32} {L r s p u : Nat → Nat} (hn : n ≤ 6) (h : xOk n len above below L r s p u) : jf_Bi_apart (nI n) above below = some (nI (apF (aS r) (aS p) n 0)) := by
  obtain ⟨o, e1, e2⟩ := c_apart0 (above := above) (below := below) hn (fun k hk => ⟨(h.1 k hk).1, (h.1 k hk).2.1, (h.1 k hk).2.2.1, (h.1 k hk).2.2.2.1⟩) (fun k hk => ⟨(h.2.1 k hk).1, (h.2.1 k hk).2.1, (h.2.1 k hk).2.2.1, (h.2.1 k hk).2.2.2.1⟩) (fun k hk => (h.1 k hk).2.2.2.2) (fun k hk => (h.2.1 k hk).2.2.2.2) n 0 jF (by omega) (jF_gt (by omega))
  unfold jf_Bi_apart jf_Ex_leastApart
  rw [show jf_Ex_leastApart_L6 (nI n) above below jF 0 0 0 = some o from e1]
  simp only [Option.bind]
  rw [e2]
theorem e_sumA {n m0 : Nat} {e : Nat → Int32} {L r s p u : Nat → Nat} (hn : n ≤ 6) (he : eR e n L r p) (hr : ∀ k, k < n → r k < n ∧ s k < n ∧ r (s k) = k ∧ s (r k) = k) (hu : ∀ k, k < n → p k < n ∧ u k < n ∧ p (u k) = k ∧ u (p k) = k) (hm0 : m0 ≤ n) (z1 z3 z4 : Int32) : ∀ j k m, k + j = m0 → j < m → jf_Lw_isExchange_L102 e z1 z3 z4 (nI m0) m (zI ((aS r k : Int) - (aS p k : Int))) (nI k) = some (zI ((aS r m0 : Int) - (aS p m0 : Int))) := by
  intro j
  induction j with
  | zero =>
    intro k m e0 hm
    obtain ⟨q, rfl⟩ : ∃ q, m = q + 1 := ⟨m - 1, by omega⟩
    have : k = m0 := by omega
    subst this
    rw [jf_Lw_isExchange_L102, if_pos (nI_le (Nat.le_refl k) (by omega))]
  | succ j ih =>
    intro k m e0 hm
    obtain ⟨q, rfl⟩ : ∃ q, m = q + 1 := ⟨m - 1, by omega⟩
    have hk : k < n := by omega
    obtain ⟨-, h1, h2⟩ := he.1 k hk
    have r1 := (hr k hk).1
    have p1 := (hu k hk).1
    rw [jf_Lw_isExchange_L102, if_neg (nI_ge (by omega) (by omega)), show (6 : Int32) + nI k = nI (6 + k) by rw [show (6 : Int32) = nI 6 from rfl, nI_add], show (12 : Int32) + nI k = nI (12 + k) by rw [show (12 : Int32) = nI 12 from rfl, nI_add], if_pos (j19 (by omega)), if_pos (j19 (by omega)), nI_clamp (by omega), nI_clamp (by omega), h1, h2, a_pow (by omega), a_pow (by omega)]
    simp only [jlet]
    rw [zI_n (2 ^ r k), zI_n (2 ^ p k), zI_sub, zI_add, nI_1]
    rw [show ((aS r k : Int) - (aS p k : Int)) + (((2 ^ r k : Nat) : Int) - ((2 ^ p k : Nat) : Int)) = ((aS r (k + 1) : Int) - (aS p (k + 1) : Int)) by
      rw [show aS r (k + 1) = aS r k + 2 ^ r k from rfl, show aS p (k + 1) = aS p k + 2 ^ p k from rfl]
      omega]
    exact ih (k + 1) q (by omega) (by omega)
theorem e_apart {n : Nat} {e : Nat → Int32} {L r s p u : Nat → Nat} (hn : n ≤ 6) (he : eR e n L r p) (hr : ∀ k, k < n → r k < n ∧ s k < n ∧ r (s k) = k ∧ s (r k) = k) (hu : ∀ k, k < n → p k < n ∧ u k < n ∧ p (u k) = k ∧ u (p k) = k) (z1 z3 : Int32) : ∀ k m v, k ≤ n → v < 2 ^ 20 → k < m → jf_Lw_isExchange_L91 e z1 z3 m (nI v) (nI k) = some (nI (if apF (aS r) (aS p) k 0 ≠ 0 then apF (aS r) (aS p) k 0 else v)) := by
  intro k
  induction k with
  | zero =>
    intro m v hk hv hm
    obtain ⟨q, rfl⟩ : ∃ q, m = q + 1 := ⟨m - 1, by omega⟩
    rw [jf_Lw_isExchange_L91, if_pos (show nI 0 ≤ 0 from Int32.le_refl 0)]
    rfl
  | succ k ih =>
    intro m v hk hv hm
    obtain ⟨q, rfl⟩ : ∃ q, m = q + 1 := ⟨m - 1, by omega⟩
    have hs := e_sumA (m0 := k + 1) hn he hr hu hk z1 z3 (nI v) (k + 1) 0 jF (by omega) (jF_gt (by omega))
    have b1 := (aS_bits hn hr (k + 1) hk).1
    have b2 := (aS_bits hn hu (k + 1) hk).1
    rw [jf_Lw_isExchange_L91, if_neg (nI_nle (show 0 < k + 1 by omega) (by omega))]
    rw [show jf_Lw_isExchange_L102 e z1 z3 (nI v) (nI (k + 1)) jF 0 0 = some (zI ((aS r (k + 1) : Int) - (aS p (k + 1) : Int))) from hs]
    simp only [Option.bind]
    unfold jf_Lw_isExchange_b151
    have em : nI (k + 1) + (-1) = nI k := by rw [m1_add, nI_pred]
    rw [em, apF_end]
    by_cases c : aS r (k + 1) = aS p (k + 1)
    · rw [if_pos (show zI ((aS r (k + 1) : Int) - (aS p (k + 1) : Int)) = 0 by rw [c, Int.sub_self]; rfl), ih q (k + 1) (by omega) (by omega) (by omega)]
      rw [Nat.zero_add]
      by_cases d : apF (aS r) (aS p) k 0 ≠ 0
      · rw [if_pos d, if_pos d, if_pos d]
      · rw [if_neg d, if_neg d, if_pos c, if_pos (by omega)]
    · have hz : ¬ zI ((aS r (k + 1) : Int) - (aS p (k + 1) : Int)) = 0 := fun z => by
        have h1 := zI_toInt (a := (aS r (k + 1) : Int) - (aS p (k + 1) : Int)) (by omega)
        rw [z] at h1
        have h2 : (0 : Int32).toInt = 0 := rfl
        omega
      rw [if_neg hz, ih q v (by omega) hv (by omega)]
      rw [Nat.zero_add]
      by_cases d : apF (aS r) (aS p) k 0 ≠ 0
      · rw [if_pos d, if_pos d, if_pos d]
      · rw [if_neg d, if_neg d, if_neg c, if_neg (by omega)]
/-- what is told -/
theorem x_told {n k : Nat} {len above below : Nat → Int32} {L r s p u : Nat → Nat} (hn : n ≤ 6) (h : xOk n len above below L r s p u) (hk : k < n) : jf_Lw_told (nI n) len above below (nI k) 0 = some (nI (r k)) ∧ jf_Lw_told (nI n) len above below (nI k) 1 = some (nI (p k)) ∧ jf_Lw_told (nI n) len above below (nI k) 2 = some (nI (L (r k))) := by
  have h1 := (h.1 k hk).2.2.2.2
  have h2 := (h.2.1 k hk).2.2.2.2
  have hr := (h.1 k hk).1
  have hcp : jf_Bi_checkPlace (nI k) (jf_Ex_intervals (nI n)) = .inl () := c_place (nI_pos' (by omega)) (nI_lt hk (by omega))
  refine ⟨?_, ?_, ?_⟩
  · unfold jf_Lw_told jf_Bi_told
    rw [hcp, c_range (by decide) (by decide)]
    simp only [jsum]
    first | rw [if_pos rfl] | rw [if_pos trivial]
    unfold jf_Ex_aboveAt
    rw [jat_nI above (by omega) (by decide), h1]
    rfl
  · unfold jf_Lw_told jf_Bi_told
    rw [hcp, c_range (by decide) (by decide)]
    simp only [jsum]
    rw [if_neg (by decide), if_pos trivial]
    unfold jf_Ex_belowAt
    rw [jat_nI below (by omega) (by decide), h2]
    rfl
  · unfold jf_Lw_told jf_Bi_told
    rw [hcp, c_range (by decide) (by decide)]
    simp only [jsum]
    rw [if_neg (by decide), if_neg (by decide)]
    unfold jf_Ex_lengthAt
    rw [jat_nI above (by omega) (by decide), h1, jat_nI len (by omega) (by decide), h.2.2.1 _ hr]
    rfl
theorem x_toldOut {n : Nat} {len above below : Nat → Int32} (hn : n ≤ 6) : jf_Lw_told (nI n) len above below (nI n) 0 = some (-7100) := by
  unfold jf_Lw_told jf_Bi_told
  rw [show jf_Bi_checkPlace (nI n) (jf_Ex_intervals (nI n)) = .inr eI from c_noplace (Or.inr (nI_nlt (Nat.le_refl n) (by omega)))]
  rfl
theorem e_told {n : Nat} {e len above below : Nat → Int32} {L r s p u : Nat → Nat} (hn : n ≤ 6) (h : xOk n len above below L r s p u) (he : eR e n L r p) (z1 : Int32) : ∀ j k m, k + j = n → j < m → jf_Lw_isExchange_L5 (nI n) len above below e z1 m (nI (xS L k)) (nI k) = some (.inr (nI (xS L n))) := by
  intro j
  induction j with
  | zero =>
    intro k m e0 hm
    obtain ⟨q, rfl⟩ : ∃ q, m = q + 1 := ⟨m - 1, by omega⟩
    have : k = n := by omega
    subst this
    rw [jf_Lw_isExchange_L5, if_pos (by decide), show (18 : Int32).toNatClampNeg = 18 from rfl, he.2, if_pos (nI_le (Nat.le_refl k) (by omega))]
  | succ j ih =>
    intro k m e0 hm
    obtain ⟨q, rfl⟩ : ∃ q, m = q + 1 := ⟨m - 1, by omega⟩
    have hk : k < n := by omega
    obtain ⟨t1, t2, t3⟩ := x_told hn h hk
    obtain ⟨h0, h1, h2⟩ := he.1 k hk
    have hr := (h.1 k hk).1
    rw [jf_Lw_isExchange_L5, if_pos (by decide), show (18 : Int32).toNatClampNeg = 18 from rfl, he.2, if_neg (nI_ge hk (by omega)), if_pos (j19 (by omega)), nI_clamp (by omega), h0, t1]
    simp only [jlet, Option.bind]
    rw [show (6 : Int32) + nI k = nI (6 + k) by rw [show (6 : Int32) = nI 6 from rfl, nI_add], show (12 : Int32) + nI k = nI (12 + k) by rw [show (12 : Int32) = nI 12 from rfl, nI_add], if_pos (j19 (by omega)), nI_clamp (by omega), h1, if_pos rfl, t2]
    simp only []
    rw [if_pos (j19 (by omega)), nI_clamp (by omega), h2, if_pos rfl, t3]
    simp only []
    rw [if_pos (j19 (by omega)), if_pos (j19 (by omega)), nI_clamp (by omega), (he.1 _ hr).1, if_pos rfl, nI_add, nI_1]
    exact ih (k + 1) q (by omega) (by omega)
/-- half of a number, as it stands without a sign -/
theorem l_half (x : Int32) : ∃ a : Nat, a < 2 ^ 31 ∧ jush x 1 = nI a := by
  refine ⟨(x.toUInt32 >>> ((1 : Int32).toUInt32 &&& Int32.toUInt32 31)).toNat, ?_, ?_⟩
  · rw [UInt32.toNat_shiftRight]
    have h := x.toUInt32.toNat_lt
    rw [show ((1 : Int32).toUInt32 &&& Int32.toUInt32 31).toNat % 32 = 1 by decide, Nat.shiftRight_eq_div_pow]
    omega
  · unfold jush
    rw [← Int32.toBitVec_inj]
    apply BitVec.eq_of_toNat_eq
    show (x.toUInt32 >>> ((1 : Int32).toUInt32 &&& Int32.toUInt32 31)).toNat = (x.toUInt32 >>> ((1 : Int32).toUInt32 &&& Int32.toUInt32 31)).toNat % 2 ^ 32
    rw [Nat.mod_eq_of_lt (UInt32.toNat_lt _)]
theorem l_low (x : Int32) {n : Nat} (h1 : 0 < n) (hn : n < 2 ^ 31) : ∃ k, k < n ∧ jf_Lw_low x (nI n) = some (nI k) := by
  obtain ⟨a, ha, e⟩ := l_half x
  refine ⟨a % n, Nat.mod_lt a h1, ?_⟩
  unfold jf_Lw_low
  rw [if_neg (nI_ne0 h1 hn), e, pk_rem ha (by omega) (by omega)]
theorem x_law {n : Nat} {e len above below : Nat → Int32} {L r s p u : Nat → Nat} (hn : n ≤ 6) (h : xOk n len above below L r s p u) (he : eR e n L r p) (met : Nat → Int64) (w : Int32) : ∃ bits', jf_Lw_isExchange (nI n) len above below met e w = some (1, bits') := by
  have hs : xS L n ≤ 50 * n := xS_le (fun k hk => (h.2.2.2 k hk).2) n (Nat.le_refl n)
  have hr : ∀ k, k < n → r k < n ∧ s k < n ∧ r (s k) = k ∧ s (r k) = k := fun k hk => ⟨(h.1 k hk).1, (h.1 k hk).2.1, (h.1 k hk).2.2.1, (h.1 k hk).2.2.2.1⟩
  have hu : ∀ k, k < n → p k < n ∧ u k < n ∧ p (u k) = k ∧ u (p k) = k := fun k hk => ⟨(h.2.1 k hk).1, (h.2.1 k hk).2.1, (h.2.1 k hk).2.2.1, (h.2.1 k hk).2.2.2.1⟩
  have hb : ∀ k, k < n → L k ≤ 50 := fun k hk => (h.2.2.2 k hk).2
  obtain ⟨o1, o2⟩ := xOk_eO h he
  have hF : ∀ t, t < xS L n → xF L r p u n t < xS L n ∧ jf_Lw_goesTo e (nI t) 6 12 = some (nI (xF L r p u n t)) := fun t ht => ⟨(xF_ok h ht).1, e_goes (a := 6) (c := 12) hn (by omega) (by omega) o1 o2 hr hu hb ht⟩
  have hG : ∀ t, t < xS L n → xI L p r s n (xF L r p u n t) = t := fun t ht => (xF_ok h ht).2
  obtain ⟨bits', e5⟩ := x_cycles hn h met
  refine ⟨bits', ?_⟩
  have a1 := e_told hn h he w n 0 8 (by omega) (by omega)
  have a2 := e_apart hn he hr hu w (nI (xS L n)) n jF 0 (Nat.le_refl n) (by decide) (jF_gt (by omega))
  have a3 := e_cycles w (nI (apF (aS r) (aS p) n 0)) (by omega) hF hG (xS L n) jF 0 (by omega) (jF_gt (by omega))
  have a2' : jf_Lw_isExchange_L91 e w (nI (xS L n)) jF 0 (nI n) = some (nI (apF (aS r) (aS p) n 0)) := by
    refine Eq.trans a2 ?_
    by_cases c : apF (aS r) (aS p) n 0 ≠ 0
    · rw [if_pos c]
    · rw [if_neg c, Decidable.not_not.mp c]
  unfold jf_Lw_isExchange
  rw [show jf_Lw_isExchange_L5 (nI n) len above below e w 8 0 0 = some (.inr (nI (xS L n))) from a1]
  simp only [Option.bind, jsum, jlet]
  rw [if_pos (by decide), show (18 : Int32).toNatClampNeg = 18 from rfl, he.2, a2']
  simp only []
  rw [show jf_Lw_isExchange_L165 e w (nI (xS L n)) (nI (apF (aS r) (aS p) n 0)) jF 0 0 = some (nI (jcnt (xS L n) (xMin (xF L r p u n) (xS L n)))) from a3]
  simp only []
  rw [x_apart hn h]
  simp only []
  first | rw [if_pos rfl, e5] | rw [if_pos trivial, e5]
  simp only []
  first | rw [if_pos rfl, x_imageOut hn h] | rw [if_pos trivial, x_imageOut hn h]
  simp only []
  first | rw [if_pos rfl, x_backOut hn h] | rw [if_pos trivial, x_backOut hn h]
  simp only []
  first | rw [if_pos rfl, if_pos (by decide), x_toldOut hn] | rw [if_pos trivial, if_pos (by decide), x_toldOut hn]
  simp only []
  first | rw [if_pos rfl] | rw [if_pos trivial]
  by_cases c : xS L n = 0
  · rw [if_pos (by rw [c]; rfl)]
  · rw [if_neg (nI_ne0 (by omega) (by omega))]
    obtain ⟨t, ht, e6⟩ := l_low w (n := xS L n) (by omega) (by omega)
    obtain ⟨q, hq, h5⟩ := jper_ex (P := fun t => t < xS L n) (f := xF L r p u n) (g := xI L p r s n) (N := xS L n) (fun s h => (hF s h).1) (fun s h => hG s h) (fun s h => h) ht
    have q1 := hq.1
    have a6 := e_round (n := n) (by omega) hF ht hq (q - 1) jF 1 (by omega) (Nat.le_refl 1) (jF_gt (by omega))
    rw [e6]
    simp only []
    rw [(hF t ht).2]
    simp only []
    rw [show jf_Lw_isExchange_L313 e (nI t) jF 1 (nI (xF L r p u n t)) = some (nI q) from a6]
    simp only []
    rw [x_image hn h ht]
    simp only []
    first | rw [if_pos rfl, x_back hn h ht] | rw [if_pos trivial, x_back hn h ht]
    simp only []
    rw [show jf_Lw_goesTo e (nI t) 12 6 = some (nI (xI L p r s n t)) from e_goes (a := 12) (c := 6) hn (by omega) (by omega) o2 o1 hu hr hb ht]
    simp only []
    first | rw [if_pos rfl, x_cycle hn h ht hq h5] | rw [if_pos trivial, x_cycle hn h ht hq h5]
    simp only []
    first | rw [if_pos rfl] | rw [if_pos trivial]
