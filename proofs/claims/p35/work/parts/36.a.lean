/-! p35: the law's own rows, as they go on beside the class -/
theorem z_cut {k : Nat} (hk : k < 64) : nI k - nI k / 8 * 8 = nI (k % 8) ∧ nI k / 8 = nI (k / 8) := ⟨by rw [show (8 : Int32) = nI 8 from rfl, pk_rem (by omega) (by omega) (by omega)], by rw [show (8 : Int32) = nI 8 from rfl, pk_div (by omega) (by omega) (by omega)]⟩
theorem z_low64 (x : Int32) : ∃ k, k < 64 ∧ jf_Lw_low x 64 = some (nI k) := l_low x (n := 64) (by decide) (by decide)
theorem z_low4 (x : Int32) : ∃ k, k < 4 ∧ jf_Lw_low x 4 = some (nI k) := l_low x (n := 4) (by decide) (by decide)
theorem z_low5 (x : Int32) : ∃ k, k < 5 ∧ jf_Lw_low x 5 = some (nI k) := l_low x (n := 5) (by decide) (by decide)
theorem z_low12 (x : Int32) : ∃ k, k < 12 ∧ jf_Lw_low x 12 = some (nI k) := l_low x (n := 12) (by decide) (by decide)
theorem z_low50 (x : Int32) : ∃ k, k < 50 ∧ jf_Lw_low x 50 = some (nI k) := l_low x (n := 50) (by decide) (by decide)
theorem z_low512 (x : Int32) : ∃ k, k < 512 ∧ jf_Lw_low x 512 = some (nI k) := l_low x (n := 512) (by decide) (by decide)
theorem z_tf (t : Bool) : ((if t then (1 : Int32) else 0) &&& 1) = if t then 1 else 0 := by cases t <;> decide
theorem z_11 : (1 : Int32) &&& 1 = 1 := by decide
theorem z_block (b : Int64) {k : Nat} (hk : k < 64) (v : Int32) : jf_Lw_block b (nI k - nI k / 8 * 8) (nI k / 8) v = some (if jbit b k then 1 else 0, if v = 0 then b &&& (jlshl 1 (nI k) ^^^ (-1)) else b ||| jlshl 1 (nI k)) := by
  obtain ⟨c1, c2⟩ := z_cut hk
  have hx : k % 8 < 8 := Nat.mod_lt _ (by decide)
  have hy : k / 8 < 8 := by omega
  have hxy : k % 8 + 8 * (k / 8) = k := by omega
  rw [c1, c2]
  unfold jf_Lw_block
  rw [jc_put b v hx hy (lcell _ hx _ hy).1, hxy, z_tf]
  simp only [jsum]
  unfold jf_Lw_block_n
  cases jbit b k with
  | true => rw [if_neg (show ¬ (if true = true then (1 : Int32) else 0) = 0 by decide)]; rfl
  | false => rw [if_pos (show (if false = true then (1 : Int32) else 0) = 0 by decide)]; rfl
theorem z_b204 {self : Int64 → Int32 → Int32 → Int64 → Option (Int64 × Int32 × Int64)} (b : Int64) (z5 z6 z10 z11 z12 : Int32) {k : Nat} (hk : k < 64) (z14 v : Int32) : ∃ b', jf_Lw_law_b204 self b b z5 z6 z10 z11 z12 1 z14 (nI k) v = self b' 1 (z14 + 1) b' := by
  unfold jf_Lw_law_b204
  rw [z_block b hk v]
  simp only [Option.bind]
  have e : (if jbit b k then (1 : Int32) else 0) = ((jlshr b (nI k)) &&& 1).toInt32 := by
    rw [l_bit b hk]
    cases jbit b k <;> decide
  rw [if_pos e]
  unfold jf_Lw_law_b239 jf_Lw_law_b266
  simp only [jlet]
  rw [z_11]
  by_cases h : v = 0
  · simp only [if_pos h]
    exact ⟨_, rfl⟩
  · simp only [if_neg h]
    exact ⟨_, rfl⟩
theorem z_blocks (z5 z6 z10 z11 z12 : Int32) : ∀ j k m b, k + j = 3 → j < m → ∃ b', jf_Lw_law_L163 z5 z6 z10 z11 z12 m b 1 (nI k) b = some (b', 1, b') := by
  intro j
  induction j with
  | zero =>
    intro k m b e hm
    obtain ⟨q, rfl⟩ : ∃ q, m = q + 1 := ⟨m - 1, by omega⟩
    have : k = 3 := by omega
    subst this
    exact ⟨b, by rw [jf_Lw_law_L163, if_pos (show (3 : Int32) ≤ nI 3 by decide)]⟩
  | succ j ih =>
    intro k m b e hm
    obtain ⟨q, rfl⟩ : ∃ q, m = q + 1 := ⟨m - 1, by omega⟩
    obtain ⟨a, ha, ea⟩ := z_low64 (z12 >>> ((6 * nI k) &&& 31))
    obtain ⟨c, hc, ec⟩ := z_low4 (z12 >>> ((20 + nI k) &&& 31))
    have go : ∀ v, ∃ b', jf_Lw_law_b204 (jf_Lw_law_L163 z5 z6 z10 z11 z12 q) b b z5 z6 z10 z11 z12 1 (nI k) (nI a) v = some (b', 1, b') := fun v => by
      obtain ⟨b', e1⟩ := z_b204 (self := jf_Lw_law_L163 z5 z6 z10 z11 z12 q) b z5 z6 z10 z11 z12 ha (nI k) v
      obtain ⟨b2, e2⟩ := ih (k + 1) q b' (by omega) (by omega)
      exact ⟨b2, by rw [e1, nI_1, e2]⟩
    rw [jf_Lw_law_L163, if_neg (show ¬ (3 : Int32) ≤ nI k from nI_ge (b := 3) (by omega) (by decide)), ea]
    simp only [Option.bind]
    rw [ec]
    simp only []
    by_cases h : nI c ≤ 0
    · rw [if_pos h]; exact go 0
    · rw [if_neg h]; exact go 1
theorem z_b1185 {self : Int32 → Option (Unit ⊕ Unit)} (b : Int64) (z5 z6 z10 z11 z12 z14 : Int32) {a c : Nat} (ha : a < 64) (hc : c < 64) : jf_Lw_law_b1185 self b b z5 z6 z10 z11 z12 z14 (nI a) (nI c) (if sSee (jbit b) (a % 8) (a / 8) (c % 8) (c / 8) then 1 else 0) = self (z14 + 1) := by
  obtain ⟨a1, a2⟩ := z_cut ha
  obtain ⟨c1, c2⟩ := z_cut hc
  have x1 : a % 8 < 8 := Nat.mod_lt _ (by decide)
  have x2 : a / 8 < 8 := by omega
  have x3 : c % 8 < 8 := Nat.mod_lt _ (by decide)
  have x4 : c / 8 < 8 := by omega
  unfold jf_Lw_law_b1185
  rw [a1, a2, c1, c2, s_sees b x1 x2 x3 x4]
  simp only [Option.bind]
  first | rw [if_pos rfl, s_seesAnew b x3 x4 x1 x2, sSee_sym x3 x4 x1 x2] | rw [if_pos trivial, s_seesAnew b x3 x4 x1 x2, sSee_sym x3 x4 x1 x2]
  simp only []
  first | rw [if_pos rfl] | rw [if_pos trivial]
theorem z_sees (b : Int64) (z5 z6 z10 z11 z12 : Int32) : ∀ j k m, k + j = 4 → j < m → jf_Lw_law_L1117 b b z5 z6 z10 z11 z12 m (nI k) = some (.inr ()) := by
  intro j
  induction j with
  | zero =>
    intro k m e hm
    obtain ⟨q, rfl⟩ : ∃ q, m = q + 1 := ⟨m - 1, by omega⟩
    have : k = 4 := by omega
    subst this
    rw [jf_Lw_law_L1117, if_pos (show (4 : Int32) ≤ nI 4 by decide)]
  | succ j ih =>
    intro k m e hm
    obtain ⟨q, rfl⟩ : ∃ q, m = q + 1 := ⟨m - 1, by omega⟩
    obtain ⟨a, ha, ea⟩ := z_low64 (z11 >>> ((4 * nI k) &&& 31))
    obtain ⟨c, hc, ec⟩ := z_low64 (z12 >>> (((4 * nI k) + 3) &&& 31))
    obtain ⟨a1, a2⟩ := z_cut ha
    obtain ⟨c1, c2⟩ := z_cut hc
    have e2 := s_see b (x := a % 8) (y := a / 8) (ox := c % 8) (oy := c / 8) (Nat.mod_lt _ (by decide)) (by omega) (Nat.mod_lt _ (by decide)) (by omega)
    have e3 := z_b1185 (self := jf_Lw_law_L1117 b b z5 z6 z10 z11 z12 q) b z5 z6 z10 z11 z12 (nI k) ha hc
    have e4 := ih (k + 1) q (by omega) (by omega)
    rw [jf_Lw_law_L1117, if_neg (show ¬ (4 : Int32) ≤ nI k from nI_ge (b := 4) (by omega) (by decide)), ea]
    simp only [Option.bind]
    rw [ec]
    simp only []
    rw [a1, a2, c1, c2, e2]
    simp only []
    rw [nI_1, e4] at e3
    revert e3
    cases sSee (jbit b) (a % 8) (a / 8) (c % 8) (c / 8) with
    | true =>
      intro e3
      rw [if_neg (show ¬ (if true = true then (1 : Int32) else 0) = 0 by decide)]
      exact e3
    | false =>
      intro e3
      rw [if_pos (show (if false = true then (1 : Int32) else 0) = 0 by decide)]
      exact e3
/-! lamps -/
def zL (z5 LA : Int32) (cO lm : Nat → Int32) : Prop := ∃ (n : Nat) (L : Nat → Nat), n ≤ 6 ∧ z5 = nI n ∧ LA = nI n ∧ ∀ k, k < n → L k < 64 ∧ cO k = nI (L k) ∧ lm k = nI (L k)
theorem z_full (n : Nat) (hn : n ≤ 6) : jf_La_areFull (nI n) = if n < 6 then 0 else 1 := by
  unfold jf_La_areFull
  by_cases c : n < 6
  · rw [if_pos (show nI n < (6 : Int32) from nI_lt (b := 6) c (by decide)), if_pos c]
  · rw [if_neg (show ¬ nI n < (6 : Int32) from nI_nlt (b := 6) (by omega) (by omega)), if_neg c]
theorem z_lamp {n a : Nat} (cO : Nat → Int32) (hn : n < 6) (ha : a < 64) : jf_Lw_lamp (nI n) cO (nI a - nI a / 8 * 8) (nI a / 8) = some (nI n, nI (n + 1), upd cO n (nI a)) := by
  obtain ⟨c1, c2⟩ := z_cut ha
  have hx : a % 8 < 8 := Nat.mod_lt _ (by decide)
  have hy : a / 8 < 8 := by omega
  have hxy : a % 8 + 8 * (a / 8) = a := by omega
  rw [c1, c2]
  unfold jf_Lw_lamp jf_Bi_lamp jf_La_add
  rw [c_cell hx hy]
  simp only [jsum, jlet]
  rw [z_full n (by omega), if_pos hn, if_pos rfl, jput_nI _ _ hn (by decide), nI_1, show (8 : Int32) = nI 8 from rfl, pk_mul, nI_add, hxy]
  rfl
theorem z_lampFull {a : Nat} (cO : Nat → Int32) (ha : a < 64) : jf_Lw_lamp (nI 6) cO (nI a - nI a / 8 * 8) (nI a / 8) = some (-7300, nI 6, cO) := by
  obtain ⟨c1, c2⟩ := z_cut ha
  rw [c1, c2]
  unfold jf_Lw_lamp jf_Bi_lamp
  rw [c_cell (Nat.mod_lt _ (by decide)) (by omega)]
  simp only [jsum]
  rw [z_full 6 (by omega)]
  rfl
/-! the exchange -/
def zE (EI : Int32) (el ea eb e : Nat → Int32) : Prop := ∃ n : Nat, n ≤ 6 ∧ EI = nI n ∧ e 18 = nI n ∧ (∃ ia ib, jPm n ea ia ∧ jPm n eb ib) ∧ ∀ k, k < n → e k = el k ∧ e (6 + k) = ea k ∧ e (12 + k) = eb k ∧ ∃ z : Nat, 1 ≤ z ∧ z ≤ 50 ∧ el k = nI z
theorem zE_ok {EI : Int32} {el ea eb e : Nat → Int32} (h : zE EI el ea eb e) : ∃ (n : Nat) (L r s p u : Nat → Nat), n ≤ 6 ∧ EI = nI n ∧ xOk n el ea eb L r s p u ∧ eR e n L r p := by
  obtain ⟨n, hn, e1, e2, ⟨ia, ib, ⟨r, s, hr⟩, ⟨p, u, hp⟩⟩, hk⟩ := h
  have hL : ∀ k, k < n → el k = nI (el k).toNatClampNeg ∧ 1 ≤ (el k).toNatClampNeg ∧ (el k).toNatClampNeg ≤ 50 := fun k hk2 => by
    obtain ⟨z, z1, z2, z3⟩ := (hk k hk2).2.2.2
    rw [z3, nI_clamp (by omega)]
    exact ⟨rfl, z1, z2⟩
  refine ⟨n, fun k => (el k).toNatClampNeg, r, s, p, u, hn, e1, ⟨fun k hk2 => ?_, fun k hk2 => ?_, fun k hk2 => (hL k hk2).1, fun k hk2 => (hL k hk2).2⟩, ⟨fun k hk2 => ⟨?_, ?_, ?_⟩, e2⟩⟩
  · exact ⟨(hr k hk2).1, (hr k hk2).2.1, (hr k hk2).2.2.1, (hr k hk2).2.2.2.1, (hr k hk2).2.2.2.2.1⟩
  · exact ⟨(hp k hk2).1, (hp k hk2).2.1, (hp k hk2).2.2.1, (hp k hk2).2.2.2.1, (hp k hk2).2.2.2.2.1⟩
  · exact (hk k hk2).1.trans (hL k hk2).1
  · exact (hk k hk2).2.1.trans (hr k hk2).2.2.2.2.1
  · exact (hk k hk2).2.2.1.trans (hp k hk2).2.2.2.2.1
theorem z_interval {n z : Nat} (el ea eb : Nat → Int32) (hn : n < 6) (h1 : 1 ≤ z) (h2 : z ≤ 50) : jf_Lw_interval (nI n) el ea eb (nI z) = some (nI n, nI (n + 1), upd el n (nI z), upd ea n (nI n), upd eb n (nI n)) := by
  have h6 : jf_Ex_isFull (nI n) = 0 := by
    unfold jf_Ex_isFull
    rw [if_pos (show nI n < (6 : Int32) from nI_lt (b := 6) hn (by decide))]
  unfold jf_Lw_interval jf_Bi_interval jf_Ex_add
  rw [c_range (show (1 : Int32) ≤ nI z from nI_le (a := 1) h1 (by omega)) (show nI z ≤ (50 : Int32) from nI_le (b := 50) h2 (by decide))]
  simp only [jsum, jlet]
  rw [h6, if_pos rfl, jput_nI _ _ hn (by decide), jput_nI _ _ hn (by decide), jput_nI _ _ hn (by decide), nI_1]
  rfl
theorem zE_grow {n z : Nat} {el ea eb e e' : Nat → Int32} (h : zE (nI n) el ea eb e) (hn : n < 6) (h1 : 1 ≤ z) (h2 : z ≤ 50) (e18 : e' 18 = nI (n + 1)) (k0 : e' n = nI z) (k6 : e' (6 + n) = nI n) (k12 : e' (12 + n) = nI n) (ko : ∀ k, k < n → e' k = e k ∧ e' (6 + k) = e (6 + k) ∧ e' (12 + k) = e (12 + k)) : zE (nI (n + 1)) (upd el n (nI z)) (upd ea n (nI n)) (upd eb n (nI n)) e' := by
  obtain ⟨n2, hn2, e1, e2, ⟨ia, ib, hpa, hpb⟩, hk⟩ := h
  have : n2 = n := ((nI_eq (by omega) (by omega)).1 e1).symm
  subst this
  obtain ⟨ia', ha'⟩ := jPm_grow hpa
  obtain ⟨ib', hb'⟩ := jPm_grow hpb
  refine ⟨n2 + 1, by omega, rfl, e18, ⟨ia', ib', ha', hb'⟩, fun k hk2 => ?_⟩
  by_cases c : k = n2
  · subst c
    exact ⟨k0.trans (upd_at _ _ _).symm, k6.trans (upd_at _ _ _).symm, k12.trans (upd_at _ _ _).symm, z, h1, h2, upd_at _ _ _⟩
  · obtain ⟨o1, o2, o3⟩ := ko k (by omega)
    obtain ⟨p1, p2, p3, p4⟩ := hk k (by omega)
    rw [upd_ne _ _ c, upd_ne _ _ c, upd_ne _ _ c]
    exact ⟨o1.trans p1, o2.trans p2, o3.trans p3, p4⟩
theorem z_swap {n a c : Nat} (eb : Nat → Int32) (hn : n ≤ 6) (ha : a < n) (hc : c < n) : jf_Lw_swap (nI n) eb (nI a) (nI c) = some (upd (upd eb a (eb c)) c (eb a) a, upd (upd eb a (eb c)) c (eb a)) := by
  unfold jf_Lw_swap jf_Bi_swap jf_Ex_intervals jf_Ex_swapBelow jf_Bi_exchangeIn
  rw [c_place (nI_pos' (by omega)) (nI_lt ha (by omega)), c_place (nI_pos' (by omega)) (nI_lt hc (by omega))]
  simp only [jsum, jlet]
  rw [jat_nI eb (k := a) (by omega) (by decide), jat_nI eb (k := c) (by omega) (by decide), jput_nI eb _ (by omega) (by decide), jput_nI _ _ (by omega) (by decide), jat_nI _ (by omega) (by decide)]
  rfl
theorem z_swapped {n a c : Nat} {el ea eb e : Nat → Int32} (h : zE (nI n) el ea eb e) (hn : n ≤ 6) (ha : a < n) (hc : c < n) : zE (nI n) el ea (upd (upd eb a (eb c)) c (eb a)) (upd (upd e (12 + a) (e (12 + c))) (12 + c) (e (12 + a))) ∧ upd (upd e (12 + a) (e (12 + c))) (12 + c) (e (12 + a)) (12 + a) = upd (upd eb a (eb c)) c (eb a) a := by
  obtain ⟨n2, hn2, e1, e2, ⟨ia, ib, hpa, hpb⟩, hk⟩ := h
  have : n2 = n := ((nI_eq (by omega) (by omega)).1 e1).symm
  subst this
  have key : ∀ k, k < n2 → upd (upd e (12 + a) (e (12 + c))) (12 + c) (e (12 + a)) (12 + k) = upd (upd eb a (eb c)) c (eb a) k := fun k hk2 => by
    by_cases k1 : k = c
    · subst k1
      rw [upd_at, upd_at]; exact (hk a ha).2.2.1
    · rw [upd_ne _ _ (show 12 + k ≠ 12 + c by omega), upd_ne _ _ k1]
      by_cases k2 : k = a
      · subst k2
        rw [upd_at, upd_at]; exact (hk c hc).2.2.1
      · rw [upd_ne _ _ (show 12 + k ≠ 12 + a by omega), upd_ne _ _ k2]; exact (hk k hk2).2.2.1
  obtain ⟨ib', hb'⟩ := jPm_swap hpb ha hc
  refine ⟨⟨n2, hn2, rfl, ?_, ⟨ia, ib', hpa, hb'⟩, fun k hk2 => ⟨?_, ?_, key k hk2, (hk k hk2).2.2.2⟩⟩, key a ha⟩
  · rw [upd_ne _ _ (show 18 ≠ 12 + c by omega), upd_ne _ _ (show 18 ≠ 12 + a by omega)]; exact e2
  · rw [upd_ne _ _ (show k ≠ 12 + c by omega), upd_ne _ _ (show k ≠ 12 + a by omega)]; exact (hk k hk2).1
  · rw [upd_ne _ _ (show 6 + k ≠ 12 + c by omega), upd_ne _ _ (show 6 + k ≠ 12 + a by omega)]; exact (hk k hk2).2.1
