/-! p35: cycles, the least of each; parts that stay apart -/
abbrev xF (L r p u : Nat → Nat) (n : Nat) : Nat → Nat := xI L r p u n
theorem xF_ok {n : Nat} {len above below : Nat → Int32} {L r s p u : Nat → Nat} (h : xOk n len above below L r s p u) {t : Nat} (ht : t < xS L n) : xF L r p u n t < xS L n ∧ xI L p r s n (xF L r p u n t) = t :=
  xI_ok (fun k hk => ⟨(h.1 k hk).1, (h.1 k hk).2.1, (h.1 k hk).2.2.1, (h.1 k hk).2.2.2.1⟩) (fun k hk => ⟨(h.2.1 k hk).1, (h.2.1 k hk).2.1, (h.2.1 k hk).2.2.1, (h.2.1 k hk).2.2.2.1⟩) ht
theorem x_cycle {n t q : Nat} {len above below : Nat → Int32} {L r s p u : Nat → Nat} (hn : n ≤ 6) (h : xOk n len above below L r s p u) (ht : t < xS L n) (hq : jPer (xF L r p u n) t q) (h5 : q ≤ xS L n) : jf_Lw_cycle (nI n) len above below (nI t) = some (nI q) := by
  have hs : xS L n ≤ 50 * n := xS_le (fun k hk => (h.2.2.2 k hk).2) n (Nat.le_refl n)
  have q1 := hq.1
  have c1 := xc_rounds (N := xS L n) (by omega) (fun t ht => ⟨(xF_ok h ht).1, c_image hn h ht⟩) ht hq h5 (q - 1) jF 1 (by omega) (Nat.le_refl 1) (jF_gt (by omega))
  unfold jf_Lw_cycle jf_Bi_cycle
  rw [xc_points hn h.2.2.1]
  simp only [Option.bind]
  rw [c_place (nI_pos' (by omega)) (nI_lt ht (by omega))]
  simp only [jsum]
  unfold jf_Ex_imagesRound
  rw [c_image hn h ht]
  simp only [Option.bind]
  rw [show jf_Ex_imagesRound_L8 (nI n) len above below (nI t) jF 1 (nI (xI L r p u n t)) = some (nI q) from c1]
  rfl
/-- the law goes round -/
theorem e_round {n N t q : Nat} {e : Nat → Int32} {F : Nat → Nat} (hN : N ≤ 300) (hF : ∀ t, t < N → F t < N ∧ jf_Lw_goesTo e (nI t) 6 12 = some (nI (F t))) (ht : t < N) (hq : jPer F t q) : ∀ j m k, k + j = q → 1 ≤ k → j < m → jf_Lw_isExchange_L313 e (nI t) m (nI k) (nI (jit F k t)) = some (nI q) := by
  intro j
  have hit : ∀ k, jit F k t < N := fun k => jit_P (P := fun x => x < N) (fun x h => (hF x h).1) ht k
  induction j with
  | zero =>
    intro m k e0 h1 hm
    obtain ⟨w, rfl⟩ : ∃ w, m = w + 1 := ⟨m - 1, by omega⟩
    have : k = q := by omega
    subst this
    rw [jf_Lw_isExchange_L313, hq.2.1, if_pos rfl]
  | succ j ih =>
    intro m k e0 h1 hm
    obtain ⟨w, rfl⟩ : ∃ w, m = w + 1 := ⟨m - 1, by omega⟩
    have hk := hit k
    rw [jf_Lw_isExchange_L313, if_neg (fun z => hq.2.2 k h1 (by omega) (nI_inj (by omega) (by omega) z)), (hF _ hk).2]
    simp only [Option.bind]
    rw [nI_1]
    exact ih w (k + 1) (by omega) (by omega) (by omega)
/-- the orbit's least one -/
def xLeast (F : Nat → Nat) (t : Nat) : Nat → Bool
  | 0 => true
  | k + 1 => decide (t ≤ jit F (k + 1) t) && xLeast F t k
theorem xLeast_iff {F : Nat → Nat} {t : Nat} : ∀ k, xLeast F t k = true ↔ ∀ i, 1 ≤ i → i ≤ k → t ≤ jit F i t
  | 0 => ⟨fun _ i h1 h2 => absurd h1 (by omega), fun _ => rfl⟩
  | k + 1 => by
    rw [xLeast, Bool.and_eq_true, decide_eq_true_eq, xLeast_iff k]
    constructor
    · rintro ⟨h1, h2⟩ i a b
      by_cases c : i = k + 1
      · subst c; exact h1
      · exact h2 i a (by omega)
    · intro h
      exact ⟨h _ (by omega) (Nat.le_refl _), fun i a b => h i a (by omega)⟩
def xMin (F : Nat → Nat) (N t : Nat) : Bool := xLeast F t N
/-- the law: from t on till it comes to t or below -/
theorem e_down {N t q : Nat} {e : Nat → Int32} {F : Nat → Nat} (z1 z3 z4 z5 : Int32) (hN : N ≤ 300) (hF : ∀ t, t < N → F t < N ∧ jf_Lw_goesTo e (nI t) 6 12 = some (nI (F t))) (ht : t < N) (hq : jPer F t q) (h5 : q ≤ N) : ∀ j m k, k + j = q → 1 ≤ k → j < m → (∀ i, 1 ≤ i → i < k → t < jit F i t) → ∃ w, w ≤ t ∧ jf_Lw_isExchange_L183 e z1 z3 z4 z5 (nI t) m (nI (jit F k t)) = some (nI w) ∧ (w = t ↔ xMin F N t = true) := by
  intro j
  have hit : ∀ k, jit F k t < N := fun k => jit_P (P := fun x => x < N) (fun x h => (hF x h).1) ht k
  induction j with
  | zero =>
    intro m k e0 h1 hm hlo
    obtain ⟨w, rfl⟩ : ∃ w, m = w + 1 := ⟨m - 1, by omega⟩
    have : k = q := by omega
    subst this
    refine ⟨t, Nat.le_refl t, ?_, ?_⟩
    · rw [jf_Lw_isExchange_L183, hq.2.1, if_pos (nI_le (Nat.le_refl t) (by omega))]
    · refine ⟨fun _ => (xLeast_iff N).2 (fun i a b => ?_), fun _ => rfl⟩
      rw [jit_mod h1 hq.2.1 i]
      by_cases c : i % k = 0
      · rw [c]; exact Nat.le_refl t
      · exact Nat.le_of_lt (hlo (i % k) (by omega) (Nat.mod_lt _ (by omega)))
  | succ j ih =>
    intro m k e0 h1 hm hlo
    obtain ⟨w, rfl⟩ : ∃ w, m = w + 1 := ⟨m - 1, by omega⟩
    have hk := hit k
    by_cases c : jit F k t ≤ t
    · refine ⟨jit F k t, c, ?_, ?_⟩
      · rw [jf_Lw_isExchange_L183, if_pos (nI_le c (by omega))]
      · have hne : jit F k t ≠ t := hq.2.2 k h1 (by omega)
        refine ⟨fun z => absurd z hne, fun z => ?_⟩
        have := (xLeast_iff N).1 z k h1 (by omega)
        omega
    · obtain ⟨v, v1, v2, v3⟩ := ih w (k + 1) (by omega) (by omega) (by omega) (fun i a b => by
        by_cases d : i = k
        · subst d; omega
        · exact hlo i a (by omega))
      refine ⟨v, v1, ?_, v3⟩
      rw [jf_Lw_isExchange_L183, if_neg (nI_ge (by omega) (by omega)), (hF _ hk).2]
      simp only [Option.bind]
      exact v2
theorem e_cycles {N : Nat} {e : Nat → Int32} {F G : Nat → Nat} (z1 z4 : Int32) (hN : N ≤ 300) (hF : ∀ t, t < N → F t < N ∧ jf_Lw_goesTo e (nI t) 6 12 = some (nI (F t))) (hG : ∀ t, t < N → G (F t) = t) : ∀ j m k, k + j = N → j < m → jf_Lw_isExchange_L165 e z1 (nI N) z4 m (nI (jcnt k (xMin F N))) (nI k) = some (nI (jcnt N (xMin F N))) := by
  intro j
  induction j with
  | zero =>
    intro m k e0 hm
    obtain ⟨w, rfl⟩ : ∃ w, m = w + 1 := ⟨m - 1, by omega⟩
    have : k = N := by omega
    subst this
    rw [jf_Lw_isExchange_L165, if_pos (nI_le (Nat.le_refl k) (by omega))]
  | succ j ih =>
    intro m k e0 hm
    obtain ⟨w, rfl⟩ : ∃ w, m = w + 1 := ⟨m - 1, by omega⟩
    have hk : k < N := by omega
    obtain ⟨q, hq, h5⟩ := jper_ex (P := fun t => t < N) (f := F) (g := G) (N := N) (fun s h => (hF s h).1) (fun s h => hG s h) (fun s h => h) hk
    have q1 := hq.1
    obtain ⟨v, v1, v2, v3⟩ := e_down z1 (nI N) z4 (nI (jcnt k (xMin F N))) hN hF hk hq h5 (q - 1) jF 1 (by omega) (Nat.le_refl 1) (jF_gt (by omega)) (fun i a b => absurd b (by omega))
    have i1 := ih w (k + 1) (by omega) (by omega)
    have e1 : jcnt (k + 1) (xMin F N) = jcnt k (xMin F N) + (if xMin F N k then 1 else 0) := rfl
    rw [e1] at i1
    rw [jf_Lw_isExchange_L165, if_neg (nI_ge hk (by omega)), (hF k hk).2]
    simp only [Option.bind]
    rw [show jf_Lw_isExchange_L183 e z1 (nI N) z4 (nI (jcnt k (xMin F N))) (nI k) jF (nI (F k)) = some (nI v) from v2]
    simp only []
    unfold jf_Lw_isExchange_b219
    simp only [jlet]
    by_cases c : v = k
    · rw [if_pos (by rw [c]), nI_1, nI_1]
      rw [v3.1 c] at i1
      exact i1
    · rw [if_neg (fun z => c (nI_inj (by omega) (by omega) z)), Int32.add_zero, nI_1]
      have : xMin F N k = false := by
        cases g : xMin F N k with
        | false => rfl
        | true => exact absurd (v3.2 g) c
      rw [this] at i1
      exact i1
/-- the class: a cycle is met whole -/
theorem c_meet {n N k q : Nat} {len above below : Nat → Int32} {F G : Nat → Nat} {M : Nat → Bool} (hN : N ≤ 300) (hF : ∀ t, t < N → F t < N ∧ jf_Ex_imageOf (nI n) len above below (nI t) = some (nI (F t))) (hG : ∀ t, t < N → G (F t) = t) (hk : k < N) (hq : jPer F k q) (h5 : q ≤ N) (hM : ∀ i, i < q → M (jit F i k) = false) : ∀ j i m bits, i + j = q → j < m → jMk bits (fun x => M x || jex i (fun a => x == jit F a k)) → ∃ bits', jf_Ex_meetCycleOf_L4 (nI n) len above below m (nI (jit F i k)) (nI i) bits = some bits' ∧ jMk bits' (fun x => M x || jex q (fun a => x == jit F a k)) := by
  have hit : ∀ i, jit F i k < N := fun i => jit_P (P := fun x => x < N) (fun x h => (hF x h).1) hk i
  intro j
  induction j with
  | zero =>
    intro i m bits e hm hb
    obtain ⟨w, rfl⟩ : ∃ w, m = w + 1 := ⟨m - 1, by omega⟩
    have : i = q := by omega
    subst this
    refine ⟨bits, ?_, hb⟩
    have h1 := hq.1
    rw [jf_Ex_meetCycleOf_L4]
    by_cases c : (300 : Int32) ≤ nI i
    · rw [if_pos c]
    · rw [if_neg c, jhas_at hb (by have := hit i; omega), hq.2.1]
      have : jex i (fun a => k == jit F a k) = true := (jex_iff _ _).2 ⟨0, by omega, beq_self_eq_true k⟩
      rw [this, Bool.or_true, if_neg (by decide)]
  | succ j ih =>
    intro i m bits e hm hb
    obtain ⟨w, rfl⟩ : ∃ w, m = w + 1 := ⟨m - 1, by omega⟩
    have hi := hit i
    have hno : jex i (fun a => jit F i k == jit F a k) = false := by
      cases g : jex i (fun a => jit F i k == jit F a k) with
      | false => rfl
      | true =>
        obtain ⟨a, h1, h2⟩ := (jex_iff _ _).1 g
        have h3 : jit F i k = jit F a k := eq_of_beq h2
        have h4 : jit F (i - a) k = k := by
          have h6 : jit F i k = jit F a (jit F (i - a) k) := by rw [← jit_add]; congr 1; omega
          have h7 := jit_inv (f := F) (g := G) (P := fun x => x < N) (fun x h => (hF x h).1) (fun x h => hG x h) (hit (i - a)) a
          have h8 := jit_inv (f := F) (g := G) (P := fun x => x < N) (fun x h => (hF x h).1) (fun x h => hG x h) hk a
          rw [← h6, h3, h8] at h7
          exact h7.symm
        exact absurd h4 (hq.2.2 (i - a) (by omega) (by omega))
    obtain ⟨bits', i1, i2⟩ := ih (i + 1) w (jadd bits (nI (jit F i k))) (by omega) (by omega) (by
      have h1 := jadd_at hb (k := jit F i k) (by omega)
      intro x hx
      rw [h1 x hx]
      show ((M x || jex i (fun a => x == jit F a k)) || (x == jit F i k)) = (M x || jex (i + 1) (fun a => x == jit F a k))
      rw [Bool.or_assoc]
      congr 1
      rw [Bool.eq_iff_iff, Bool.or_eq_true, jex_iff, jex_iff]
      constructor
      · rintro (⟨a, h2, h3⟩ | h3)
        · exact ⟨a, by omega, h3⟩
        · exact ⟨i, by omega, h3⟩
      · rintro ⟨a, h2, h3⟩
        by_cases c : a = i
        · subst c; exact Or.inr h3
        · exact Or.inl ⟨a, by omega, h3⟩)
    refine ⟨bits', ?_, i2⟩
    rw [jf_Ex_meetCycleOf_L4, if_neg (ge_300 (by omega)), jhas_at hb (by omega), hM i (by omega), hno]
    rw [if_pos (show (if (false || false) = true then (1 : Int32) else 0) = 0 by decide)]
    simp only [jlet]
    rw [(hF _ hi).2]
    simp only [Option.bind]
    rw [nI_1]
    exact i1
theorem c_cycles {n N : Nat} {len above below : Nat → Int32} {F G : Nat → Nat} (hN : N ≤ 300) (hF : ∀ t, t < N → F t < N ∧ jf_Ex_imageOf (nI n) len above below (nI t) = some (nI (F t))) (hG : ∀ t, t < N → G (F t) = t) : ∀ j k m bits M, k + j = N → j < m → jMk bits M → (∀ x, x < N → (M x = true ↔ ∃ i, jit F i x < k)) → ∃ bits', jf_Ex_cyclesInAll_L16 (nI n) len above below (nI N) m (nI (jcnt k (xMin F N))) (nI k) bits = some (nI (jcnt N (xMin F N)), bits') := by
  intro j
  induction j with
  | zero =>
    intro k m bits M e hm hb hM
    obtain ⟨w, rfl⟩ : ∃ w, m = w + 1 := ⟨m - 1, by omega⟩
    have : k = N := by omega
    subst this
    exact ⟨bits, by rw [jf_Ex_cyclesInAll_L16, if_pos (nI_le (Nat.le_refl k) (by omega))]⟩
  | succ j ih =>
    intro k m bits M e hm hb hM
    obtain ⟨w, rfl⟩ : ∃ w, m = w + 1 := ⟨m - 1, by omega⟩
    have hk : k < N := by omega
    obtain ⟨q, hq, h5⟩ := jper_ex (P := fun t => t < N) (f := F) (g := G) (N := N) (fun s h => (hF s h).1) (fun s h => hG s h) (fun s h => h) hk
    have q1 := hq.1
    have e1 : jcnt (k + 1) (xMin F N) = jcnt k (xMin F N) + (if xMin F N k then 1 else 0) := rfl
    rw [jf_Ex_cyclesInAll_L16, if_neg (nI_ge hk (by omega)), jhas_at hb (by omega)]
    unfold jf_Ex_cyclesInAll_b40
    cases g : M k with
    | true =>
      rw [if_neg (by decide)]
      obtain ⟨i0, h0⟩ := (hM k hk).1 g
      have hmin : xMin F N k = false := by
        cases g2 : xMin F N k with
        | false => rfl
        | true =>
          exfalso
          rw [jit_mod q1 hq.2.1 i0] at h0
          by_cases c : i0 % q = 0
          · rw [c] at h0; exact Nat.lt_irrefl k h0
          · have := (xLeast_iff N).1 g2 (i0 % q) (by omega) (by have := Nat.mod_lt i0 (show 0 < q by omega); omega)
            omega
      rw [hmin] at e1
      obtain ⟨bits', i1⟩ := ih (k + 1) w bits M (by omega) (by omega) hb (fun x hx => by
        rw [hM x hx]
        constructor
        · rintro ⟨i, h⟩; exact ⟨i, by omega⟩
        · rintro ⟨i, h⟩
          by_cases c : jit F i x = k
          · exact ⟨i0 + i, by rw [jit_add, c]; exact h0⟩
          · exact ⟨i, by omega⟩)
      rw [e1] at i1
      refine ⟨bits', ?_⟩
      rw [nI_1]
      exact i1
    | false =>
      rw [if_pos (by decide)]
      have hle : ∀ i, k ≤ jit F i k := fun i => by
        rcases Nat.lt_or_ge (jit F i k) k with c | c
        · have := (hM k hk).2 ⟨i, c⟩; rw [g] at this; cases this
        · exact c
      have hmin : xMin F N k = true := (xLeast_iff N).2 (fun i _ _ => hle i)
      rw [hmin] at e1
      have hit : ∀ i, jit F i k < N := fun i => jit_P (P := fun x => x < N) (fun x h => (hF x h).1) hk i
      obtain ⟨bits1, m1, m2⟩ := c_meet (M := M) hN hF hG hk hq h5 (fun i _ => by
        cases g2 : M (jit F i k) with
        | false => rfl
        | true =>
          obtain ⟨a, h⟩ := (hM _ (hit i)).1 g2
          rw [← jit_add] at h
          have := hle (a + i)
          omega) q 0 jF bits (by omega) (jF_gt (by omega)) (by
        intro x hx
        rw [hb x hx]
        show M x = (M x || jex 0 _)
        rw [show jex 0 (fun a => x == jit F a k) = false from rfl, Bool.or_false])
      unfold jf_Ex_meetCycleOf
      rw [show jf_Ex_meetCycleOf_L4 (nI n) len above below jF (nI k) 0 bits = some bits1 from m1]
      simp only [Option.bind]
      obtain ⟨bits', i1⟩ := ih (k + 1) w bits1 _ (by omega) (by omega) m2 (fun x hx => by
        rw [Bool.or_eq_true, hM x hx, jex_iff]
        constructor
        · rintro (⟨i, h⟩ | ⟨a, h1, h2⟩)
          · exact ⟨i, by omega⟩
          · have h3 : x = jit F a k := eq_of_beq h2
            refine ⟨q - a, ?_⟩
            rw [h3, ← jit_add, show q - a + a = q by omega, hq.2.1]
            omega
        · rintro ⟨i, h⟩
          by_cases c : jit F i x = k
          · right
            obtain ⟨qx, hqx, -⟩ := jper_ex (P := fun t => t < N) (f := F) (g := G) (N := N) (fun s h => (hF s h).1) (fun s h => hG s h) (fun s h => h) hx
            have h1 := hqx.1
            have h2 : jit F (qx * i) x = x := by rw [jit_mod h1 hqx.2.1, Nat.mul_mod_right]; rfl
            have h3 : i ≤ qx * i := Nat.le_mul_of_pos_left i (by omega)
            have h4 : x = jit F (qx * i - i) k := by
              rw [← c, ← jit_add, show qx * i - i + i = qx * i by omega]; exact h2.symm
            refine ⟨(qx * i - i) % q, Nat.mod_lt _ (by omega), ?_⟩
            rw [← jit_mod q1 hq.2.1, ← h4]
            exact beq_self_eq_true x
          · left; exact ⟨i, by omega⟩)
      rw [e1] at i1
      refine ⟨bits', ?_⟩
      rw [nI_1, nI_1]
      exact i1
theorem x_cycles {n : Nat} {len above below : Nat → Int32} {L r s p u : Nat → Nat} (hn : n ≤ 6) (h : xOk n len above below L r s p u) (met : Nat → Int64) : ∃ bits', jf_Bi_cycles (nI n) len above below met = some (nI (jcnt (xS L n) (xMin (xF L r p u n) (xS L n))), bits') := by
  have hs : xS L n ≤ 50 * n := xS_le (fun k hk => (h.2.2.2 k hk).2) n (Nat.le_refl n)
  obtain ⟨bits', e⟩ := c_cycles (N := xS L n) (by omega) (fun t ht => ⟨(xF_ok h ht).1, c_image hn h ht⟩) (fun t ht => (xF_ok h ht).2) (xS L n) 0 jF (jclr met) (fun _ => false) (by omega) (jF_gt (by omega)) (jclr_at met) (fun x hx => ⟨fun z => (by cases z), fun ⟨i, z⟩ => absurd z (Nat.not_lt_zero _)⟩)
  refine ⟨bits', ?_⟩
  unfold jf_Bi_cycles jf_Ex_cyclesInAll
  simp only [jlet]
  rw [xc_points hn h.2.2.1]
  simp only [Option.bind]
  rw [show jf_Ex_cyclesInAll_L16 (nI n) len above below (nI (xS L n)) jF 0 0 (jclr met) = some (nI (jcnt (xS L n) (xMin (xF L r p u n) (xS L n))), bits') from e]
