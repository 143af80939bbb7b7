/-! p35: the law's steps of an exchange -/
theorem jPm_inj {n : Nat} {f h : Nat → Int32} (hn : n ≤ 6) (hp : jPm n f h) {a b : Nat} (ha : a < n) (hb : b < n) (e : f a = f b) : a = b := by
  obtain ⟨r, s, hr⟩ := hp
  have h1 := hr a ha
  have h2 := hr b hb
  have b1 : r a < n := h1.1
  have b2 : r b < n := h2.1
  rw [h1.2.2.2.2.1, h2.2.2.2.2.1, nI_eq (by omega) (by omega)] at e
  have h3 := h1.2.2.2.1
  rw [e, h2.2.2.2.1] at h3
  exact h3.symm
theorem z_j18 : jin 18 19 = true := by decide
theorem z_t18 : (18 : Int32).toNatClampNeg = 18 := by decide
theorem z_putsL {o n q : Nat} {f e : Nat → Int32} {v z3 : Int32} (hn : n + 1 ≤ 6) (ho : o + (n + 1) ≤ 18) (hv : f q = v) (hne : ∀ k, k < n + 1 → k ≠ q → f k ≠ v) (hz : z3 = f n) : ∀ j m k E, k = q + 1 + j → k < n + 1 → j < m → (∀ i, i < n + 1 → E (o + i) = upd (xmv f k (n + 1)) k z3 i) → (∀ i, i < o ∨ o + (n + 1) ≤ i → E i = e i) → ∃ E', jf_Lw_puts_L19 (nI o) v z3 m (nI k) E = some E' ∧ (∀ i, i < n + 1 → E' (o + i) = upd (xmv f (q + 1) (n + 1)) (q + 1) z3 i) ∧ ∀ i, i < o ∨ o + (n + 1) ≤ i → E' i = e i := by
  intro j
  induction j with
  | zero =>
    intro m k E hk hkn hm h1 h2
    obtain ⟨p, rfl⟩ : ∃ p, m = p + 1 := ⟨m - 1, by omega⟩
    have : k = q + 1 := by omega
    subst this
    have e1 : E (o + q) = v := by
      rw [h1 q (by omega), upd_ne _ _ (show q ≠ q + 1 by omega), xmv_le f (by omega)]; exact hv
    refine ⟨E, ?_, h1, h2⟩
    rw [jf_Lw_puts_L19, nI_add, show o + (q + 1) = o + q + 1 by omega, nI_pred, if_pos (j19 (by omega)), nI_clamp (by omega), if_pos e1]
  | succ j ih =>
    intro m k E hk hkn hm h1 h2
    obtain ⟨p, rfl⟩ : ∃ p, m = p + 1 := ⟨m - 1, by omega⟩
    obtain ⟨k, rfl⟩ : ∃ i, k = i + 1 := ⟨k - 1, by omega⟩
    have e1 : E (o + k) = f k := by
      rw [h1 k (by omega), upd_ne _ _ (show k ≠ k + 1 by omega), xmv_le f (by omega)]
    have e2 : ¬ E (o + k) = v := by rw [e1]; exact hne k (by omega) (by omega)
    obtain ⟨E', r1, r2, r3⟩ := ih p k (upd (upd E (o + (k + 1)) (E (o + k))) (o + k) z3) (by omega) (by omega) (by omega) (fun i hi => by
      by_cases c1 : i = k
      · subst c1; rw [upd_at, upd_at]
      · rw [upd_ne _ _ (show o + i ≠ o + k by omega), upd_ne _ _ c1]
        by_cases c2 : i = k + 1
        · subst c2
          rw [upd_at, e1]
          unfold xmv
          rw [if_pos (by omega)]
          rfl
        · rw [upd_ne _ _ (show o + i ≠ o + (k + 1) by omega), h1 i hi, upd_ne _ _ c2]
          unfold xmv
          by_cases c3 : k < i
          · rw [if_pos (by omega), if_pos (by omega)]
          · rw [if_neg (by omega), if_neg (by omega)]) (fun i hi => by
      rw [upd_ne _ _ (show i ≠ o + k by omega), upd_ne _ _ (show i ≠ o + (k + 1) by omega)]
      exact h2 i hi)
    refine ⟨E', ?_, r2, r3⟩
    rw [jf_Lw_puts_L19, nI_add, show o + (k + 1) = o + k + 1 by omega, nI_pred, if_pos (j19 (by omega)), nI_clamp (by omega), if_neg e2, if_pos (j19 (by omega)), if_pos (j19 (by omega)), if_pos (j19 (by omega)), nI_clamp (by omega), pk_m1]
    exact r1
theorem z_puts {o n q : Nat} {f e : Nat → Int32} {v : Int32} (hn : n + 1 ≤ 6) (ho : o + (n + 1) ≤ 18) (he : e 18 = nI (n + 1)) (hf : ∀ i, i < n + 1 → e (o + i) = f i) (hq : q < n) (hv : f q = v) (hne : ∀ k, k < n + 1 → k ≠ q → f k ≠ v) : ∃ E', jf_Lw_puts e (nI o) v = some E' ∧ (∀ i, i < n + 1 → E' (o + i) = upd (xmv f (q + 1) (n + 1)) (q + 1) (f n) i) ∧ ∀ i, i < o ∨ o + (n + 1) ≤ i → E' i = e i := by
  obtain ⟨E', r1, r2, r3⟩ := z_putsL hn ho hv hne (z3 := f n) rfl (n - (q + 1)) jF n e (by omega) (by omega) (jF_gt (by omega)) (fun i hi => by
    have t := xmv_top f (n := n + 1)
    rw [show n + 1 - 1 = n from rfl] at t
    rw [hf i hi, t]
    by_cases c : i = n
    · subst c; rw [upd_at]
    · rw [upd_ne _ _ c]) (fun i _ => rfl)
  refine ⟨E', ?_, r2, r3⟩
  unfold jf_Lw_puts
  rw [z_t18, if_pos z_j18, he, nI_add, show o + (n + 1) = o + n + 1 by omega, nI_pred, if_pos (j19 (by omega)), nI_clamp (by omega), hf n (by omega)]
  simp only [jlet]
  rw [if_pos z_j18, nI_pred, r1]
  rfl
theorem z_sum {n : Nat} {e : Nat → Int32} {L : Nat → Nat} (hn : n ≤ 6) (he : e 18 = nI n) (hL : ∀ k, k < n → e k = nI (L k)) (z2 : Int64) (z5 z6 z10 z11 z12 z13 z18 : Int32) : ∀ j m k, k + j = n → j < m → jf_Lw_law_L745 e z2 z5 z6 z10 z11 z12 z13 z18 m (nI (xS L k)) (nI k) = some (nI (xS L n)) := by
  intro j
  induction j with
  | zero =>
    intro m k e1 hm
    obtain ⟨q, rfl⟩ : ∃ q, m = q + 1 := ⟨m - 1, by omega⟩
    have : k = n := by omega
    subst this
    rw [jf_Lw_law_L745, z_t18, if_pos z_j18, he, if_pos (nI_le (Nat.le_refl k) (by omega))]
  | succ j ih =>
    intro m k e1 hm
    obtain ⟨q, rfl⟩ : ∃ q, m = q + 1 := ⟨m - 1, by omega⟩
    rw [jf_Lw_law_L745, z_t18, if_pos z_j18, he, if_neg (nI_ge (by omega) (by omega)), if_pos (j19 (by omega)), nI_clamp (by omega), hL k (by omega)]
    simp only [jlet]
    rw [nI_add, nI_1]
    exact ih q (k + 1) (by omega) (by omega)
abbrev zX : Type := Int32 × (Nat → Int32) × (Nat → Int32) × (Nat → Int32) × (Nat → Int32)
abbrev zXs : Type := Int32 → Int32 → (Nat → Int32) → (Nat → Int32) → (Nat → Int32) → (Nat → Int32) → Option zX
theorem z_no {self : zXs} {EI : Int32} {el ea eb : Nat → Int32} (h : jf_Ex_canInduce EI el ea eb = 0) (e : Nat → Int32) (z2 : Int64) (z5 z6 z10 z11 z12 z18 : Int32) : jf_Lw_law_b633 self EI el ea eb e z2 z5 z6 z10 z11 z12 1 z18 = self 1 (z18 + 1) el ea eb e := by
  have e1 : jf_Lw_induce EI el ea eb = some (-7300, el, ea, eb) := by
    unfold jf_Lw_induce jf_Bi_induce
    rw [h, if_pos rfl]
    simp only [Option.bind, jsum]
    first | exact if_pos trivial | exact if_pos rfl
  unfold jf_Lw_law_b633
  rw [e1]
  simp only [Option.bind]
  first | rw [if_pos rfl] | rw [if_pos trivial]
  unfold jf_Lw_law_b650 jf_Lw_law_b790
  simp only [jlet]
  rw [z_11]
theorem z_yes {self : zXs} {n q o : Nat} {EI v : Int32} {el ea eb e f el' ea' eb' : Nat → Int32} {L : Nat → Nat} (hn : n + 1 ≤ 6) (ho : o + (n + 1) ≤ 18) (ho6 : 6 ≤ o) (he : e 18 = nI (n + 1)) (hf : ∀ i, i < n + 1 → e (o + i) = f i) (hq : q < n) (hv : f q = v) (hne : ∀ k, k < n + 1 → k ≠ q → f k ≠ v) (hL : ∀ k, k < n + 1 → e k = nI (L k)) (hi : jf_Lw_induce EI el ea eb = some (nI (xS L (n + 1)), el', ea', eb')) (z2 : Int64) (z5 z6 z10 z11 z12 z18 : Int32) : ∃ E', jf_Lw_law_b734 self EI el ea eb e z2 z5 z6 z10 z11 z12 1 z18 (nI o) v = self 1 (z18 + 1) el' ea' eb' E' ∧ (∀ i, i < n + 1 → E' (o + i) = upd (xmv f (q + 1) (n + 1)) (q + 1) (f n) i) ∧ ∀ i, i < o ∨ o + (n + 1) ≤ i → E' i = e i := by
  obtain ⟨E', r1, r2, r3⟩ := z_puts hn ho he hf hq hv hne
  refine ⟨E', ?_, r2, r3⟩
  have r4 := z_sum (e := E') hn (by rw [r3 18 (by omega)]; exact he) (fun k hk => by rw [r3 k (by omega)]; exact hL k hk) z2 z5 z6 z10 z11 z12 1 z18 (n + 1) jF 0 (by omega) (jF_gt (by omega))
  have r5 : jf_Lw_law_L745 E' z2 z5 z6 z10 z11 z12 1 z18 jF 0 0 = some (nI (xS L (n + 1))) := r4
  unfold jf_Lw_law_b734
  rw [r1]
  simp only [Option.bind]
  rw [r5]
  simp only []
  rw [hi]
  simp only []
  first | rw [if_pos rfl] | rw [if_pos trivial]
  unfold jf_Lw_law_b787 jf_Lw_law_b790
  simp only [jlet]
  rw [z_11]
theorem z_ind1 {self : zXs} {EI : Int32} {el ea eb e : Nat → Int32} (h : zE EI el ea eb e) (z2 : Int64) (z5 z6 z10 z11 z12 z18 : Int32) : ∃ el' ea' eb' e', (if jin 18 19 = true then (if e (18 : Int32).toNatClampNeg = 0 then (jf_Lw_law_b578 self EI el ea eb e z2 z5 z6 z10 z11 z12 1 z18 0) else (if jin 18 19 = true then (if jin (5 + (e (18 : Int32).toNatClampNeg)) 19 = true then (jf_Lw_law_b578 self EI el ea eb e z2 z5 z6 z10 z11 z12 1 z18 (e (5 + (e (18 : Int32).toNatClampNeg) : Int32).toNatClampNeg)) else none) else none)) else none) = self 1 (z18 + 1) el' ea' eb' e' ∧ zE EI el' ea' eb' e' := by
  have h0 := h
  obtain ⟨n, hn, rfl, he, ⟨ia, ib, hpa, hpb⟩, hk⟩ := h0
  cases n with
  | zero =>
    refine ⟨el, ea, eb, e, ?_, h⟩
    have hcan : jf_Ex_canInduce (nI 0) el ea eb = 0 := by
      unfold jf_Ex_canInduce
      simp only [jlet]
      rw [if_pos (show nI 0 ≤ 0 by decide)]
    unfold jf_Lw_law_b578 jf_Lw_law_b603
    rw [z_t18, if_pos z_j18, he, if_pos (show nI 0 = 0 by decide), if_pos z_j18, if_pos (show nI 0 = 0 by decide), if_pos z_j18, if_pos (show nI 0 = 0 by decide)]
    exact z_no hcan _ _ _ _ _ _ _ _
  | succ n =>
    have hn1 : ¬ nI (n + 1) = 0 := nI_ne0 (by omega) (by omega)
    have hn2 : ¬ nI (n + 1) ≤ 0 := nI_nle (by omega) (by omega)
    obtain ⟨a, ha, ea1⟩ := jPm_in hpa (k := n) (by omega)
    obtain ⟨c, hc, ec1⟩ := jPm_in hpb (k := n) (by omega)
    obtain ⟨la, a1, a2, a3⟩ := (hk a ha).2.2.2
    obtain ⟨lc, c1, c2, c3⟩ := (hk c hc).2.2.2
    have ja : jin (nI a) 19 = true := j19 (by omega)
    have jc : jin (nI c) 19 = true := j19 (by omega)
    have t5 : (5 : Int32) + nI (n + 1) = nI (6 + n) := by rw [show (5 : Int32) = nI 5 from rfl, nI_add]; congr 1; omega
    have t11 : (11 : Int32) + nI (n + 1) = nI (12 + n) := by rw [show (11 : Int32) = nI 11 from rfl, nI_add]; congr 1; omega
    have e6 : e (6 + n) = nI a := (hk n (by omega)).2.1.trans ea1
    have e12 : e (12 + n) = nI c := (hk n (by omega)).2.2.1.trans ec1
    have va : e a = nI la := (hk a ha).1.trans a3
    have vc : e c = nI lc := (hk c hc).1.trans c3
    have hcan : jf_Ex_canInduce (nI (n + 1)) el ea eb = if a = c then 0 else if la = lc then 0 else 1 := by
      unfold jf_Ex_canInduce
      simp only [jlet]
      rw [nI_pred, jat_nI ea (by omega) (by decide), jat_nI eb (by omega) (by decide), ea1, ec1, jat_nI el (by omega) (by decide), jat_nI el (by omega) (by decide), a3, c3, if_neg hn2]
      by_cases h : a = c
      · rw [if_pos h, if_pos (congrArg nI h)]
      · rw [if_neg h, if_neg (by rw [nI_eq (by omega) (by omega)]; exact h)]
        by_cases h2 : la = lc
        · rw [if_pos h2, if_pos (congrArg nI h2)]
        · rw [if_neg h2, if_neg (by rw [nI_eq (by omega) (by omega)]; exact h2)]
    unfold jf_Lw_law_b578 jf_Lw_law_b603
    rw [z_t18, if_pos z_j18, he, if_neg hn1, if_pos z_j18, t5, if_pos (j19 (by omega)), nI_clamp (by omega), e6, if_pos z_j18, if_neg hn1, if_pos z_j18, t11, if_pos (j19 (by omega)), nI_clamp (by omega), e12, if_pos z_j18, if_neg hn1]
    by_cases hac : a = c
    · refine ⟨el, ea, eb, e, ?_, h⟩
      rw [if_pos (congrArg nI hac)]
      exact z_no (by rw [hcan, if_pos hac]) _ _ _ _ _ _ _ _
    · rw [if_neg (by rw [nI_eq (by omega) (by omega)]; exact hac), if_pos ja, if_pos jc, nI_clamp (show a < 2 ^ 31 by omega), nI_clamp (show c < 2 ^ 31 by omega), va, vc]
      by_cases hl : la = lc
      · refine ⟨el, ea, eb, e, ?_, h⟩
        rw [if_pos (congrArg nI hl)]
        exact z_no (by rw [hcan, if_neg hac, if_pos hl]) _ _ _ _ _ _ _ _
      · rw [if_neg (by rw [nI_eq (by omega) (by omega)]; exact hl), if_pos ja, if_pos jc]
        have hcan1 : jf_Ex_canInduce (nI (n + 1)) el ea eb = 1 := by rw [hcan, if_neg hac, if_neg hl]
        by_cases hlt : la < lc
        · obtain ⟨q, hq, eq⟩ := jPm_s hpa hc
          have hqn : q ≠ n := fun h => by
            subst h
            rw [ea1] at eq
            exact hac ((nI_eq (by omega) (by omega)).1 eq)
          obtain ⟨x1, -⟩ := xlast_above (g := ea) hn hpa (q := q) (by omega) (fun k hkn => rfl)
          rw [eq] at x1
          obtain ⟨g', hg'⟩ := xmv_pm hpa (q := q) (by omega)
          have hneg : nI la - nI lc ≤ 0 := by
            have := pk_sneg (a := la) (b := lc) (by omega) hlt
            rw [Int32.lt_iff_toInt_lt] at this
            rw [Int32.le_iff_toInt_le]; omega
          have hz : -(nI la - nI lc) = nI (lc - la) := by rw [Int32.neg_sub, pk_sub (by omega)]
          have hlen : ∀ k, k < n + 1 → (∃ z : Nat, 1 ≤ z ∧ z ≤ 50 ∧ upd el c (nI (lc - la)) k = nI z) := fun k hkn => by
            by_cases e : k = c
            · subst e; exact ⟨lc - la, by omega, by omega, upd_at _ _ _⟩
            · obtain ⟨w, w1, w2, w3⟩ := (hk k hkn).2.2.2
              exact ⟨w, w1, w2, by rw [← w3]; exact upd_ne _ _ e⟩
          have hL : ∀ k, k < n + 1 → upd el c (nI (lc - la)) k = nI (upd el c (nI (lc - la)) k).toNatClampNeg := fun k hkn => by
            obtain ⟨z, z1, z2, z3⟩ := hlen k hkn
            rw [z3, nI_clamp (by omega)]
          have hml : ∀ k, k < n + 1 → upd e c (nI (lc - la)) k = upd el c (nI (lc - la)) k := fun k hkn => upd_eq (fun _ => (hk k hkn).1) rfl
          have hi : jf_Lw_induce (nI (n + 1)) el ea eb = some (nI (xS (fun k => (upd el c (nI (lc - la)) k).toNatClampNeg) (n + 1)), upd el c (nI (lc - la)), upd (xmv ea (q + 1) (n + 1)) (q + 1) (ea n), eb) := by
            unfold jf_Lw_induce jf_Bi_induce
            rw [hcan1, if_neg (show ¬ (1 : Int32) = 0 by decide)]
            unfold jf_Ex_induceOnce
            simp only [jlet]
            rw [nI_pred, jat_nI ea (by omega) (by decide), jat_nI eb (by omega) (by decide), ea1, ec1, jat_nI el (by omega) (by decide), jat_nI el (by omega) (by decide), a3, c3, if_pos hneg, hz, jput_nI el _ (by omega) (by decide), x1]
            simp only [Option.bind]
            rw [xc_points hn hL]
            simp only [jsum]
            rw [← ea1]
            rfl
          have he1 : upd e c (nI (lc - la)) 18 = nI (n + 1) := by rw [upd_ne _ _ (show 18 ≠ c by omega)]; exact he
          obtain ⟨E', r1, r2, r3⟩ := z_yes (self := self) (o := 6) (v := nI c) (f := ea) (e := upd e c (nI (lc - la))) hn (by omega) (by omega) he1 (fun i hi2 => by rw [upd_ne _ _ (show 6 + i ≠ c by omega)]; exact (hk i hi2).2.1) (show q < n by omega) eq (fun k hk2 hkq h2 => hkq (jPm_inj hn hpa hk2 hq (h2.trans eq.symm))) (fun k hk2 => by rw [hml k hk2]; exact hL k hk2) hi z2 z5 z6 z10 z11 z12 z18
          refine ⟨_, _, _, E', ?_, n + 1, hn, rfl, by rw [r3 18 (by omega)]; exact he1, ⟨g', ib, hg', hpb⟩, fun k hkn => ⟨?_, ?_, ?_, hlen k hkn⟩⟩
          · rw [if_pos (nI_le (by omega) (by omega))]
            unfold jf_Lw_law_b674 jf_Lw_law_b710 jf_Lw_law_b722
            rw [if_pos rfl, if_pos jc, if_pos ja, if_pos jc, nI_clamp (show a < 2 ^ 31 by omega), nI_clamp (show c < 2 ^ 31 by omega), va, vc, pk_sub (by omega), if_pos rfl, if_pos rfl]
            exact r1
          · rw [r3 k (by omega)]; exact hml k hkn
          · exact r2 k hkn
          · rw [r3 (12 + k) (by omega), upd_ne _ _ (show 12 + k ≠ c by omega)]; exact (hk k hkn).2.2.1
        · obtain ⟨q, hq, eq⟩ := jPm_s hpb ha
          have hqn : q ≠ n := fun h => by
            subst h
            rw [ec1] at eq
            exact hac ((nI_eq (by omega) (by omega)).1 eq).symm
          obtain ⟨x1, -⟩ := xlast_below (g := eb) hn hpb (q := q) (by omega) (fun k hkn => rfl)
          rw [eq] at x1
          obtain ⟨g', hg'⟩ := xmv_pm hpb (q := q) (by omega)
          have hpos : ¬ nI la - nI lc ≤ 0 := by
            rw [pk_sub (by omega)]
            exact nI_nle (by omega) (by omega)
          have hz : nI la - nI lc = nI (la - lc) := by rw [pk_sub (by omega)]
          have hlen : ∀ k, k < n + 1 → (∃ z : Nat, 1 ≤ z ∧ z ≤ 50 ∧ upd el a (nI (la - lc)) k = nI z) := fun k hkn => by
            by_cases e : k = a
            · subst e; exact ⟨la - lc, by omega, by omega, upd_at _ _ _⟩
            · obtain ⟨w, w1, w2, w3⟩ := (hk k hkn).2.2.2
              exact ⟨w, w1, w2, by rw [← w3]; exact upd_ne _ _ e⟩
          have hL : ∀ k, k < n + 1 → upd el a (nI (la - lc)) k = nI (upd el a (nI (la - lc)) k).toNatClampNeg := fun k hkn => by
            obtain ⟨z, z1, z2, z3⟩ := hlen k hkn
            rw [z3, nI_clamp (by omega)]
          have hml : ∀ k, k < n + 1 → upd e a (nI (la - lc)) k = upd el a (nI (la - lc)) k := fun k hkn => upd_eq (fun _ => (hk k hkn).1) rfl
          have hi : jf_Lw_induce (nI (n + 1)) el ea eb = some (nI (xS (fun k => (upd el a (nI (la - lc)) k).toNatClampNeg) (n + 1)), upd el a (nI (la - lc)), ea, upd (xmv eb (q + 1) (n + 1)) (q + 1) (eb n)) := by
            unfold jf_Lw_induce jf_Bi_induce
            rw [hcan1, if_neg (show ¬ (1 : Int32) = 0 by decide)]
            unfold jf_Ex_induceOnce
            simp only [jlet]
            rw [nI_pred, jat_nI ea (by omega) (by decide), jat_nI eb (by omega) (by decide), ea1, ec1, jat_nI el (by omega) (by decide), jat_nI el (by omega) (by decide), a3, c3, if_neg hpos, hz, jput_nI el _ (by omega) (by decide), x1]
            simp only [Option.bind]
            rw [xc_points hn hL]
            simp only [jsum]
            rw [← ec1]
            rfl
          have he1 : upd e a (nI (la - lc)) 18 = nI (n + 1) := by rw [upd_ne _ _ (show 18 ≠ a by omega)]; exact he
          obtain ⟨E', r1, r2, r3⟩ := z_yes (self := self) (o := 12) (v := nI a) (f := eb) (e := upd e a (nI (la - lc))) hn (by omega) (by omega) he1 (fun i hi2 => by rw [upd_ne _ _ (show 12 + i ≠ a by omega)]; exact (hk i hi2).2.2.1) (show q < n by omega) eq (fun k hk2 hkq h2 => hkq (jPm_inj hn hpb hk2 hq (h2.trans eq.symm))) (fun k hk2 => by rw [hml k hk2]; exact hL k hk2) hi z2 z5 z6 z10 z11 z12 z18
          refine ⟨_, _, _, E', ?_, n + 1, hn, rfl, by rw [r3 18 (by omega)]; exact he1, ⟨ia, g', hpa, hg'⟩, fun k hkn => ⟨?_, ?_, ?_, hlen k hkn⟩⟩
          · rw [if_neg (nI_ge (by omega) (by omega))]
            unfold jf_Lw_law_b674 jf_Lw_law_b710 jf_Lw_law_b722
            rw [if_neg (show ¬ (1 : Int32) = 0 by decide), if_pos ja, if_pos jc, if_pos ja, nI_clamp (show a < 2 ^ 31 by omega), nI_clamp (show c < 2 ^ 31 by omega), va, vc, hz, if_neg (show ¬ (1 : Int32) = 0 by decide), if_neg (show ¬ (1 : Int32) = 0 by decide)]
            exact r1
          · rw [r3 k (by omega)]; exact hml k hkn
          · rw [r3 (6 + k) (by omega), upd_ne _ _ (show 6 + k ≠ a by omega)]; exact (hk k hkn).2.1
          · exact r2 k hkn
theorem z_inds {EI : Int32} (z2 : Int64) (z5 z6 z10 z11 z12 : Int32) : ∀ j m k el ea eb e, k + j = 3 → j < m → zE EI el ea eb e → ∃ el' ea' eb' e', jf_Lw_law_L550 EI z2 z5 z6 z10 z11 z12 m 1 (nI k) el ea eb e = some (1, el', ea', eb', e') ∧ zE EI el' ea' eb' e' := by
  intro j
  induction j with
  | zero =>
    intro m k el ea eb e hk hm h
    obtain ⟨q, rfl⟩ : ∃ q, m = q + 1 := ⟨m - 1, by omega⟩
    have : k = 3 := by omega
    subst this
    exact ⟨el, ea, eb, e, by rw [jf_Lw_law_L550, if_pos (show (3 : Int32) ≤ nI 3 by decide)], h⟩
  | succ j ih =>
    intro m k el ea eb e hk hm h
    obtain ⟨q, rfl⟩ : ∃ q, m = q + 1 := ⟨m - 1, by omega⟩
    obtain ⟨el1, ea1, eb1, e1, r1, r2⟩ := z_ind1 (self := jf_Lw_law_L550 EI z2 z5 z6 z10 z11 z12 q) h z2 z5 z6 z10 z11 z12 (nI k)
    obtain ⟨el2, ea2, eb2, e2, r3, r4⟩ := ih q (k + 1) el1 ea1 eb1 e1 (by omega) (by omega) r2
    refine ⟨el2, ea2, eb2, e2, ?_, r4⟩
    rw [jf_Lw_law_L550, if_neg (show ¬ (3 : Int32) ≤ nI k from nI_ge (b := 3) (by omega) (by decide)), r1, nI_1]
    exact r3
