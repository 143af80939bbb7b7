/-! p35: all SQUARES to which one comes, and their numbers -/
def lR (how : Nat) (r u g : Nat → Nat) (i j : Nat) : Bool := (decide (how ≠ 4) && (r i == j || r j == i)) || (decide (how = 3) && (u i == j || u j == i)) || (decide (how = 4) && g i == j)
def lAdd (G i j : Nat) (c : Bool) : Nat := if sHas G i && c then G ||| 2 ^ j else G
theorem lAdd_0 : jall 6 (fun n => jall (2 ^ n) (fun G => jall n (fun j => decide (G ||| 2 ^ j < 2 ^ n)))) = true := by decide +kernel
theorem lAdd_at {n G i j : Nat} (hn : n ≤ 5) (hG : G < 2 ^ n) (hj : j < n) (c : Bool) : lAdd G i j c < 2 ^ n ∧ ∀ x, x < 5 → sHas (lAdd G i j c) x = (sHas G x || (sHas G i && c && (x == j))) := by
  have h32 := f_32 hn hG
  unfold lAdd
  cases h : sHas G i && c with
  | false => exact ⟨by rw [if_neg (by decide)]; exact hG, fun x hx => by rw [if_neg (by decide)]; simp⟩
  | true =>
    rw [if_pos rfl]
    refine ⟨of_decide_eq_true (jall_at (jall_at (jall_at lAdd_0 n (by omega)) G hG) j hj), fun x hx => ?_⟩
    obtain ⟨o1, o2, o3⟩ := sOne_at (k := j) (by omega)
    rw [(sOr h32 o1).2.2 x hx, o3 x hx, Bool.true_and]
/-- one arrow looked at -/
theorem l_step {n how i j G : Nat} {right up : Nat → Int32} {r s u w : Nat → Nat} (hn : n ≤ 5) (hh : how = 1 ∨ how = 3 ∨ how = 4) (hr : sP n r s) (hu : sP n u w) (fr : sR n right r) (fu : sR n up u) (hi : i < n) (hj : j < n) (hG : G < 2 ^ n) (z6 : Int32) (m : Nat) : jf_Lw_reach_L27 right up (nI how) (nI n) z6 (nI i) (m + 1) (nI G) (nI j) = jf_Lw_reach_L27 right up (nI how) (nI n) z6 (nI i) m (nI (lAdd G i j (lR how r u (sG r s u w) i j))) (nI (j + 1)) := by
  have h32 := f_32 hn hG
  have ji : jin (nI i) 5 = true := jin_nI (by omega) (by decide)
  have jj : jin (nI j) 5 = true := jin_nI (by omega) (by decide)
  have ri := (hr i hi).1
  have rj := (hr j hj).1
  have ui := (hu i hi).1
  have uj := (hu j hj).1
  have hb : ∀ (c : Bool), jf_Lw_reach_b115 (jf_Lw_reach_L27 right up (nI how) (nI n) z6 (nI i) m) right up (nI how) (nI n) (nI G) z6 (nI i) (nI j) (if c then 1 else 0) = jf_Lw_reach_L27 right up (nI how) (nI n) z6 (nI i) m (nI (lAdd G i j c)) (nI (j + 1)) := by
    intro c
    unfold jf_Lw_reach_b115 jf_Lw_reach_b142 lAdd
    rw [sBit h32 (by omega), nI_1]
    cases sHas G i with
    | false => rw [if_neg (by decide), Bool.false_and, if_neg (by decide)]
    | true =>
      rw [if_pos (by decide), Bool.true_and]
      cases c with
      | false => rw [if_pos (by decide), if_neg (by decide)]
      | true =>
        obtain ⟨o1, o2, o3⟩ := sOne_at (k := j) (by omega)
        rw [if_neg (by decide), if_pos rfl]
        simp only [jlet]
        rw [o2, (sOr h32 o1).2.1]
  have t110 : jf_Lw_reach_b110 (jf_Lw_reach_L27 right up (nI how) (nI n) z6 (nI i) m) right up (nI how) (nI n) (nI G) z6 (nI i) (nI j) = jf_Lw_reach_L27 right up (nI how) (nI n) z6 (nI i) m (nI (lAdd G i j true)) (nI (j + 1)) := hb true
  have t114 : jf_Lw_reach_b114 (jf_Lw_reach_L27 right up (nI how) (nI n) z6 (nI i) m) right up (nI how) (nI n) (nI G) z6 (nI i) (nI j) = jf_Lw_reach_L27 right up (nI how) (nI n) z6 (nI i) m (nI (lAdd G i j false)) (nI (j + 1)) := hb false
  have eqn : ∀ {a b : Nat}, a < 5 → b < 5 → ((nI a = nI b) ↔ a = b) := fun ha hb => nI_eq (by omega) (by omega)
  rw [jf_Lw_reach_L27, if_neg (nI_ge hj (by omega))]
  rcases hh with rfl | rfl | rfl
  · -- right alone
    rw [if_neg (by decide), if_pos ji, nI_clamp (by omega), fr i hi, if_pos jj, nI_clamp (by omega), fr j hj]
    have t57 : jf_Lw_reach_b57 (jf_Lw_reach_L27 right up (nI 1) (nI n) z6 (nI i) m) right up (nI 1) (nI n) (nI G) z6 (nI i) (nI j) = jf_Lw_reach_L27 right up (nI 1) (nI n) z6 (nI i) m (nI (lAdd G i j false)) (nI (j + 1)) := by
      unfold jf_Lw_reach_b57 jf_Lw_reach_b83
      rw [if_pos (by decide), if_pos (by decide)]
      exact t114
    rw [t57, t110]
    by_cases c1 : r i = j
    · rw [if_pos ((eqn (by omega) (by omega)).2 c1), show lR 1 r u (sG r s u w) i j = true by unfold lR; simp [c1]]
    · rw [if_neg (fun z => c1 ((eqn (by omega) (by omega)).1 z))]
      by_cases c2 : r j = i
      · rw [if_pos ((eqn (by omega) (by omega)).2 c2), show lR 1 r u (sG r s u w) i j = true by unfold lR; simp [c2]]
      · rw [if_neg (fun z => c2 ((eqn (by omega) (by omega)).1 z)), show lR 1 r u (sG r s u w) i j = false by unfold lR; simp [c1, c2]]
  · -- right and up
    rw [if_neg (by decide), if_pos ji, nI_clamp (by omega), fr i hi, if_pos jj, nI_clamp (by omega), fr j hj]
    have t57 : jf_Lw_reach_b57 (jf_Lw_reach_L27 right up (nI 3) (nI n) z6 (nI i) m) right up (nI 3) (nI n) (nI G) z6 (nI i) (nI j) = jf_Lw_reach_L27 right up (nI 3) (nI n) z6 (nI i) m (nI (lAdd G i j (u i == j || u j == i))) (nI (j + 1)) := by
      unfold jf_Lw_reach_b57 jf_Lw_reach_b83
      rw [if_neg (by decide), if_pos ji, nI_clamp (by omega), fu i hi, if_pos jj, nI_clamp (by omega), fu j hj, if_pos (show nI 3 &&& 4 ≤ 0 by decide), t110, t114]
      by_cases c1 : u i = j
      · rw [if_pos ((eqn (by omega) (by omega)).2 c1), show (u i == j || u j == i) = true by simp [c1]]
      · rw [if_neg (fun z => c1 ((eqn (by omega) (by omega)).1 z))]
        by_cases c2 : u j = i
        · rw [if_pos ((eqn (by omega) (by omega)).2 c2), show (u i == j || u j == i) = true by simp [c2]]
        · rw [if_neg (fun z => c2 ((eqn (by omega) (by omega)).1 z)), show (u i == j || u j == i) = false by simp [c1, c2]]
    rw [t57, t110]
    by_cases c1 : r i = j
    · rw [if_pos ((eqn (by omega) (by omega)).2 c1), show lR 3 r u (sG r s u w) i j = true by unfold lR; simp [c1]]
    · rw [if_neg (fun z => c1 ((eqn (by omega) (by omega)).1 z))]
      by_cases c2 : r j = i
      · rw [if_pos ((eqn (by omega) (by omega)).2 c2), show lR 3 r u (sG r s u w) i j = true by unfold lR; simp [c2]]
      · rw [if_neg (fun z => c2 ((eqn (by omega) (by omega)).1 z)), show lR 3 r u (sG r s u w) i j = (u i == j || u j == i) by unfold lR; simp [c1, c2]]
  · -- round a corner
    have t57 : jf_Lw_reach_b57 (jf_Lw_reach_L27 right up (nI 4) (nI n) z6 (nI i) m) right up (nI 4) (nI n) (nI G) z6 (nI i) (nI j) = jf_Lw_reach_L27 right up (nI 4) (nI n) z6 (nI i) m (nI (lAdd G i j (sG r s u w i == j))) (nI (j + 1)) := by
      unfold jf_Lw_reach_b57 jf_Lw_reach_b83
      rw [if_pos (by decide), if_neg (by decide), if_pos ji, nI_clamp (by omega), fr i hi, if_pos (jin_nI (by omega) (by decide)), nI_clamp (by omega), fu _ ri, p_before (σ := s) (τ := r) hn (sP_inv hr) fr (hu _ ri).1]
      simp only [Option.bind]
      rw [p_before (σ := w) (τ := u) hn (sP_inv hu) fu (hr _ (hu _ ri).1).2.1, t110, t114]
      have hg := (sG_P hr hu i hi).1
      simp only []
      show (if nI (sG r s u w i) = nI j then _ else _) = _
      by_cases c1 : sG r s u w i = j
      · rw [if_pos ((eqn (by omega) (by omega)).2 c1), show (sG r s u w i == j) = true by simp [c1]]
      · rw [if_neg (fun z => c1 ((eqn (by omega) (by omega)).1 z)), show (sG r s u w i == j) = false by simp [c1]]
    rw [if_pos (by decide), t57]
    rw [show lR 4 r u (sG r s u w) i j = (sG r s u w i == j) by unfold lR; simp]
/-- what a look at some arrows keeps -/
def lOk (n how : Nat) (r u g : Nat → Nat) (Q : Nat → Nat → Prop) (G G' : Nat) : Prop := G' < 2 ^ n ∧ (∀ x, x < n → sHas G x = true → sHas G' x = true) ∧ (∀ i j, i < n → j < n → Q i j → lR how r u g i j = true → sHas G i = true → sHas G' j = true) ∧ ∀ S : Nat → Bool, (∀ a b, a < n → b < n → lR how r u g a b = true → S a = true → S b = true) → (∀ x, x < n → sHas G x = true → S x = true) → ∀ x, x < n → sHas G' x = true → S x = true
theorem lOk_0 {n how : Nat} {r u g : Nat → Nat} {Q : Nat → Nat → Prop} {G : Nat} (hG : G < 2 ^ n) (hQ : ∀ i j, ¬ Q i j) : lOk n how r u g Q G G := ⟨hG, fun _ _ h => h, fun i j _ _ h => absurd h (hQ i j), fun _ _ h => h⟩
theorem lOk_trans {n how : Nat} {r u g : Nat → Nat} {Q Q' Q2 : Nat → Nat → Prop} {G G' G2 : Nat} (h : lOk n how r u g Q G G') (h2 : lOk n how r u g Q' G' G2) (hQ : ∀ i j, Q2 i j → Q i j ∨ Q' i j) : lOk n how r u g Q2 G G2 := by
  obtain ⟨a1, a2, a3, a4⟩ := h
  obtain ⟨b1, b2, b3, b4⟩ := h2
  refine ⟨b1, fun x hx h => b2 x hx (a2 x hx h), fun i j hi hj q hr hh => ?_, fun S hS h => b4 S hS (a4 S hS h)⟩
  rcases hQ i j q with q | q
  · exact b2 j hj (a3 i j hi hj q hr hh)
  · exact b3 i j hi hj q hr (a2 i hi hh)
theorem lOk_add {n how i j G : Nat} {r u g : Nat → Nat} (hn : n ≤ 5) (hG : G < 2 ^ n) (hi : i < n) (hj : j < n) : lOk n how r u g (fun a b => a = i ∧ b = j) G (lAdd G i j (lR how r u g i j)) := by
  obtain ⟨h1, h2⟩ := lAdd_at (i := i) hn hG hj (lR how r u g i j)
  refine ⟨h1, fun x hx h => by rw [h2 x (by omega), h]; rfl, fun a b ha hb q hr hh => ?_, fun S hS h x hx hh => ?_⟩
  · obtain ⟨rfl, rfl⟩ := q
    rw [h2 b (by omega), hh, hr, beq_self_eq_true]
    simp
  · rw [h2 x (by omega), Bool.or_eq_true, Bool.and_eq_true, Bool.and_eq_true] at hh
    rcases hh with hh | ⟨⟨c1, c2⟩, c3⟩
    · exact h x hx hh
    · have : x = j := eq_of_beq c3
      subst this
      exact hS i x hi hx c2 (h i hi c1)
theorem l_row {n how i : Nat} {right up : Nat → Int32} {r s u w : Nat → Nat} (hn : n ≤ 5) (hh : how = 1 ∨ how = 3 ∨ how = 4) (hr : sP n r s) (hu : sP n u w) (fr : sR n right r) (fu : sR n up u) (hi : i < n) (z6 : Int32) : ∀ d j m G, j + d = n → d < m → G < 2 ^ n → ∃ G', jf_Lw_reach_L27 right up (nI how) (nI n) z6 (nI i) m (nI G) (nI j) = some (nI G') ∧ lOk n how r u (sG r s u w) (fun a b => a = i ∧ j ≤ b) G G' := by
  intro d
  induction d with
  | zero =>
    intro j m G e hm hG
    obtain ⟨q, rfl⟩ : ∃ q, m = q + 1 := ⟨m - 1, by omega⟩
    refine ⟨G, by rw [jf_Lw_reach_L27, if_pos (nI_le (by omega) (by omega))], hG, fun _ _ h => h, fun a b _ hb q => by omega, fun _ _ h => h⟩
  | succ d ih =>
    intro j m G e hm hG
    obtain ⟨q, rfl⟩ : ∃ q, m = q + 1 := ⟨m - 1, by omega⟩
    have ha := lOk_add (how := how) (r := r) (u := u) (g := sG r s u w) hn hG hi (show j < n by omega)
    obtain ⟨G', e1, h2⟩ := ih (j + 1) q _ (by omega) (by omega) ha.1
    refine ⟨G', ?_, lOk_trans ha h2 (fun a b q => ?_)⟩
    · rw [l_step hn hh hr hu fr fu hi (by omega) hG]; exact e1
    · by_cases c : b = j
      · exact Or.inl ⟨q.1, c⟩
      · exact Or.inr ⟨q.1, by omega⟩
theorem l_pass {n how : Nat} {right up : Nat → Int32} {r s u w : Nat → Nat} (hn : n ≤ 5) (hh : how = 1 ∨ how = 3 ∨ how = 4) (hr : sP n r s) (hu : sP n u w) (fr : sR n right r) (fu : sR n up u) (z6 : Int32) : ∀ d i m G, i + d = n → d < m → G < 2 ^ n → ∃ G', jf_Lw_reach_L18 right up (nI how) (nI n) z6 m (nI G) (nI i) = some (nI G') ∧ lOk n how r u (sG r s u w) (fun a _ => i ≤ a) G G' := by
  intro d
  induction d with
  | zero =>
    intro i m G e hm hG
    obtain ⟨q, rfl⟩ : ∃ q, m = q + 1 := ⟨m - 1, by omega⟩
    refine ⟨G, by rw [jf_Lw_reach_L18, if_pos (nI_le (by omega) (by omega))], hG, fun _ _ h => h, fun a b ha hb q => by omega, fun _ _ h => h⟩
  | succ d ih =>
    intro i m G e hm hG
    obtain ⟨q, rfl⟩ : ∃ q, m = q + 1 := ⟨m - 1, by omega⟩
    have hi : i < n := by omega
    obtain ⟨G1, e1, h1⟩ := l_row hn hh hr hu fr fu hi z6 n 0 jF G (by omega) (jF_gt (by omega)) hG
    obtain ⟨G', e2, h2⟩ := ih (i + 1) q G1 (by omega) (by omega) h1.1
    refine ⟨G', ?_, lOk_trans h1 h2 (fun a b q => ?_)⟩
    · rw [jf_Lw_reach_L18, if_neg (nI_ge hi (by omega)), show jf_Lw_reach_L27 right up (nI how) (nI n) z6 (nI i) jF (nI G) 0 = some (nI G1) from e1]
      simp only [Option.bind]
      rw [nI_1]
      exact e2
    · by_cases c : a = i
      · exact Or.inl ⟨c, Nat.zero_le _⟩
      · exact Or.inr (by omega)
def lClosed (n how : Nat) (r u g : Nat → Nat) (S : Nat → Bool) : Prop := ∀ a b, a < n → b < n → lR how r u g a b = true → S a = true → S b = true
theorem l_passes {n how : Nat} {right up : Nat → Int32} {r s u w : Nat → Nat} (hn : n ≤ 5) (hh : how = 1 ∨ how = 3 ∨ how = 4) (hr : sP n r s) (hu : sP n u w) (fr : sR n right r) (fu : sR n up u) : ∀ d t m G, t + d = 10 → d < m → G < 2 ^ n → ∃ G', jf_Lw_reach_L8 right up (nI how) (nI n) m (nI G) (nI t) = some (nI G') ∧ G' < 2 ^ n ∧ (∀ x, x < n → sHas G x = true → sHas G' x = true) ∧ (∀ S : Nat → Bool, lClosed n how r u (sG r s u w) S → (∀ x, x < n → sHas G x = true → S x = true) → ∀ x, x < n → sHas G' x = true → S x = true) ∧ (lClosed n how r u (sG r s u w) (sHas G') ∨ jcnt n (sHas G) + d ≤ jcnt n (sHas G')) := by
  intro d
  induction d with
  | zero =>
    intro t m G e hm hG
    obtain ⟨q, rfl⟩ : ∃ q, m = q + 1 := ⟨m - 1, by omega⟩
    have : t = 10 := by omega
    subst this
    exact ⟨G, by rw [jf_Lw_reach_L8, if_pos (by decide)], hG, fun _ _ h => h, fun _ _ h => h, Or.inr (Nat.le_refl _)⟩
  | succ d ih =>
    intro t m G e hm hG
    obtain ⟨q, rfl⟩ : ∃ q, m = q + 1 := ⟨m - 1, by omega⟩
    obtain ⟨G1, e1, a1, a2, a3, a4⟩ := l_pass hn hh hr hu fr fu (nI t) n 0 jF G (by omega) (jF_gt (by omega)) hG
    obtain ⟨G', e2, b1, b2, b3, b4⟩ := ih (t + 1) q G1 (by omega) (by omega) a1
    refine ⟨G', ?_, b1, fun x hx h => b2 x hx (a2 x hx h), fun S hS h => b3 S hS (a4 S hS h), ?_⟩
    · rw [jf_Lw_reach_L8, if_neg (ge_10 (by omega)), show jf_Lw_reach_L18 right up (nI how) (nI n) (nI t) jF (nI G) 0 = some (nI G1) from e1]
      simp only [Option.bind]
      rw [nI_1]
      exact e2
    · by_cases c : ∃ y, y < n ∧ sHas G y = false ∧ sHas G1 y = true
      · obtain ⟨y, hy, c1, c2⟩ := c
        have := jcnt_more a2 hy c1 c2
        rcases b4 with b4 | b4
        · exact Or.inl b4
        · right; omega
      · left
        have same1 : ∀ x, x < n → sHas G1 x = true → sHas G x = true := fun x hx h => by
          cases g : sHas G x with
          | true => rfl
          | false => exact absurd ⟨x, hx, g, h⟩ c
        have hc : lClosed n how r u (sG r s u w) (sHas G) := fun a b ha hb hr2 h => same1 b hb (a3 a b ha hb (Nat.zero_le a) hr2 h)
        intro a b ha hb hr2 h
        have h3 := b3 (sHas G) hc same1 a ha h
        exact b2 b hb (a2 b hb (hc a b ha hb hr2 h3))
/-- which kind of the class's a way of the law's is -/
def lWhat (how : Nat) : Nat := if how = 4 then 1 else if how = 3 then 2 else 3
theorem l_fwd {n : Nat} {g g' : Nat → Nat} (hg : sP n g g') {S : Nat → Bool} (hS : ∀ a, a < n → S a = true → S (g a) = true) {a : Nat} (ha : a < n) : S (g a) = S a := by
  rw [Bool.eq_iff_iff]
  refine ⟨fun h => ?_, hS a ha⟩
  obtain ⟨p, hp, -⟩ := s_per hg ha
  have p1 := hp.1
  have key : ∀ i, S (jit g i (g a)) = true := by
    intro i
    induction i with
    | zero => exact h
    | succ i ih => exact hS _ (s_itlt hg (hg a ha).1 i) ih
  have e : jit g (p - 1) (g a) = a := by
    have : jit g (p - 1 + 1) a = jit g (p - 1) (jit g 1 a) := jit_add g (p - 1) 1 a
    rw [show p - 1 + 1 = p by omega, hp.2.1] at this
    exact this.symm
  rw [← e]; exact key _
theorem l_closed {n how : Nat} {r s u w : Nat → Nat} (hh : how = 1 ∨ how = 3 ∨ how = 4) (hr : sP n r s) (hu : sP n u w) {S : Nat → Bool} : lClosed n how r u (sG r s u w) S ↔ sClosed n (sE n r u (sG r s u w) (lWhat how)) S := by
  have hg := sG_P hr hu
  rcases hh with rfl | rfl | rfl
  · constructor
    · intro h a ha b hb
      rw [show lWhat 1 = 3 from rfl, sE3, List.mem_singleton] at hb
      subst hb
      rw [Bool.eq_iff_iff]
      exact ⟨fun z => h a _ ha (hr a ha).1 (by unfold lR; simp) z, fun z => h _ a (hr a ha).1 ha (by unfold lR; simp) z⟩
    · intro h a b ha hb q z
      unfold lR at q
      simp only [Bool.or_eq_true, Bool.and_eq_true, beq_iff_eq, decide_eq_true_eq] at q
      rcases q with (⟨-, q | q⟩ | ⟨q, -⟩) | ⟨q, -⟩
      · rw [← q, ← h a ha (r a) (by rw [show lWhat 1 = 3 from rfl, sE3]; exact List.mem_singleton.2 rfl)]; exact z
      · rw [h b hb (r b) (by rw [show lWhat 1 = 3 from rfl, sE3]; exact List.mem_singleton.2 rfl), q]; exact z
      · omega
      · omega
  · constructor
    · intro h a ha b hb
      rw [show lWhat 3 = 2 from rfl, sE2, List.mem_cons, List.mem_singleton] at hb
      rw [Bool.eq_iff_iff]
      rcases hb with rfl | rfl
      · exact ⟨fun z => h a _ ha (hr a ha).1 (by unfold lR; simp) z, fun z => h _ a (hr a ha).1 ha (by unfold lR; simp) z⟩
      · exact ⟨fun z => h a _ ha (hu a ha).1 (by unfold lR; simp) z, fun z => h _ a (hu a ha).1 ha (by unfold lR; simp) z⟩
    · intro h a b ha hb q z
      have e1 : ∀ a, a < n → S a = S (r a) := fun a ha => h a ha (r a) (by rw [show lWhat 3 = 2 from rfl, sE2]; exact List.mem_cons_self)
      have e2 : ∀ a, a < n → S a = S (u a) := fun a ha => h a ha (u a) (by rw [show lWhat 3 = 2 from rfl, sE2]; exact List.mem_cons_of_mem _ (List.mem_singleton.2 rfl))
      unfold lR at q
      simp only [Bool.or_eq_true, Bool.and_eq_true, beq_iff_eq, decide_eq_true_eq] at q
      rcases q with (⟨-, q | q⟩ | ⟨-, q | q⟩) | ⟨q, -⟩
      · rw [← q, ← e1 a ha]; exact z
      · rw [e1 b hb, q]; exact z
      · rw [← q, ← e2 a ha]; exact z
      · rw [e2 b hb, q]; exact z
      · omega
  · constructor
    · intro h a ha b hb
      rw [show lWhat 4 = 1 from rfl, show sE n r u (sG r s u w) 1 a = [sG r s u w a] from rfl, List.mem_singleton] at hb
      subst hb
      exact (l_fwd hg (fun a ha z => h a _ ha (hg a ha).1 (by unfold lR; simp) z) ha).symm
    · intro h a b ha hb q z
      unfold lR at q
      simp only [Bool.or_eq_true, Bool.and_eq_true, beq_iff_eq, decide_eq_true_eq] at q
      rcases q with (⟨q, -⟩ | ⟨q, -⟩) | ⟨-, q⟩
      · exact absurd rfl q
      · omega
      · rw [← q, ← h a ha (sG r s u w a) (by rw [show lWhat 4 = 1 from rfl]; exact List.mem_singleton.2 rfl)]; exact z
theorem l_reach {n how k : Nat} {right up : Nat → Int32} {r s u w : Nat → Nat} (hn : n ≤ 5) (hh : how = 1 ∨ how = 3 ∨ how = 4) (hr : sP n r s) (hu : sP n u w) (fr : sR n right r) (fu : sR n up u) (hk : k < n) : ∃ G, jf_Lw_reach right up (nI k) (nI how) (nI n) = some (nI G) ∧ G < 2 ^ n ∧ ∀ x, x < n → sHas G x = sD n (sE n r u (sG r s u w) (lWhat how)) k x := by
  obtain ⟨o1, o2, o3⟩ := sOne_at (k := k) (by omega)
  have hE := sE_in (what := lWhat how) hr hu (sG_P hr hu)
  obtain ⟨G, e1, h1, h2, h3, h4⟩ := l_passes hn hh hr hu fr fu 10 0 jF (2 ^ k) (by omega) (jF_gt (by omega)) (Nat.pow_lt_pow_right (by decide) hk)
  refine ⟨G, ?_, h1, fun x hx => ?_⟩
  · unfold jf_Lw_reach
    rw [o2]
    simp only [jlet]
    rw [show jf_Lw_reach_L8 right up (nI how) (nI n) jF (nI (2 ^ k)) 0 = some (nI G) from e1]
    rfl
  · have hc : lClosed n how r u (sG r s u w) (sHas G) := by
      rcases h4 with h4 | h4
      · exact h4
      · have := jcnt_le n (sHas G); omega
    have hkG : sHas G k = true := h2 k hk (by rw [o3 k (by omega), beq_self_eq_true])
    rw [Bool.eq_iff_iff, sD_at hn hE k x hk hx]
    constructor
    · intro h S hS
      have hS2 := (l_closed hh hr hu).2 hS
      have hN : sClosed n (sE n r u (sG r s u w) (lWhat how)) (fun y => !S y) := fun a ha b hb => by
        show (!S a) = (!S b); rw [hS a ha b hb]
      have hN2 := (l_closed hh hr hu).2 hN
      cases c : S k with
      | true => exact (h3 S hS2 (fun y hy z => by
          rw [o3 y (by omega)] at z; rw [eq_of_beq z]; exact c) x hx h).symm
      | false =>
        have := h3 (fun y => !S y) hN2 (fun y hy z => by
          rw [o3 y (by omega)] at z; rw [eq_of_beq z]; show (!S k) = true; rw [c]; rfl) x hx h
        exact (jnot this).symm
    · intro h
      rw [← h _ ((l_closed hh hr hu).1 hc)]
      exact hkG
theorem l_size {G : Nat} (hG : G < 32) : jf_Lw_size (nI G) = some (nI (jcnt 5 (sHas G))) := by
  have h : ∀ j k m, k + j = 5 → j < m → jf_Lw_size_L4 (nI G) m (nI (jcnt k (sHas G))) (nI k) = some (nI (jcnt 5 (sHas G))) := by
    intro j
    induction j with
    | zero =>
      intro k m e hm
      obtain ⟨q, rfl⟩ : ∃ q, m = q + 1 := ⟨m - 1, by omega⟩
      have : k = 5 := by omega
      subst this
      rw [jf_Lw_size_L4, if_pos (by decide)]
    | succ j ih =>
      intro k m e hm
      obtain ⟨q, rfl⟩ : ∃ q, m = q + 1 := ⟨m - 1, by omega⟩
      rw [jf_Lw_size_L4, if_neg (ge_5 (by omega)), sBit hG (by omega)]
      simp only [jlet]
      have e1 : jcnt (k + 1) (sHas G) = jcnt k (sHas G) + (if sHas G k then 1 else 0) := rfl
      have i1 := ih (k + 1) q (by omega) (by omega)
      rw [e1] at i1
      rw [nI_1]
      cases g : sHas G k with
      | true => rw [g] at i1; rw [if_pos rfl, nI_1]; exact i1
      | false => rw [g] at i1; rw [if_neg (by decide), Int32.add_zero]; exact i1
  unfold jf_Lw_size
  rw [show jf_Lw_size_L4 (nI G) jF 0 0 = some (nI (jcnt 5 (sHas G))) from h 5 0 jF (by omega) (jF_gt (by omega))]
  rfl
theorem l_low0 : jall 32 (fun G => jall 5 (fun k => decide (nI G &&& (((1 : Int32) <<< (nI k &&& 31)) - 1) = 0) == jall k (fun i => !sHas G i))) = true := by decide +kernel
theorem l_lowest {G k : Nat} (hG : G < 32) (hk : k < 5) : (nI G &&& (((1 : Int32) <<< (nI k &&& 31)) - 1) = 0) ↔ jall k (fun i => !sHas G i) = true := by
  have := eq_of_beq (jall_at (jall_at l_low0 G hG) k hk)
  rw [← this, decide_eq_true_eq]
