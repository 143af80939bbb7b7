/-! what belongs together: least sets that no edge leaves -/
def sClosed (n : Nat) (E : Nat → List Nat) (S : Nat → Bool) : Prop := ∀ a, a < n → ∀ b, b ∈ E a → S a = S b
def sRel (n : Nat) (E : Nat → List Nat) (x y : Nat) : Prop := ∀ S, sClosed n E S → S x = S y
def sEin (n : Nat) (E : Nat → List Nat) : Prop := ∀ a, a < n → ∀ b, b ∈ E a → b < n
theorem sRel_symm {n : Nat} {E : Nat → List Nat} {x y : Nat} (h : sRel n E x y) : sRel n E y x := fun S hS => (h S hS).symm
theorem sRel_trans {n : Nat} {E : Nat → List Nat} {x y z : Nat} (h : sRel n E x y) (h2 : sRel n E y z) : sRel n E x z := fun S hS => (h S hS).trans (h2 S hS)
/-- sets as the bits of a number below 32 -/
def sHas (G x : Nat) : Bool := G.testBit x
def sWith (G a b : Nat) : Nat := if sHas G a || sHas G b then G ||| 2 ^ a ||| 2 ^ b else G
theorem sWith_all : jall 32 (fun G => jall 5 (fun a => jall 5 (fun b => decide (sWith G a b < 32) && decide (jf_Su_withBoth (nI G) (nI a) (nI b) = nI (sWith G a b)) && jall 5 (fun x => sHas (sWith G a b) x == (sHas G x || ((sHas G a || sHas G b) && (x == a || x == b))))))) = true := by decide +kernel
theorem sWith_at {G a b : Nat} (hG : G < 32) (ha : a < 5) (hb : b < 5) : sWith G a b < 32 ∧ jf_Su_withBoth (nI G) (nI a) (nI b) = nI (sWith G a b) ∧ ∀ x, x < 5 → sHas (sWith G a b) x = (sHas G x || ((sHas G a || sHas G b) && (x == a || x == b))) := by
  have h := jall_at (jall_at (jall_at sWith_all G hG) a ha) b hb
  rw [Bool.and_eq_true, Bool.and_eq_true, decide_eq_true_iff, decide_eq_true_iff] at h
  exact ⟨h.1.1, h.1.2, fun x hx => beq_iff_eq.1 (jall_at h.2 x hx)⟩
def sGrow : List Nat → Nat → Nat → Nat
  | [], _, G => G
  | b :: t, a, G => sGrow t a (sWith G a b)
theorem sGrow_at {n a : Nat} (hn : n ≤ 5) (ha : a < n) : ∀ (l : List Nat) (G : Nat), (∀ b, b ∈ l → b < n) → G < 32 → sGrow l a G < 32 ∧ (∀ x, x < n → sHas G x = true → sHas (sGrow l a G) x = true) ∧ (∀ b, b ∈ l → (sHas G a = true ∨ sHas G b = true) → sHas (sGrow l a G) a = true ∧ sHas (sGrow l a G) b = true) ∧ (∀ S : Nat → Bool, (∀ b, b ∈ l → S a = S b) → (∀ x, x < n → sHas G x = true → S x = true) → ∀ x, x < n → sHas (sGrow l a G) x = true → S x = true)
  | [], G, _, hG => ⟨hG, fun _ _ h => h, fun b hb => absurd hb List.not_mem_nil, fun _ _ h => h⟩
  | b :: t, G, hl, hG => by
    have hb : b < n := hl b List.mem_cons_self
    obtain ⟨w1, -, w3⟩ := sWith_at hG (show a < 5 by omega) (show b < 5 by omega)
    obtain ⟨i1, i2, i3, i4⟩ := sGrow_at hn ha t (sWith G a b) (fun c hc => hl c (List.mem_cons_of_mem _ hc)) w1
    have mono : ∀ x, x < n → sHas G x = true → sHas (sWith G a b) x = true := fun x hx h => by rw [w3 x (by omega), h, Bool.true_or]
    refine ⟨i1, fun x hx h => i2 x hx (mono x hx h), fun c hc h => ?_, fun S hS h x hx hx2 => ?_⟩
    · rw [List.mem_cons] at hc
      rcases hc with rfl | hc
      · have hor : (sHas G a || sHas G c) = true := by rw [Bool.or_eq_true]; exact h
        have e1 : sHas (sWith G a c) a = true := by rw [w3 a (by omega), hor, beq_self_eq_true]; simp
        have e2 : sHas (sWith G a c) c = true := by rw [w3 c (by omega), hor, beq_self_eq_true]; simp
        exact ⟨i2 a ha e1, i2 c hb e2⟩
      · have hcn : c < n := hl c (List.mem_cons_of_mem _ hc)
        exact i3 c hc (h.imp (mono a ha) (mono c hcn))
    · refine i4 S (fun c hc => hS c (List.mem_cons_of_mem _ hc)) (fun y hy hy2 => ?_) x hx hx2
      rw [w3 y (by omega), Bool.or_eq_true, Bool.and_eq_true, Bool.or_eq_true, Bool.or_eq_true, beq_iff_eq, beq_iff_eq] at hy2
      have hab := hS b List.mem_cons_self
      rcases hy2 with hy2 | ⟨h1, h2⟩
      · exact h y hy hy2
      · have hSa : S a = true := by
          rcases h1 with h1 | h1
          · exact h a ha h1
          · rw [hab]; exact h b hb h1
        rcases h2 with rfl | rfl
        · exact hSa
        · rw [← hab]; exact hSa
/-- one round over all squares below k -/
def sRound (E : Nat → List Nat) : Nat → Nat → Nat
  | 0, G => G
  | k + 1, G => sGrow (E k) k (sRound E k G)
theorem sRound_at {n : Nat} {E : Nat → List Nat} (hn : n ≤ 5) (hE : sEin n E) {G : Nat} (hG : G < 32) : ∀ k, k ≤ n → sRound E k G < 32 ∧ (∀ x, x < n → sHas G x = true → sHas (sRound E k G) x = true) ∧ (∀ a, a < k → ∀ b, b ∈ E a → (sHas G a = true ∨ sHas G b = true) → sHas (sRound E k G) a = true ∧ sHas (sRound E k G) b = true) ∧ (∀ S : Nat → Bool, sClosed n E S → (∀ x, x < n → sHas G x = true → S x = true) → ∀ x, x < n → sHas (sRound E k G) x = true → S x = true)
  | 0, _ => ⟨hG, fun _ _ h => h, fun a ha => absurd ha (Nat.not_lt_zero _), fun _ _ h => h⟩
  | k + 1, hk => by
    obtain ⟨i1, i2, i3, i4⟩ := sRound_at hn hE hG k (by omega)
    obtain ⟨g1, g2, g3, g4⟩ := sGrow_at hn (show k < n by omega) (E k) (sRound E k G) (hE k (by omega)) i1
    refine ⟨g1, fun x hx h => g2 x hx (i2 x hx h), fun a ha b hb h => ?_, fun S hS h => g4 S (hS k (by omega)) (i4 S hS h)⟩
    by_cases c : a = k
    · subst c
      exact g3 b hb (h.imp (i2 a (by omega)) (i2 b (hE a (by omega) b hb)))
    · obtain ⟨q1, q2⟩ := i3 a (by omega) b hb h
      exact ⟨g2 a (by omega) q1, g2 b (hE a (by omega) b hb) q2⟩
theorem jcnt_mono {n : Nat} {f g : Nat → Bool} (h : ∀ x, x < n → f x = true → g x = true) : jcnt n f ≤ jcnt n g := by
  induction n with
  | zero => exact Nat.le_refl 0
  | succ n ih =>
    rw [jcnt, jcnt]
    have i := ih (fun x hx => h x (by omega))
    cases e : f n with
    | false => rw [if_neg (by decide)]; omega
    | true => rw [h n (by omega) e, if_pos rfl]; omega
theorem jcnt_more {n : Nat} {f g : Nat → Bool} (h : ∀ x, x < n → f x = true → g x = true) {y : Nat} (hy : y < n) (e1 : f y = false) (e2 : g y = true) : jcnt n f + 1 ≤ jcnt n g := by
  have h1 := jcnt_set f hy
  rw [e1, if_neg (by decide)] at h1
  have h2 : jcnt n (fun k => f k || (k == y)) ≤ jcnt n g := jcnt_mono (fun x hx hx2 => by
    rw [Bool.or_eq_true, beq_iff_eq] at hx2
    rcases hx2 with hx2 | rfl
    · exact h x hx hx2
    · exact e2)
  omega
/-- t rounds -/
def sRounds (E : Nat → List Nat) (n : Nat) : Nat → Nat → Nat
  | 0, G => G
  | t + 1, G => sRounds E n t (sRound E n G)
theorem sRounds_at {n : Nat} {E : Nat → List Nat} (hn : n ≤ 5) (hE : sEin n E) : ∀ t G, G < 32 → sRounds E n t G < 32 ∧ (∀ x, x < n → sHas G x = true → sHas (sRounds E n t G) x = true) ∧ (∀ S : Nat → Bool, sClosed n E S → (∀ x, x < n → sHas G x = true → S x = true) → ∀ x, x < n → sHas (sRounds E n t G) x = true → S x = true) ∧ (sClosed n E (sHas (sRounds E n t G)) ∨ jcnt n (sHas G) + t ≤ jcnt n (sHas (sRounds E n t G)))
  | 0, G, hG => ⟨hG, fun _ _ h => h, fun _ _ h => h, Or.inr (Nat.le_refl _)⟩
  | t + 1, G, hG => by
    obtain ⟨r1, r2, r3, r4⟩ := sRound_at hn hE hG n (Nat.le_refl n)
    obtain ⟨i1, i2, i3, i4⟩ := sRounds_at hn hE t (sRound E n G) r1
    refine ⟨i1, fun x hx h => i2 x hx (r2 x hx h), fun S hS h => i3 S hS (r4 S hS h), ?_⟩
    show sClosed n E (sHas (sRounds E n t (sRound E n G))) ∨ jcnt n (sHas G) + (t + 1) ≤ jcnt n (sHas (sRounds E n t (sRound E n G)))
    by_cases c : ∃ a, a < n ∧ ∃ b, b ∈ E a ∧ sHas G a ≠ sHas G b
    · obtain ⟨a, ha, b, hb, hab⟩ := c
      have hbn := hE a ha b hb
      rcases i4 with i4 | i4
      · exact Or.inl i4
      · right
        have : jcnt n (sHas G) + 1 ≤ jcnt n (sHas (sRound E n G)) := by
          cases ea : sHas G a with
          | true =>
            have eb : sHas G b = false := by cases h : sHas G b with
              | false => rfl
              | true => rw [ea, h] at hab; exact absurd rfl hab
            exact jcnt_more r2 hbn eb (r3 a ha b hb (Or.inl ea)).2
          | false =>
            have eb : sHas G b = true := by cases h : sHas G b with
              | true => rfl
              | false => rw [ea, h] at hab; exact absurd rfl hab
            exact jcnt_more r2 ha ea (r3 a ha b hb (Or.inr eb)).1
        omega
    · left
      have hc : sClosed n E (sHas G) := fun a ha b hb => by
        by_cases e : sHas G a = sHas G b
        · exact e
        · exact absurd ⟨a, ha, b, hb, e⟩ c
      have same : ∀ x, x < n → sHas (sRounds E n t (sRound E n G)) x = sHas G x := fun x hx => by
        rw [Bool.eq_iff_iff]
        exact ⟨i3 (sHas G) hc (r4 (sHas G) hc (fun _ _ h => h)) x hx, fun h => i2 x hx (r2 x hx h)⟩
      intro a ha b hb
      rw [same a ha, same b (hE a ha b hb)]
      exact hc a ha b hb
theorem sOne : jall 5 (fun k => decide (2 ^ k < 32) && decide ((1 : Int32) <<< (nI k &&& 31) = nI (2 ^ k)) && jall 5 (fun x => sHas (2 ^ k) x == (x == k))) = true := by decide +kernel
theorem sOne_at {k : Nat} (hk : k < 5) : 2 ^ k < 32 ∧ (1 : Int32) <<< (nI k &&& 31) = nI (2 ^ k) ∧ ∀ x, x < 5 → sHas (2 ^ k) x = (x == k) := by
  have h := jall_at sOne k hk
  rw [Bool.and_eq_true, Bool.and_eq_true, decide_eq_true_iff, decide_eq_true_iff] at h
  exact ⟨h.1.1, h.1.2, fun x hx => beq_iff_eq.1 (jall_at h.2 x hx)⟩
theorem jcnt_pos {n : Nat} {f : Nat → Bool} {y : Nat} (hy : y < n) (e : f y = true) : 1 ≤ jcnt n f := by
  have h := jcnt_more (n := n) (f := fun _ => false) (g := f) (fun x _ h => by cases h) hy rfl e
  omega
/-- the group of k: just what is related to k -/
theorem sGroup {n k : Nat} {E : Nat → List Nat} (hn : n ≤ 5) (hE : sEin n E) (hk : k < n) : sRounds E n n (2 ^ k) < 32 ∧ ∀ x, x < n → (sHas (sRounds E n n (2 ^ k)) x = true ↔ sRel n E k x) := by
  obtain ⟨o1, -, o3⟩ := sOne_at (show k < 5 by omega)
  obtain ⟨i1, i2, i3, i4⟩ := sRounds_at hn hE n (2 ^ k) o1
  have hkk : sHas (2 ^ k) k = true := by rw [o3 k (by omega), beq_self_eq_true]
  have hc : sClosed n E (sHas (sRounds E n n (2 ^ k))) := by
    rcases i4 with i4 | i4
    · exact i4
    · have h1 := jcnt_pos (n := n) hk hkk
      have h2 := jcnt_le n (sHas (sRounds E n n (2 ^ k)))
      omega
  refine ⟨i1, fun x hx => ⟨fun h S hS => ?_, fun h => ?_⟩⟩
  · have sub : ∀ S : Nat → Bool, sClosed n E S → S k = true → S x = true := fun S hS hSk => i3 S hS (fun y hy hy2 => by
      rw [o3 y (by omega), beq_iff_eq] at hy2
      rw [hy2]; exact hSk) x hx h
    cases e : S k with
    | true => exact (sub S hS e).symm
    | false =>
      have := sub (fun y => !S y) (fun a ha b hb => by show (!S a) = !S b; rw [hS a ha b hb]) (by rw [e]; rfl)
      exact (jnot this).symm
  · rw [← h _ hc]
    exact i2 k hk hkk

