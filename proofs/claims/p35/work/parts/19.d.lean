/-! what the tables say -/
theorem all_drop {α : Type} (f : α → Bool) (l : List α) (a b : Nat) (h1 : ((l.drop a).take b).all f = true) (h2 : (l.drop (a + b)).all f = true) : (l.drop a).all f = true := by
  have e := List.take_append_drop b (l.drop a)
  rw [List.drop_drop] at e
  rw [← e, List.all_append, h1, h2]; rfl
theorem k_5 : (cA5.drop 0).all (fun q => cRow5 cA5 q.1 q.2) = true := by
  have e : (cA5.drop 120).all (fun q => cRow5 cA5 q.1 q.2) = true := by
    have : cA5.drop 120 = [] := by decide +kernel
    rw [this]; rfl
  exact all_drop _ cA5 0 10 k_5_0 (all_drop _ cA5 10 10 k_5_1 (all_drop _ cA5 20 10 k_5_2 (all_drop _ cA5 30 10 k_5_3 (all_drop _ cA5 40 10 k_5_4 (all_drop _ cA5 50 10 k_5_5 (all_drop _ cA5 60 10 k_5_6 (all_drop _ cA5 70 10 k_5_7 (all_drop _ cA5 80 10 k_5_8 (all_drop _ cA5 90 10 k_5_9 (all_drop _ cA5 100 10 k_5_10 (all_drop _ cA5 110 10 k_5_11 e)))))))))))
theorem k_all {A : List (Nat × Nat)} {f : Nat → Nat → Nat → Nat → Bool} (m : Nat) (h : ((A.drop 0).take m).all (fun q => A.all (fun p => f q.1 p.1 q.2 p.2)) = true) (hm : (A.take m) = A) {R U a b : Nat} (hR : (R, a) ∈ A) (hU : (U, b) ∈ A) : f R U a b = true := by
  rw [List.drop_zero, hm, List.all_eq_true] at h
  have h1 := h _ hR
  rw [List.all_eq_true] at h1
  exact h1 _ hU
/-- the fields of a row of the tables -/
def fldOk (n : Nat) : List (Nat × Nat) → Nat → Nat → Bool
  | [], _, X => Nat.beq X (nat_lit 0)
  | p :: t, R, X => Nat.beq (Nat.mod X (nat_lit 4294967296)) (cE n (fun k => g5 p.1 (g5 R (g5 p.2 k)))) && (Nat.blt (Nat.mod X (nat_lit 4294967296)) (nat_lit 268435456) && fldOk n t R (Nat.div X (nat_lit 4294967296)))
theorem fld_1 : cA1.all (fun q => fldOk 1 cP1 q.1 q.2) = true := by decide +kernel
theorem fld_2 : cA2.all (fun q => fldOk 2 cP2 q.1 q.2) = true := by decide +kernel
theorem fld_3 : cA3.all (fun q => fldOk 3 cP3 q.1 q.2) = true := by decide +kernel
theorem fld_4 : cA4.all (fun q => fldOk 4 cP4 q.1 q.2) = true := by decide +kernel
theorem fld_5 : cA5.all (fun q => fldOk 5 cP5 q.1 q.2) = true := by decide +kernel
theorem cH_at : cH1 = cH cP1.length ∧ cH2 = cH cP2.length ∧ cH3 = cH cP3.length ∧ cH4 = cH cP4.length ∧ cH5 = cH cP5.length ∧ cO1 = cO cP1.length ∧ cO2 = cO cP2.length ∧ cO3 = cO cP3.length ∧ cO4 = cO cP4.length ∧ cO5 = cO cP5.length := by decide +kernel
theorem cHO (v : Nat) (hv : v < 2147483648) : ∀ m, v * cO m ≤ cH m
  | 0 => Nat.le_refl 0
  | m + 1 => by
    have i := cHO v hv m
    rw [cO, cH, Nat.mul_add, Nat.mul_left_comm]
    omega
/-- many comparisons at once -/
theorem simd (n v R U : Nat) (hv : v < 2147483648) : ∀ (l : List (Nat × Nat)) (A B : Nat), fldOk n l R A = true → fldOk n l U B = true → Nat.land (5 * A + B + cH l.length - v * cO l.length) (cH l.length) = cH l.length → ∀ p, p ∈ l → v ≤ 5 * cE n (fun k => g5 p.1 (g5 R (g5 p.2 k))) + cE n (fun k => g5 p.1 (g5 U (g5 p.2 k)))
  | [], _, _, _, _, _, p, hp => absurd hp List.not_mem_nil
  | q :: t, A, B, hA, hB, h, p, hp => by
    rw [fldOk, Bool.and_eq_true, Bool.and_eq_true] at hA hB
    obtain ⟨a1, a2, a3⟩ := hA
    obtain ⟨b1, b2, b3⟩ := hB
    have a1 := Nat.eq_of_beq_eq_true a1
    have b1 := Nat.eq_of_beq_eq_true b1
    rw [Nat.blt_eq] at a2 b2
    have a1 : A % 4294967296 = cE n (fun k => g5 q.1 (g5 R (g5 q.2 k))) := a1
    have b1 : B % 4294967296 = cE n (fun k => g5 q.1 (g5 U (g5 q.2 k))) := b1
    have a2 : A % 4294967296 < 268435456 := a2
    have b2 : B % 4294967296 < 268435456 := b2
    have a3 : fldOk n t R (A / 4294967296) = true := a3
    have b3 : fldOk n t U (B / 4294967296) = true := b3
    have hvo := cHO v hv t.length
    rw [List.length_cons, cH, cO, Nat.mul_add, Nat.mul_left_comm, Nat.mul_one] at h
    have h : ((5 * A + B + (2147483648 + 4294967296 * cH t.length) - (v + 4294967296 * (v * cO t.length))) &&& (2147483648 + 4294967296 * cH t.length)) = 2147483648 + 4294967296 * cH t.length := h
    obtain ⟨w, hw⟩ : ∃ w, v * cO t.length = w := ⟨_, rfl⟩
    obtain ⟨H, hH⟩ : ∃ H, cH t.length = H := ⟨_, rfl⟩
    rw [hw, hH] at hvo h
    have h1 := congrArg (fun x => x % 2 ^ 32) h
    have h2 := congrArg (fun x => x / 2 ^ 32) h
    simp only [Nat.and_mod_two_pow, Nat.and_div_two_pow] at h1 h2
    have e1 : (5 * A + B + (2147483648 + 4294967296 * H) - (v + 4294967296 * w)) % 2 ^ 32 = 5 * (A % 4294967296) + B % 4294967296 + 2147483648 - v := by omega
    have e2 : (5 * A + B + (2147483648 + 4294967296 * H) - (v + 4294967296 * w)) / 2 ^ 32 = 5 * (A / 4294967296) + B / 4294967296 + H - w := by omega
    have e3 : (2147483648 + 4294967296 * H) % 2 ^ 32 = 2147483648 := by omega
    have e4 : (2147483648 + 4294967296 * H) / 2 ^ 32 = H := by omega
    rw [e1, e3] at h1
    rw [e2, e4] at h2
    rw [List.mem_cons] at hp
    rcases hp with rfl | hp
    · rw [← a1, ← b1]
      have := Nat.and_le_left (n := 5 * (A % 4294967296) + B % 4294967296 + 2147483648 - v) (m := 2147483648)
      omega
    · rw [← hw, ← hH] at h2
      exact simd n v R U hv t (A / 4294967296) (B / 4294967296) a3 b3 h2 p hp
/-- whether the digits below n are a permutation -/
def isP (n c : Nat) : Bool := jall n (fun k => Nat.blt (g5 c k) n && jall k (fun i => !(Nat.beq (g5 c i) (g5 c k))))
theorem mem_1 : jall 5 (fun c => !(isP 1 c && Nat.blt c 5) || (cP1.any (fun q => Nat.beq q.1 c) && cA1.any (fun q => Nat.beq q.1 c))) = true := by decide +kernel
theorem mem_2 : jall 25 (fun c => !isP 2 c || (cP2.any (fun q => Nat.beq q.1 c) && cA2.any (fun q => Nat.beq q.1 c))) = true := by decide +kernel
theorem mem_3 : jall 125 (fun c => !isP 3 c || (cP3.any (fun q => Nat.beq q.1 c) && cA3.any (fun q => Nat.beq q.1 c))) = true := by decide +kernel
theorem mem_4 : jall 625 (fun c => !isP 4 c || (cP4.any (fun q => Nat.beq q.1 c) && cA4.any (fun q => Nat.beq q.1 c))) = true := by decide +kernel
theorem mem_5 : jall 3125 (fun c => !isP 5 c || (cP5.any (fun q => Nat.beq q.1 c) && cA5.any (fun q => Nat.beq q.1 c))) = true := by decide +kernel
def invOk (n : Nat) (l : List (Nat × Nat)) : Bool := l.all (fun p => jall n (fun k => Nat.blt (g5 p.1 k) n && (Nat.blt (g5 p.2 k) n && (Nat.beq (g5 p.1 (g5 p.2 k)) k && Nat.beq (g5 p.2 (g5 p.1 k)) k))))
theorem inv_all : invOk 1 cP1 = true ∧ invOk 2 cP2 = true ∧ invOk 3 cP3 = true ∧ invOk 4 cP4 = true ∧ invOk 5 cP5 = true := by decide +kernel

