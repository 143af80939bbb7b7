/-! how many bits a long has -/
def jcnt : Nat → (Nat → Bool) → Nat
  | 0, _ => 0
  | n + 1, f => jcnt n f + (if f n then 1 else 0)
theorem jcnt_add (a b : Nat) (f : Nat → Bool) : jcnt (a + b) f = jcnt a f + jcnt b (fun k => f (a + k)) := by
  induction b with
  | zero => rfl
  | succ b ih => rw [← Nat.add_assoc, jcnt, ih, jcnt, Nat.add_assoc]
theorem jcnt_le (n : Nat) (f : Nat → Bool) : jcnt n f ≤ n := by
  induction n with
  | zero => exact Nat.le_refl 0
  | succ n ih => rw [jcnt]; split <;> omega
theorem jcnt_eq {n : Nat} {f g : Nat → Bool} (h : ∀ k, k < n → f k = g k) : jcnt n f = jcnt n g := by
  induction n with
  | zero => rfl
  | succ n ih => rw [jcnt, jcnt, ih (fun k hk => h k (by omega)), h n (by omega)]
def pM (c : Nat) : Nat → Nat
  | 0 => 0
  | n + 1 => 256 * pM c n + c
def pF1 (n x : Nat) : Nat := x - ((x >>> 1) &&& pM 0x55 n)
def pF2 (n y : Nat) : Nat := (y &&& pM 0x33 n) + ((y >>> 2) &&& pM 0x33 n)
def pF3 (n z : Nat) : Nat := (z + (z >>> 4)) &&& pM 0x0f n
theorem pand (a b m c : Nat) (hb : b < 256) (hc : c < 256) : (256 * a + b) &&& (256 * m + c) = 256 * (a &&& m) + (b &&& c) := by
  have h1 := Nat.div_add_mod ((256 * a + b) &&& (256 * m + c)) 256
  have h2 : ((256 * a + b) &&& (256 * m + c)) / 2 ^ 8 = (256 * a + b) / 2 ^ 8 &&& (256 * m + c) / 2 ^ 8 := Nat.and_div_two_pow ..
  have h3 : ((256 * a + b) &&& (256 * m + c)) % 2 ^ 8 = (256 * a + b) % 2 ^ 8 &&& (256 * m + c) % 2 ^ 8 := Nat.and_mod_two_pow ..
  rw [show (256 * a + b) / 2 ^ 8 = a by omega, show (256 * m + c) / 2 ^ 8 = m by omega] at h2
  rw [show (256 * a + b) % 2 ^ 8 = b by omega, show (256 * m + c) % 2 ^ 8 = c by omega] at h3
  rw [← h1, show (256 : Nat) = 2 ^ 8 from rfl, h2, h3]
theorem pk1 : ∀ e, e < 2 → ∀ b, b < 256 → (128 * e + b / 2) &&& 0x55 = (b >>> 1) &&& 0x55 ∧ ((b >>> 1) &&& 0x55) ≤ b ∧ pF1 1 b < 256 ∧ pF1 1 b = b - ((b >>> 1) &&& 0x55) := by
  have h : jall 2 (fun e => jall 256 (fun b => decide ((128 * e + b / 2) &&& 0x55 = (b >>> 1) &&& 0x55 ∧ ((b >>> 1) &&& 0x55) ≤ b ∧ pF1 1 b < 256 ∧ pF1 1 b = b - ((b >>> 1) &&& 0x55)))) = true := by decide +kernel
  exact fun e he b hb => of_decide_eq_true (jall_at (jall_at h e he) b hb)
theorem pk2 : ∀ e, e < 4 → ∀ b, b < 256 → (64 * e + b / 4) &&& 0x33 = (b >>> 2) &&& 0x33 ∧ pF2 1 b < 256 ∧ pF2 1 b = (b &&& 0x33) + ((b >>> 2) &&& 0x33) := by
  have h : jall 4 (fun e => jall 256 (fun b => decide ((64 * e + b / 4) &&& 0x33 = (b >>> 2) &&& 0x33 ∧ pF2 1 b < 256 ∧ pF2 1 b = (b &&& 0x33) + ((b >>> 2) &&& 0x33)))) = true := by decide +kernel
  exact fun e he b hb => of_decide_eq_true (jall_at (jall_at h e he) b hb)
theorem pk3 : ∀ e, e < 5 → ∀ b, b < 256 → pF2 1 (pF1 1 b) % 16 ≤ 4 ∧ 16 * e + pF2 1 (pF1 1 b) / 16 + pF2 1 (pF1 1 b) < 256 ∧ (pF2 1 (pF1 1 b) + (16 * e + pF2 1 (pF1 1 b) / 16)) &&& 0x0f = pF3 1 (pF2 1 (pF1 1 b)) ∧ pF3 1 (pF2 1 (pF1 1 b)) ≤ 8 ∧ pF3 1 (pF2 1 (pF1 1 b)) = jcnt 8 (fun k => b.testBit k) := by
  have h : jall 5 (fun e => jall 256 (fun b => decide (pF2 1 (pF1 1 b) % 16 ≤ 4 ∧ 16 * e + pF2 1 (pF1 1 b) / 16 + pF2 1 (pF1 1 b) < 256 ∧ (pF2 1 (pF1 1 b) + (16 * e + pF2 1 (pF1 1 b) / 16)) &&& 0x0f = pF3 1 (pF2 1 (pF1 1 b)) ∧ pF3 1 (pF2 1 (pF1 1 b)) ≤ 8 ∧ pF3 1 (pF2 1 (pF1 1 b)) = jcnt 8 (fun k => b.testBit k)))) = true := by decide +kernel
  exact fun e he b hb => of_decide_eq_true (jall_at (jall_at h e he) b hb)
theorem pF1_le (n x : Nat) : (x >>> 1) &&& pM 0x55 n ≤ x := Nat.le_trans Nat.and_le_left (by rw [Nat.shiftRight_eq_div_pow]; omega)
theorem pF1_step (n a : Nat) {b : Nat} (hb : b < 256) : pF1 (n + 1) (256 * a + b) = 256 * pF1 n a + pF1 1 b := by
  obtain ⟨k1, k2, k3, k4⟩ := pk1 (a % 2) (by omega) b hb
  have e : (256 * a + b) >>> 1 = 256 * (a >>> 1) + (128 * (a % 2) + b / 2) := by rw [Nat.shiftRight_eq_div_pow, Nat.shiftRight_eq_div_pow]; omega
  have h := pF1_le n a
  rw [k4, pF1, pF1, pM, e, pand _ _ _ _ (by omega) (by decide), k1]
  omega
theorem pF2_step (n a : Nat) {b : Nat} (hb : b < 256) : pF2 (n + 1) (256 * a + b) = 256 * pF2 n a + pF2 1 b := by
  obtain ⟨k1, k2, k3⟩ := pk2 (a % 4) (by omega) b hb
  have e : (256 * a + b) >>> 2 = 256 * (a >>> 2) + (64 * (a % 4) + b / 4) := by rw [Nat.shiftRight_eq_div_pow, Nat.shiftRight_eq_div_pow]; omega
  rw [k3, pF2, pF2, pM, e, pand _ _ _ _ hb (by decide), pand _ _ _ _ (by omega) (by decide), k1]
  omega
def pG (n x : Nat) : Nat := pF3 n (pF2 n (pF1 n x))
theorem p12_step (n a : Nat) {b : Nat} (hb : b < 256) : pF2 (n + 1) (pF1 (n + 1) (256 * a + b)) = 256 * pF2 n (pF1 n a) + pF2 1 (pF1 1 b) := by
  rw [pF1_step n a hb, pF2_step n _ (pk1 0 (by decide) b hb).2.2.1]
theorem p12_mod : ∀ n a, pF2 n (pF1 n a) % 16 ≤ 4 ∨ n = 0
  | 0, _ => Or.inr rfl
  | n + 1, a => by
    left
    have h := p12_step n (a / 256) (b := a % 256) (Nat.mod_lt _ (by decide))
    rw [show 256 * (a / 256) + a % 256 = a by omega] at h
    have h2 := (pk3 0 (by decide) (a % 256) (Nat.mod_lt _ (by decide))).1
    rw [h]; omega
theorem pG_step (n : Nat) {a b : Nat} (ha : a < 256 ^ n) (hb : b < 256) : pG (n + 1) (256 * a + b) = 256 * pG n a + pG 1 b := by
  unfold pG
  rw [p12_step n a hb]
  have hm : pF2 n (pF1 n a) % 16 < 5 := by
    rcases p12_mod n a with h | h
    · omega
    · subst h
      have : a = 0 := by simpa using ha
      subst this; decide
  generalize pF2 n (pF1 n a) = A at *
  obtain ⟨k1, k2, k3, k4, k5⟩ := pk3 (A % 16) hm b hb
  generalize pF2 1 (pF1 1 b) = C at *
  have e : (256 * A + C) + (256 * A + C) >>> 4 = 256 * (A + A >>> 4) + (C + (16 * (A % 16) + C / 16)) := by rw [Nat.shiftRight_eq_div_pow, Nat.shiftRight_eq_div_pow]; omega
  rw [pF3, e, pM, pand _ _ _ _ (by omega) (by decide), k3]
  rfl

/-- the sum of the lowest n digits to the base 256 -/
def pS : Nat → Nat → Nat
  | 0, _ => 0
  | n + 1, y => y % 256 + pS n (y / 256)
theorem pG_sum : ∀ n x, x < 256 ^ n → pS n (pG n x) = jcnt (8 * n) (fun k => x.testBit k) ∧ (∀ i, i < n → pG n x / 256 ^ i % 256 ≤ 8) ∧ pG n x < 256 ^ n
  | 0, x, h => ⟨rfl, fun i hi => absurd hi (Nat.not_lt_zero _), by
      have : x = 0 := by simpa using h
      subst this; decide⟩
  | n + 1, x, h => by
    have ha : x / 256 < 256 ^ n := by rw [Nat.pow_succ] at h; omega
    have hb : x % 256 < 256 := Nat.mod_lt _ (by decide)
    have e := pG_step n ha hb
    rw [show 256 * (x / 256) + x % 256 = x by omega] at e
    obtain ⟨i1, i2, i3⟩ := pG_sum n (x / 256) ha
    obtain ⟨-, -, -, k4, k5⟩ := pk3 0 (by decide) (x % 256) hb
    have hc : pG 1 (x % 256) ≤ 8 := k4
    have hd : pG 1 (x % 256) = jcnt 8 (fun k => (x % 256).testBit k) := k5
    have e1 : pG (n + 1) x / 256 = pG n (x / 256) := by omega
    have e2 : pG (n + 1) x % 256 = pG 1 (x % 256) := by omega
    refine ⟨?_, ?_, ?_⟩
    · rw [pS, e1, e2, i1, hd, show 8 * (n + 1) = 8 + 8 * n by omega, jcnt_add]
      congr 1
      · refine jcnt_eq fun k hk => ?_
        rw [show (256 : Nat) = 2 ^ 8 from rfl, Nat.testBit_mod_two_pow]
        simp [hk]
      · refine jcnt_eq fun k hk => ?_
        rw [show (256 : Nat) = 2 ^ 8 from rfl, Nat.testBit_div_two_pow, Nat.add_comm]
    · intro i hi
      cases i with
      | zero => rw [Nat.pow_zero, Nat.div_one, e2]; exact hc
      | succ i => rw [Nat.pow_succ, Nat.mul_comm, ← Nat.div_div_eq_div_mul, e1]; exact i2 i (by omega)
    · rw [Nat.pow_succ]; omega
theorem pG_bits {x : Nat} (hx : x < 2 ^ 64) : ∃ y, y = pF3 8 (pF2 8 (pF1 8 x)) ∧ (∀ i, i < 8 → y / 256 ^ i % 256 ≤ 8) ∧ y < 256 ^ 8 ∧ pS 8 y = jcnt 64 (fun k => x.testBit k) := by
  obtain ⟨a, b, c⟩ := pG_sum 8 x (by rw [show (256 : Nat) ^ 8 = 2 ^ 64 from by decide]; exact hx)
  exact ⟨_, rfl, b, c, a⟩

