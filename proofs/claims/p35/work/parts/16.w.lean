/-! marks: bits in eight longs against a row of booleans -/
def jMk (bits : Nat → Int64) (M : Nat → Bool) : Prop := ∀ k, k < 512 → jbit (bits (k / 64)) (k % 64) = M k
theorem jhas_at {bits : Nat → Int64} {M : Nat → Bool} (h : jMk bits M) {k : Nat} (hk : k < 512) : jhas bits (nI k) = if M k then 1 else 0 := by
  unfold jhas
  rw [if_neg (nI_pos (by omega)), if_neg (nge512 hk), show (64 : Int32) = nI 64 from rfl, pk_rem (by omega) (by omega) (by omega), pk_div (by omega) (by omega) (by omega), nI_clamp (by omega), jbit_at _ (Nat.mod_lt _ (by decide)), h k hk]
theorem jadd_at {bits : Nat → Int64} {M : Nat → Bool} (h : jMk bits M) {k : Nat} (hk : k < 512) : jMk (jadd bits (nI k)) (fun j => M j || (j == k)) := by
  intro j hj
  unfold jadd
  rw [if_neg (nI_pos (by omega)), if_neg (nge512 hk), show (64 : Int32) = nI 64 from rfl, pk_rem (by omega) (by omega) (by omega), pk_div (by omega) (by omega) (by omega), nI_clamp (by omega)]
  by_cases e : j / 64 = k / 64
  · rw [e, pk_uLs, jbit_or _ (Nat.mod_lt _ (by decide)) (Nat.mod_lt _ (by decide)), ← e, h j hj]
    congr 1
    by_cases e2 : j = k
    · subst e2; rw [beq_self_eq_true, beq_self_eq_true]
    · rw [beq_eq_false_iff_ne.2 e2, beq_eq_false_iff_ne.2 (by omega)]
  · show _ = (M j || (j == k))
    rw [pk_uLn e, h j hj, beq_eq_false_iff_ne.2 (show j ≠ k by intro h2; subst h2; exact e rfl), Bool.or_false]
theorem jclr_at (bits : Nat → Int64) : jMk (jclr bits) (fun _ => false) := by
  intro k hk
  have e : jclr bits (k / 64) = 0 := by
    have h : k / 64 = 0 ∨ k / 64 = 1 ∨ k / 64 = 2 ∨ k / 64 = 3 ∨ k / 64 = 4 ∨ k / 64 = 5 ∨ k / 64 = 6 ∨ k / 64 = 7 := by omega
    unfold jclr vp_updL
    rcases h with h | h | h | h | h | h | h | h <;> rw [h] <;> rfl
  rw [e]
  exact jbit_0 _ (Nat.mod_lt _ (by decide))
/-! the EXCHANGE: images as a function on numbers -/
def xidx (g : Nat → Nat) (t : Nat) : Nat → Nat
  | 0 => 0
  | k + 1 => if xS g k ≤ t then k else xidx g t k
theorem xidx_at {g : Nat → Nat} {t : Nat} : ∀ n, t < xS g n → xidx g t n < n ∧ xS g (xidx g t n) ≤ t ∧ t < xS g (xidx g t n + 1)
  | 0, h => absurd h (Nat.not_lt_zero _)
  | k + 1, h => by
    rw [xidx]
    by_cases c : xS g k ≤ t
    · rw [if_pos c]; exact ⟨Nat.lt_succ_self k, c, h⟩
    · rw [if_neg c]
      have := xidx_at (g := g) (t := t) k (by omega)
      exact ⟨by omega, this.2⟩
theorem xidx_un {g : Nat → Nat} {t a b : Nat} (h1 : xS g a ≤ t) (h2 : t < xS g (a + 1)) (h3 : xS g b ≤ t) (h4 : t < xS g (b + 1)) : a = b := by
  by_cases c : a < b
  · have := xS_mono g (a + 1) (b - (a + 1)); rw [show a + 1 + (b - (a + 1)) = b by omega] at this; omega
  · by_cases c2 : b < a
    · have := xS_mono g (b + 1) (a - (b + 1)); rw [show b + 1 + (a - (b + 1)) = a by omega] at this; omega
    · omega
def xI (L r p u : Nat → Nat) (n t : Nat) : Nat :=
  xS (fun k => L (p k)) (u (r (xidx (fun k => L (r k)) t n))) + (t - xS (fun k => L (r k)) (xidx (fun k => L (r k)) t n))
theorem xI_ok {L r s p u : Nat → Nat} {n t : Nat} (hr : ∀ k, k < n → r k < n ∧ s k < n ∧ r (s k) = k ∧ s (r k) = k) (hp : ∀ k, k < n → p k < n ∧ u k < n ∧ p (u k) = k ∧ u (p k) = k) (ht : t < xS L n) : xI L r p u n t < xS L n ∧ xI L p r s n (xI L r p u n t) = t := by
  have er := xS_perm n r s L hr
  have ep := xS_perm n p u L hp
  obtain ⟨a1, a2, a3⟩ := xidx_at (g := fun k => L (r k)) (t := t) n (by rw [er]; exact ht)
  have hT : xI L r p u n t = xS (fun k => L (p k)) (u (r (xidx (fun k => L (r k)) t n))) + (t - xS (fun k => L (r k)) (xidx (fun k => L (r k)) t n)) := rfl
  generalize xidx (fun k => L (r k)) t n = t0 at *
  have b1 := (hr t0 a1).1
  have b2 := (hp (r t0) b1).2.1
  have b3 := (hp (r t0) b1).2.2.1
  have c1 : xS (fun k => L (r k)) (t0 + 1) = xS (fun k => L (r k)) t0 + L (r t0) := rfl
  have c2 : xS (fun k => L (p k)) (u (r t0) + 1) = xS (fun k => L (p k)) (u (r t0)) + L (p (u (r t0))) := rfl
  rw [b3] at c2
  have d1 : xI L r p u n t < xS (fun k => L (p k)) (u (r t0) + 1) := by omega
  have d2 := xS_mono (fun k => L (p k)) (u (r t0) + 1) (n - (u (r t0) + 1))
  rw [show u (r t0) + 1 + (n - (u (r t0) + 1)) = n by omega, ep] at d2
  have d3 : xI L r p u n t < xS L n := by omega
  refine ⟨d3, ?_⟩
  obtain ⟨e1, e2, e3⟩ := xidx_at (g := fun k => L (p k)) (t := xI L r p u n t) n (by rw [ep]; exact d3)
  have e4 : xidx (fun k => L (p k)) (xI L r p u n t) n = u (r t0) := xidx_un e2 e3 (by omega) d1
  unfold xI at *
  rw [e4, b3, (hr t0 a1).2.2.2, hT]
  omega

