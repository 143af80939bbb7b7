/-! floors -/
theorem jcnt_not (n : Nat) (f : Nat → Bool) : jcnt n (fun k => !f k) + jcnt n f = n := by
  induction n with
  | zero => rfl
  | succ n ih =>
    rw [jcnt, jcnt]
    cases f n
    · simp; omega
    · simp; omega
theorem rc_floors (b : Int64) : jf_Ro_floors b = nI (jcnt 64 (fun k => !jbit b k)) := by
  unfold jf_Ro_floors
  have h := jcnt_not 64 (jbit b)
  rw [jbits, show (64 : Int32) = nI 64 from rfl, pk_sub (by omega)]
  congr 1
  omega
