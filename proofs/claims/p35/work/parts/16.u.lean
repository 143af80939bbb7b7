/-! floors -/
theorem jcnt_not (n : Nat) (f : Nat → Bool) : jcnt n (fun k => !f k) + jcnt n f = n := by
  induction n with
  | zero => rfl
  | succ n ih =>
    rw [jcnt, jcnt]
    cases f n
    · simp; omega
    · simp; omega
theorem rc_floors (b : Int64) : jf_Ro_floors b = nI (jcnt 64 (fun k => !jbit b k)) := by
  unfold jf_Ro_floors
  have h := jcnt_not 64 (jbit b)
  rw [jbits, show (64 : Int32) = nI 64 from rfl, pk_sub (by omega)]
  congr 1
  omega
theorem rm_floors {isB : Nat → Int32} {B : Nat → Bool} (hB : jBl isB B) : jf_Mo_floors isB = some (nI (jcnt 64 (fun k => !B k))) := by
  have key : ∀ j m k, k + j = 64 → j < m → jf_Mo_floors_L4 isB m (nI (jcnt k (fun k => !B k))) (nI k) = some (nI (jcnt 64 (fun k => !B k))) := by
    intro j
    induction j with
    | zero =>
      intro m k e hm
      obtain ⟨q, rfl⟩ : ∃ q, m = q + 1 := ⟨m - 1, by omega⟩
      have : k = 64 := by omega
      subst this
      rw [jf_Mo_floors_L4, if_pos (show (64 : Int32) ≤ nI 64 by decide)]
    | succ j ih =>
      intro m k e hm
      obtain ⟨q, rfl⟩ : ∃ q, m = q + 1 := ⟨m - 1, by omega⟩
      have i := ih q (k + 1) (by omega) (by omega)
      rw [jf_Mo_floors_L4, if_neg (show ¬ (64 : Int32) ≤ nI k from nI_ge (b := 64) (by omega) (by decide)), if_pos (jin_nI (n := 64) (by omega) (by decide)), nI_clamp (by omega), hB k (by omega)]
      unfold jf_Mo_floors_b25
      simp only [jlet]
      rw [nI_1 k]
      rw [jcnt] at i
      cases c : B k with
      | true =>
        rw [c] at i
        rw [if_neg (by decide)]
        rw [show nI (jcnt k (fun k => !B k)) + 0 = nI (jcnt k (fun k => !B k)) from Int32.add_zero _]
        exact i
      | false =>
        rw [c] at i
        rw [if_pos (by decide), nI_1]
        exact i
  unfold jf_Mo_floors
  have := key 64 jF 0 (by omega) (jF_gt (by omega))
  show Option.bind (jf_Mo_floors_L4 isB jF (nI (jcnt 0 (fun k => !B k))) (nI 0)) _ = _
  rw [this]; rfl
