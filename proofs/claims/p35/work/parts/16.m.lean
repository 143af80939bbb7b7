theorem jat_nI {n k : Nat} (f : Nat → Int32) (hk : k < n) (hn : n < 2 ^ 31) : jat n f (nI k) = f k := by
  unfold jat
  rw [if_neg (nI_pos (by omega)), if_neg (nI_ge hk hn), nI_clamp (by omega)]
theorem jput_nI {n k : Nat} (f : Nat → Int32) (x : Int32) (hk : k < n) (hn : n < 2 ^ 31) : jput n f (nI k) x = upd f k x := by
  unfold jput
  rw [if_neg (nI_pos (by omega)), if_neg (nI_ge hk hn), nI_clamp (by omega)]
theorem jin_nI {n k : Nat} (hk : k < n) (hn : n < 2147483648) : jin (nI k) n = true := jin_of (nI_pos (by omega)) (nI_ge hk (by omega)) hn
theorem upd_at (f : Nat → Int32) (k : Nat) (x : Int32) : upd f k x k = x := by unfold upd; rw [if_pos rfl]
theorem upd_ne (f : Nat → Int32) {k j : Nat} (x : Int32) (h : j ≠ k) : upd f k x j = f j := by unfold upd; rw [if_neg h]
