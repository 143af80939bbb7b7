theorem jat_nI {n k : Nat} (f : Nat → Int32) (hk : k < n) (hn : n < 2 ^ 31) : jat n f (nI k) = f k := by
  unfold jat
  rw [if_neg (nI_pos (by omega)), if_neg (nI_ge hk hn), nI_clamp (by omega)]
theorem jput_nI {n k : Nat} (f : Nat → Int32) (x : Int32) (hk : k < n) (hn : n < 2 ^ 31) : jput n f (nI k) x = upd f k x := by
  unfold jput
  rw [if_neg (nI_pos (by omega)), if_neg (nI_ge hk hn), nI_clamp (by omega)]
theorem jin_nI {n k : Nat} (hk : k < n) (hn : n < 2147483648) : jin (nI k) n = true := jin_of (nI_pos (by omega)) (nI_ge hk (by omega)) hn
theorem upd_at (f : Nat → Int32) (k : Nat) (x : Int32) : upd f k x k = x := by unfold upd; rw [if_pos rfl]
theorem upd_ne (f : Nat → Int32) {k j : Nat} (x : Int32) (h : j ≠ k) : upd f k x j = f j := by unfold upd; rw [if_neg h]
theorem jadd1 (n : Nat) : nI n + 1 - 1 = nI n := by rw [nI_1, nI_pred]
theorem js_lamp : jS_lamp := by
  intro b lamps cellOf _ _ _ _ _ _ _ _ _ th ml _ _ isB lx ly _ _ _ _ _ x1 x2 hI
  obtain ⟨hr, ⟨n, hn, rfl, rfl, hl⟩, hs⟩ := hI
  have h6 : jf_La_areFull (nI n) = if n < 6 then 0 else 1 := by
    unfold jf_La_areFull
    by_cases c : n < 6
    · rw [if_pos (show nI n < (6 : Int32) from nI_lt (b := 6) c (by decide)), if_pos c]
    · rw [if_neg (show ¬ nI n < (6 : Int32) from nI_nlt (b := 6) (by omega) (by omega)), if_neg c]
  rcases jcell8 (x := x1) (y := x2) with ⟨x, y, hx, hy, rfl, rfl, e1, e2⟩ | ⟨e1, e2⟩
  · have c0 : jf_Bi_checkCell (nI x) (nI y) = .inl () := by unfold jf_Bi_checkCell; rw [e1]; rfl
    by_cases c : n < 6
    · have hc : jf_Bi_lamp (nI n) cellOf (nI x) (nI y) = .inl (nI n, nI (n + 1), upd cellOf n (nI (x + 8 * y))) := by
        unfold jf_Bi_lamp jf_La_add
        rw [c0]
        simp only [jsum, jlet]
        rw [h6, if_pos c, if_pos rfl, jput_nI _ _ c (by decide), nI_1, show (8 : Int32) = nI 8 from rfl, pk_mul, nI_add]
      have hm : jf_Mo_lamp th (nI n) lx ly (nI x) (nI y) = some (nI n, 0, nI (n + 1), upd lx n (nI x), upd ly n (nI y)) := by
        unfold jf_Mo_lamp jf_Mo_lamp_b27
        rw [e2, if_neg (show ¬ (1 : Int32) = 0 by decide), if_neg (show ¬ nI n = (6 : Int32) from fun h => by rw [show (6 : Int32) = nI 6 from rfl, nI_eq (by omega) (by omega)] at h; omega), if_pos (show (0 : Int32) ≤ 0 by decide), if_pos (jin_nI c (by decide)), if_pos (jin_nI c (by decide)), nI_clamp (by omega), jadd1, nI_1]
      refine ⟨_, hm, Or.inl ⟨_, hc, rfl, rfl, hr, ⟨n + 1, by omega, rfl, rfl, fun k hk => ?_⟩, hs⟩⟩
      by_cases e : k = n
      · subst e
        exact ⟨x, y, hx, hy, upd_at _ _ _, upd_at _ _ _, upd_at _ _ _⟩
      · obtain ⟨a, d, ha, hd, q1, q2, q3⟩ := hl k (by omega)
        exact ⟨a, d, ha, hd, by rw [← q1]; exact upd_ne _ _ e, by rw [← q2]; exact upd_ne _ _ e, by rw [← q3]; exact upd_ne _ _ e⟩
    · have h66 : n = 6 := by omega
      subst h66
      have hc : jf_Bi_lamp (nI 6) cellOf (nI x) (nI y) = .inr eS := by
        unfold jf_Bi_lamp
        rw [c0]
        simp only [jsum]
        rw [h6]; rfl
      have hm : jf_Mo_lamp th (nI 6) lx ly (nI x) (nI y) = some (0, 2, nI 6, lx, ly) := by
        unfold jf_Mo_lamp jf_Mo_lamp_b27
        rw [e2]; rfl
      exact ⟨_, hm, Or.inr (Or.inr ⟨hc, rfl, hr, ⟨6, hn, rfl, rfl, hl⟩, hs⟩)⟩
  · have hc : jf_Bi_lamp (nI n) cellOf x1 x2 = .inr eI := by unfold jf_Bi_lamp jf_Bi_checkCell; rw [e1]; rfl
    have hm : jf_Mo_lamp th (nI n) lx ly x1 x2 = some (0, 1, nI n, lx, ly) := by unfold jf_Mo_lamp jf_Mo_lamp_b27; rw [e2]; rfl
    exact ⟨_, hm, Or.inr (Or.inl ⟨hc, rfl, hr, ⟨n, hn, rfl, rfl, hl⟩, hs⟩)⟩
