/-! induce -/
/-- the places behind k moved up by one, those from n on as they were -/
def xmv (f : Nat → Int32) (k n i : Nat) : Int32 := if k < i ∧ i < n then f (i - 1) else f i
theorem xmv_le (f : Nat → Int32) {k n i : Nat} (h : i ≤ k) : xmv f k n i = f i := by
  unfold xmv
  rw [if_neg (by omega)]
theorem xmv_top (f : Nat → Int32) {n : Nat} : xmv f (n - 1) n = f := by
  funext i
  unfold xmv
  rw [if_neg (by omega)]
theorem xmv_step (f : Nat → Int32) {k n : Nat} (h : k + 1 < n) : upd (xmv f (k + 1) n) (k + 1) (xmv f (k + 1) n k) = xmv f k n := by
  funext i
  unfold upd
  by_cases c : i = k + 1
  · rw [if_pos c, xmv_le f (by omega), c]
    unfold xmv
    rw [if_pos (by omega)]
    rfl
  · rw [if_neg c]
    unfold xmv
    by_cases d : k < i ∧ i < n
    · rw [if_pos d, if_pos (by omega)]
    · rw [if_neg d, if_neg (by omega)]
theorem xcd {n q y : Nat} (hy : y < n) (hq : q + 1 < n) : (if (if y ≤ q then y else if y = n - 1 then q + 1 else y + 1) ≤ q then (if y ≤ q then y else if y = n - 1 then q + 1 else y + 1) else if (if y ≤ q then y else if y = n - 1 then q + 1 else y + 1) = q + 1 then n - 1 else (if y ≤ q then y else if y = n - 1 then q + 1 else y + 1) - 1) = y := by
  by_cases c1 : y ≤ q
  · rw [if_pos c1, if_pos c1]
  · by_cases c2 : y = n - 1
    · rw [if_neg c1, if_pos c2, if_neg (by omega), if_pos rfl]; omega
    · rw [if_neg c1, if_neg c2, if_neg (by omega), if_neg (by omega)]; omega
theorem xmv_pm {n q : Nat} {f ia : Nat → Int32} (hp : jPm n f ia) (hq : q + 1 < n) : ∃ g', jPm n (upd (xmv f (q + 1) n) (q + 1) (f (n - 1))) g' := by
  obtain ⟨r, s, hr⟩ := hp
  have hc : ∀ k, k < n → (if k ≤ q then k else if k = q + 1 then n - 1 else k - 1) < n := by intro k hk; split; omega; split <;> omega
  have hd : ∀ k, k < n → (if k ≤ q then k else if k = n - 1 then q + 1 else k + 1) < n := by intro k hk; split; omega; split <;> omega
  refine jPm_mk (fun k => r (if k ≤ q then k else if k = q + 1 then n - 1 else k - 1)) (fun k => (if s k ≤ q then s k else if s k = n - 1 then q + 1 else s k + 1)) (fun k hk => ?_) (fun k hk => ?_)
  · have h1 := hr k hk
    have h2 := hr _ (hc k hk)
    refine ⟨h2.1, hd _ h1.2.1, ?_, ?_⟩
    · have e := xcd (y := s k) (q := q) (n := n) h1.2.1 hq
      show r (if (if s k ≤ q then s k else if s k = n - 1 then q + 1 else s k + 1) ≤ q then (if s k ≤ q then s k else if s k = n - 1 then q + 1 else s k + 1) else if (if s k ≤ q then s k else if s k = n - 1 then q + 1 else s k + 1) = q + 1 then n - 1 else (if s k ≤ q then s k else if s k = n - 1 then q + 1 else s k + 1) - 1) = k
      rw [e]; exact h1.2.2.1
    · show (if s (r _) ≤ q then s (r _) else if s (r _) = n - 1 then q + 1 else s (r _) + 1) = k
      rw [h2.2.2.2.1]
      by_cases c1 : k ≤ q
      · rw [if_pos c1, if_pos c1]
      · rw [if_neg c1]
        by_cases c2 : k = q + 1
        · rw [if_pos c2, if_neg (by omega), if_pos rfl, c2]
        · rw [if_neg c2, if_neg (by omega), if_neg (by omega)]; omega
  · unfold upd xmv
    show (if k = q + 1 then f (n - 1) else if q + 1 < k ∧ k < n then f (k - 1) else f k) = nI (r (if k ≤ q then k else if k = q + 1 then n - 1 else k - 1))
    by_cases c1 : k ≤ q
    · rw [if_neg (by omega), if_neg (by omega), if_pos c1]; exact (hr k hk).2.2.2.2.1
    · rw [if_neg c1]
      by_cases c2 : k = q + 1
      · rw [if_pos c2, if_pos c2]; exact (hr (n - 1) (by omega)).2.2.2.2.1
      · rw [if_neg c2, if_neg c2, if_pos (by omega)]; exact (hr (k - 1) (by omega)).2.2.2.2.1
theorem xplace_below {n q : Nat} {f : Nat → Int32} {r s : Nat → Nat} (hn : n ≤ 6) (hr : ∀ k, k < n → r k < n ∧ s k < n ∧ r (s k) = k ∧ s (r k) = k ∧ f k = nI (r k)) (hq : q < n) : ∀ j m k, k + j = q → j < m → jf_Bi_placeOf_L2 6 f (nI n) (f q) m (nI k) = some (.inl (nI q)) := by
  intro j
  induction j with
  | zero =>
    intro m k e hm
    obtain ⟨p, rfl⟩ : ∃ p, m = p + 1 := ⟨m - 1, by omega⟩
    have : k = q := by omega
    subst this
    rw [jf_Bi_placeOf_L2, if_neg (nI_ge (by omega) (by omega)), jat_nI f (by omega) (by decide), if_pos rfl]
  | succ j ih =>
    intro m k e hm
    obtain ⟨p, rfl⟩ : ∃ p, m = p + 1 := ⟨m - 1, by omega⟩
    have h1 := hr k (by omega)
    have h2 := hr q hq
    have hne : ¬ f k = f q := by
      rw [h1.2.2.2.2, h2.2.2.2.2, nI_eq (by omega) (by omega)]
      intro h
      have := h1.2.2.2.1
      rw [h, h2.2.2.2.1] at this
      omega
    rw [jf_Bi_placeOf_L2, if_neg (nI_ge (by omega) (by omega)), jat_nI f (by omega) (by decide), if_neg hne, nI_1]
    exact ih p (k + 1) (by omega) (by omega)
theorem xmove_below {n q : Nat} {f : Nat → Int32} (z4 : Int32) (hn : n ≤ 6) : ∀ j m k, k = q + 1 + j → k < n → j < m → jf_Ex_moveLastBehind_below_L32 (nI (q + 1)) z4 m (nI k) (xmv f k n) = some (xmv f (q + 1) n) := by
  intro j
  induction j with
  | zero =>
    intro m k e hk hm
    obtain ⟨p, rfl⟩ : ∃ p, m = p + 1 := ⟨m - 1, by omega⟩
    have : k = q + 1 := by omega
    subst this
    rw [jf_Ex_moveLastBehind_below_L32, if_pos (nI_le (Nat.le_refl _) (by omega))]
  | succ j ih =>
    intro m k e hk hm
    obtain ⟨p, rfl⟩ : ∃ p, m = p + 1 := ⟨m - 1, by omega⟩
    obtain ⟨k, rfl⟩ : ∃ i, k = i + 1 := ⟨k - 1, by omega⟩
    rw [jf_Ex_moveLastBehind_below_L32, if_neg (nI_ge (by omega) (by omega)), nI_pred, pk_m1]
    simp only [jlet]
    rw [jat_nI _ (by omega) (by decide), jput_nI _ _ (by omega) (by decide), xmv_step f hk]
    exact ih p k (by omega) (by omega) (by omega)
theorem xlays_below {n q : Nat} {f : Nat → Int32} {v z3 : Int32} (hn : n ≤ 6) (hv : f q = v) (hne : ∀ k, k < n → k ≠ q → f k ≠ v) : ∀ j m k, k = q + 1 + j → k < n → j < m → jf_Mo_laysBehind_below_L17 v z3 m (nI k) (xmv f k n) = some (nI (q + 1), xmv f (q + 1) n) := by
  intro j
  induction j with
  | zero =>
    intro m k e hk hm
    obtain ⟨p, rfl⟩ : ∃ p, m = p + 1 := ⟨m - 1, by omega⟩
    have : k = q + 1 := by omega
    subst this
    rw [jf_Mo_laysBehind_below_L17, nI_pred, if_pos (jin_nI (n := 6) (by omega) (by decide)), nI_clamp (by omega), xmv_le f (by omega), if_pos hv]
  | succ j ih =>
    intro m k e hk hm
    obtain ⟨p, rfl⟩ : ∃ p, m = p + 1 := ⟨m - 1, by omega⟩
    obtain ⟨k, rfl⟩ : ∃ i, k = i + 1 := ⟨k - 1, by omega⟩
    rw [jf_Mo_laysBehind_below_L17, nI_pred, if_pos (jin_nI (n := 6) (by omega) (by decide)), nI_clamp (by omega), if_neg (by rw [xmv_le f (by omega)]; exact hne k (by omega) (by omega)), if_pos (jin_nI (n := 6) (by omega) (by decide)), if_pos (jin_nI (n := 6) (by omega) (by decide)), nI_clamp (by omega), pk_m1, xmv_step f hk]
    exact ih p k (by omega) (by omega) (by omega)
theorem xlast_below {n q : Nat} {f g : Nat → Int32} {ia : Nat → Int32} (hn : n ≤ 6) (hp : jPm n f ia) (hq : q + 1 < n) (hg : ∀ k, k < n → g k = f k) : jf_Ex_moveLastBehind_below (nI n) f (f q) = some (upd (xmv f (q + 1) n) (q + 1) (f (n - 1))) ∧ jf_Mo_laysBehind_below (nI n) g (f q) = some (upd (xmv g (q + 1) n) (q + 1) (g (n - 1))) := by
  obtain ⟨r, s, hr⟩ := hp
  have hr1 : ∀ k, k < n → r k < n ∧ s k < n ∧ r (s k) = k ∧ s (r k) = k ∧ f k = nI (r k) := fun k hk => ⟨(hr k hk).1, (hr k hk).2.1, (hr k hk).2.2.1, (hr k hk).2.2.2.1, (hr k hk).2.2.2.2.1⟩
  have e1 : nI n - 1 = nI (n - 1) := by
    obtain ⟨i, rfl⟩ : ∃ i, n = i + 1 := ⟨n - 1, by omega⟩
    rw [nI_pred]; rfl
  constructor
  · unfold jf_Ex_moveLastBehind_below jf_Bi_placeOf
    have a := xplace_below hn hr1 (q := q) (by omega) q jF 0 (by omega) (jF_gt (by omega))
    rw [show (0 : Int32) = nI 0 from rfl, a, e1]
    simp only [Option.bind, jsum, jlet]
    have c := xmove_below (f := f) (q := q) (jat 6 f (nI (n - 1))) hn (n - 1 - (q + 1)) jF (n - 1) (by omega) (by omega) (jF_gt (by omega))
    rw [xmv_top] at c
    rw [nI_1, c]
    simp only []
    rw [jat_nI f (by omega) (by decide), jput_nI _ _ (by omega) (by decide)]
  · unfold jf_Mo_laysBehind_below
    rw [e1, if_pos (jin_nI (n := 6) (by omega) (by decide)), nI_clamp (by omega)]
    simp only [jlet]
    have c := xlays_below (f := g) (q := q) (v := f q) (z3 := g (n - 1)) hn (hg q (by omega)) (fun k hk hkq => by
      rw [hg k hk, (hr1 k hk).2.2.2.2, (hr1 q (by omega)).2.2.2.2]
      intro h
      rw [nI_eq (by have := (hr1 k hk).1; omega) (by have := (hr1 q (by omega)).1; omega)] at h
      have := (hr1 k hk).2.2.2.1
      rw [h, (hr1 q (by omega)).2.2.2.1] at this
      omega) (n - 1 - (q + 1)) jF (n - 1) (by omega) (by omega) (jF_gt (by omega))
    rw [xmv_top] at c
    rw [c]
    simp only [Option.bind]
    rw [if_pos (jin_nI (n := 6) (by omega) (by decide)), nI_clamp (by omega)]
theorem xplace_above {n q : Nat} {f : Nat → Int32} {r s : Nat → Nat} (hn : n ≤ 6) (hr : ∀ k, k < n → r k < n ∧ s k < n ∧ r (s k) = k ∧ s (r k) = k ∧ f k = nI (r k)) (hq : q < n) : ∀ j m k, k + j = q → j < m → jf_Bi_placeOf_L2 6 f (nI n) (f q) m (nI k) = some (.inl (nI q)) := by
  intro j
  induction j with
  | zero =>
    intro m k e hm
    obtain ⟨p, rfl⟩ : ∃ p, m = p + 1 := ⟨m - 1, by omega⟩
    have : k = q := by omega
    subst this
    rw [jf_Bi_placeOf_L2, if_neg (nI_ge (by omega) (by omega)), jat_nI f (by omega) (by decide), if_pos rfl]
  | succ j ih =>
    intro m k e hm
    obtain ⟨p, rfl⟩ : ∃ p, m = p + 1 := ⟨m - 1, by omega⟩
    have h1 := hr k (by omega)
    have h2 := hr q hq
    have hne : ¬ f k = f q := by
      rw [h1.2.2.2.2, h2.2.2.2.2, nI_eq (by omega) (by omega)]
      intro h
      have := h1.2.2.2.1
      rw [h, h2.2.2.2.1] at this
      omega
    rw [jf_Bi_placeOf_L2, if_neg (nI_ge (by omega) (by omega)), jat_nI f (by omega) (by decide), if_neg hne, nI_1]
    exact ih p (k + 1) (by omega) (by omega)
theorem xmove_above {n q : Nat} {f : Nat → Int32} (z4 : Int32) (hn : n ≤ 6) : ∀ j m k, k = q + 1 + j → k < n → j < m → jf_Ex_moveLastBehind_above_L32 (nI (q + 1)) z4 m (nI k) (xmv f k n) = some (xmv f (q + 1) n) := by
  intro j
  induction j with
  | zero =>
    intro m k e hk hm
    obtain ⟨p, rfl⟩ : ∃ p, m = p + 1 := ⟨m - 1, by omega⟩
    have : k = q + 1 := by omega
    subst this
    rw [jf_Ex_moveLastBehind_above_L32, if_pos (nI_le (Nat.le_refl _) (by omega))]
  | succ j ih =>
    intro m k e hk hm
    obtain ⟨p, rfl⟩ : ∃ p, m = p + 1 := ⟨m - 1, by omega⟩
    obtain ⟨k, rfl⟩ : ∃ i, k = i + 1 := ⟨k - 1, by omega⟩
    rw [jf_Ex_moveLastBehind_above_L32, if_neg (nI_ge (by omega) (by omega)), nI_pred, pk_m1]
    simp only [jlet]
    rw [jat_nI _ (by omega) (by decide), jput_nI _ _ (by omega) (by decide), xmv_step f hk]
    exact ih p k (by omega) (by omega) (by omega)
theorem xlays_above {n q : Nat} {f : Nat → Int32} {v z3 : Int32} (hn : n ≤ 6) (hv : f q = v) (hne : ∀ k, k < n → k ≠ q → f k ≠ v) : ∀ j m k, k = q + 1 + j → k < n → j < m → jf_Mo_laysBehind_above_L17 v z3 m (nI k) (xmv f k n) = some (nI (q + 1), xmv f (q + 1) n) := by
  intro j
  induction j with
  | zero =>
    intro m k e hk hm
    obtain ⟨p, rfl⟩ : ∃ p, m = p + 1 := ⟨m - 1, by omega⟩
    have : k = q + 1 := by omega
    subst this
    rw [jf_Mo_laysBehind_above_L17, nI_pred, if_pos (jin_nI (n := 6) (by omega) (by decide)), nI_clamp (by omega), xmv_le f (by omega), if_pos hv]
  | succ j ih =>
    intro m k e hk hm
    obtain ⟨p, rfl⟩ : ∃ p, m = p + 1 := ⟨m - 1, by omega⟩
    obtain ⟨k, rfl⟩ : ∃ i, k = i + 1 := ⟨k - 1, by omega⟩
    rw [jf_Mo_laysBehind_above_L17, nI_pred, if_pos (jin_nI (n := 6) (by omega) (by decide)), nI_clamp (by omega), if_neg (by rw [xmv_le f (by omega)]; exact hne k (by omega) (by omega)), if_pos (jin_nI (n := 6) (by omega) (by decide)), if_pos (jin_nI (n := 6) (by omega) (by decide)), nI_clamp (by omega), pk_m1, xmv_step f hk]
    exact ih p k (by omega) (by omega) (by omega)
theorem xlast_above {n q : Nat} {f g : Nat → Int32} {ia : Nat → Int32} (hn : n ≤ 6) (hp : jPm n f ia) (hq : q + 1 < n) (hg : ∀ k, k < n → g k = f k) : jf_Ex_moveLastBehind_above (nI n) f (f q) = some (upd (xmv f (q + 1) n) (q + 1) (f (n - 1))) ∧ jf_Mo_laysBehind_above (nI n) g (f q) = some (upd (xmv g (q + 1) n) (q + 1) (g (n - 1))) := by
  obtain ⟨r, s, hr⟩ := hp
  have hr1 : ∀ k, k < n → r k < n ∧ s k < n ∧ r (s k) = k ∧ s (r k) = k ∧ f k = nI (r k) := fun k hk => ⟨(hr k hk).1, (hr k hk).2.1, (hr k hk).2.2.1, (hr k hk).2.2.2.1, (hr k hk).2.2.2.2.1⟩
  have e1 : nI n - 1 = nI (n - 1) := by
    obtain ⟨i, rfl⟩ : ∃ i, n = i + 1 := ⟨n - 1, by omega⟩
    rw [nI_pred]; rfl
  constructor
  · unfold jf_Ex_moveLastBehind_above jf_Bi_placeOf
    have a := xplace_above hn hr1 (q := q) (by omega) q jF 0 (by omega) (jF_gt (by omega))
    rw [show (0 : Int32) = nI 0 from rfl, a, e1]
    simp only [Option.bind, jsum, jlet]
    have c := xmove_above (f := f) (q := q) (jat 6 f (nI (n - 1))) hn (n - 1 - (q + 1)) jF (n - 1) (by omega) (by omega) (jF_gt (by omega))
    rw [xmv_top] at c
    rw [nI_1, c]
    simp only []
    rw [jat_nI f (by omega) (by decide), jput_nI _ _ (by omega) (by decide)]
  · unfold jf_Mo_laysBehind_above
    rw [e1, if_pos (jin_nI (n := 6) (by omega) (by decide)), nI_clamp (by omega)]
    simp only [jlet]
    have c := xlays_above (f := g) (q := q) (v := f q) (z3 := g (n - 1)) hn (hg q (by omega)) (fun k hk hkq => by
      rw [hg k hk, (hr1 k hk).2.2.2.2, (hr1 q (by omega)).2.2.2.2]
      intro h
      rw [nI_eq (by have := (hr1 k hk).1; omega) (by have := (hr1 q (by omega)).1; omega)] at h
      have := (hr1 k hk).2.2.2.1
      rw [h, (hr1 q (by omega)).2.2.2.1] at this
      omega) (n - 1 - (q + 1)) jF (n - 1) (by omega) (by omega) (jF_gt (by omega))
    rw [xmv_top] at c
    rw [c]
    simp only [Option.bind]
    rw [if_pos (jin_nI (n := 6) (by omega) (by decide)), nI_clamp (by omega)]
theorem jPm_s {n : Nat} {f ia : Nat → Int32} (hp : jPm n f ia) {a : Nat} (ha : a < n) : ∃ q, q < n ∧ f q = nI a := by
  obtain ⟨r, s, hr⟩ := hp
  have h1 := hr a ha
  exact ⟨s a, h1.2.1, by rw [(hr _ h1.2.1).2.2.2.2.1, h1.2.2.1]⟩
