/-! induce -/
/-- the places behind k moved up by one, those from n on as they were -/
def xmv (f : Nat → Int32) (k n i : Nat) : Int32 := if k < i ∧ i < n then f (i - 1) else f i
theorem xmv_le (f : Nat → Int32) {k n i : Nat} (h : i ≤ k) : xmv f k n i = f i := by
  unfold xmv
  rw [if_neg (by omega)]
theorem xmv_top (f : Nat → Int32) {n : Nat} : xmv f (n - 1) n = f := by
  funext i
  unfold xmv
  rw [if_neg (by omega)]
theorem xmv_step (f : Nat → Int32) {k n : Nat} (h : k + 1 < n) : upd (xmv f (k + 1) n) (k + 1) (xmv f (k + 1) n k) = xmv f k n := by
  funext i
  unfold upd
  by_cases c : i = k + 1
  · rw [if_pos c, xmv_le f (by omega), c]
    unfold xmv
    rw [if_pos (by omega)]
    rfl
  · rw [if_neg c]
    unfold xmv
    by_cases d : k < i ∧ i < n
    · rw [if_pos d, if_pos (by omega)]
    · rw [if_neg d, if_neg (by omega)]
theorem xcd {n q y : Nat} (hy : y < n) (hq : q + 1 < n) : (if (if y ≤ q then y else if y = n - 1 then q + 1 else y + 1) ≤ q then (if y ≤ q then y else if y = n - 1 then q + 1 else y + 1) else if (if y ≤ q then y else if y = n - 1 then q + 1 else y + 1) = q + 1 then n - 1 else (if y ≤ q then y else if y = n - 1 then q + 1 else y + 1) - 1) = y := by
  by_cases c1 : y ≤ q
  · rw [if_pos c1, if_pos c1]
  · by_cases c2 : y = n - 1
    · rw [if_neg c1, if_pos c2, if_neg (by omega), if_pos rfl]; omega
    · rw [if_neg c1, if_neg c2, if_neg (by omega), if_neg (by omega)]; omega
theorem xmv_pm {n q : Nat} {f ia : Nat → Int32} (hp : jPm n f ia) (hq : q + 1 < n) : ∃ g', jPm n (upd (xmv f (q + 1) n) (q + 1) (f (n - 1))) g' := by
  obtain ⟨r, s, hr⟩ := hp
  have hc : ∀ k, k < n → (if k ≤ q then k else if k = q + 1 then n - 1 else k - 1) < n := by intro k hk; split; omega; split <;> omega
  have hd : ∀ k, k < n → (if k ≤ q then k else if k = n - 1 then q + 1 else k + 1) < n := by intro k hk; split; omega; split <;> omega
  refine jPm_mk (fun k => r (if k ≤ q then k else if k = q + 1 then n - 1 else k - 1)) (fun k => (if s k ≤ q then s k else if s k = n - 1 then q + 1 else s k + 1)) (fun k hk => ?_) (fun k hk => ?_)
  · have h1 := hr k hk
    have h2 := hr _ (hc k hk)
    refine ⟨h2.1, hd _ h1.2.1, ?_, ?_⟩
    · have e := xcd (y := s k) (q := q) (n := n) h1.2.1 hq
      show r (if (if s k ≤ q then s k else if s k = n - 1 then q + 1 else s k + 1) ≤ q then (if s k ≤ q then s k else if s k = n - 1 then q + 1 else s k + 1) else if (if s k ≤ q then s k else if s k = n - 1 then q + 1 else s k + 1) = q + 1 then n - 1 else (if s k ≤ q then s k else if s k = n - 1 then q + 1 else s k + 1) - 1) = k
      rw [e]; exact h1.2.2.1
    · show (if s (r _) ≤ q then s (r _) else if s (r _) = n - 1 then q + 1 else s (r _) + 1) = k
      rw [h2.2.2.2.1]
      by_cases c1 : k ≤ q
      · rw [if_pos c1, if_pos c1]
      · rw [if_neg c1]
        by_cases c2 : k = q + 1
        · rw [if_pos c2, if_neg (by omega), if_pos rfl, c2]
        · rw [if_neg c2, if_neg (by omega), if_neg (by omega)]; omega
  · unfold upd xmv
    show (if k = q + 1 then f (n - 1) else if q + 1 < k ∧ k < n then f (k - 1) else f k) = nI (r (if k ≤ q then k else if k = q + 1 then n - 1 else k - 1))
    by_cases c1 : k ≤ q
    · rw [if_neg (by omega), if_neg (by omega), if_pos c1]; exact (hr k hk).2.2.2.2.1
    · rw [if_neg c1]
      by_cases c2 : k = q + 1
      · rw [if_pos c2, if_pos c2]; exact (hr (n - 1) (by omega)).2.2.2.2.1
      · rw [if_neg c2, if_neg c2, if_pos (by omega)]; exact (hr (k - 1) (by omega)).2.2.2.2.1
theorem xplace_below {n q : Nat} {f : Nat → Int32} {r s : Nat → Nat} (hn : n ≤ 6) (hr : ∀ k, k < n → r k < n ∧ s k < n ∧ r (s k) = k ∧ s (r k) = k ∧ f k = nI (r k)) (hq : q < n) : ∀ j m k, k + j = q → j < m → jf_Bi_placeOf_L2 6 f (nI n) (f q) m (nI k) = some (.inl (nI q)) := by
  intro j
  induction j with
  | zero =>
    intro m k e hm
    obtain ⟨p, rfl⟩ : ∃ p, m = p + 1 := ⟨m - 1, by omega⟩
    have : k = q := by omega
    subst this
    rw [jf_Bi_placeOf_L2, if_neg (nI_ge (by omega) (by omega)), jat_nI f (by omega) (by decide), if_pos rfl]
  | succ j ih =>
    intro m k e hm
    obtain ⟨p, rfl⟩ : ∃ p, m = p + 1 := ⟨m - 1, by omega⟩
    have h1 := hr k (by omega)
    have h2 := hr q hq
    have hne : ¬ f k = f q := by
      rw [h1.2.2.2.2, h2.2.2.2.2, nI_eq (by omega) (by omega)]
      intro h
      have := h1.2.2.2.1
      rw [h, h2.2.2.2.1] at this
      omega
    rw [jf_Bi_placeOf_L2, if_neg (nI_ge (by omega) (by omega)), jat_nI f (by omega) (by decide), if_neg hne, nI_1]
    exact ih p (k + 1) (by omega) (by omega)
theorem xmove_below {n q : Nat} {f : Nat → Int32} (z4 : Int32) (hn : n ≤ 6) : ∀ j m k, k = q + 1 + j → k < n → j < m → jf_Ex_moveLastBehind_below_L32 (nI (q + 1)) z4 m (nI k) (xmv f k n) = some (xmv f (q + 1) n) := by
  intro j
  induction j with
  | zero =>
    intro m k e hk hm
    obtain ⟨p, rfl⟩ : ∃ p, m = p + 1 := ⟨m - 1, by omega⟩
    have : k = q + 1 := by omega
    subst this
    rw [jf_Ex_moveLastBehind_below_L32, if_pos (nI_le (Nat.le_refl _) (by omega))]
  | succ j ih =>
    intro m k e hk hm
    obtain ⟨p, rfl⟩ : ∃ p, m = p + 1 := ⟨m - 1, by omega⟩
    obtain ⟨k, rfl⟩ : ∃ i, k = i + 1 := ⟨k - 1, by omega⟩
    rw [jf_Ex_moveLastBehind_below_L32, if_neg (nI_ge (by omega) (by omega)), nI_pred, pk_m1]
    simp only [jlet]
    rw [jat_nI _ (by omega) (by decide), jput_nI _ _ (by omega) (by decide), xmv_step f hk]
    exact ih p k (by omega) (by omega) (by omega)
theorem xlays_below {n q : Nat} {f : Nat → Int32} {v z3 : Int32} (hn : n ≤ 6) (hv : f q = v) (hne : ∀ k, k < n → k ≠ q → f k ≠ v) : ∀ j m k, k = q + 1 + j → k < n → j < m → jf_Mo_laysBehind_below_L17 v z3 m (nI k) (xmv f k n) = some (nI (q + 1), xmv f (q + 1) n) := by
  intro j
  induction j with
  | zero =>
    intro m k e hk hm
    obtain ⟨p, rfl⟩ : ∃ p, m = p + 1 := ⟨m - 1, by omega⟩
    have : k = q + 1 := by omega
    subst this
    rw [jf_Mo_laysBehind_below_L17, nI_pred, if_pos (jin_nI (n := 6) (by omega) (by decide)), nI_clamp (by omega), xmv_le f (by omega), if_pos hv]
  | succ j ih =>
    intro m k e hk hm
    obtain ⟨p, rfl⟩ : ∃ p, m = p + 1 := ⟨m - 1, by omega⟩
    obtain ⟨k, rfl⟩ : ∃ i, k = i + 1 := ⟨k - 1, by omega⟩
    rw [jf_Mo_laysBehind_below_L17, nI_pred, if_pos (jin_nI (n := 6) (by omega) (by decide)), nI_clamp (by omega), if_neg (by rw [xmv_le f (by omega)]; exact hne k (by omega) (by omega)), if_pos (jin_nI (n := 6) (by omega) (by decide)), if_pos (jin_nI (n := 6) (by omega) (by decide)), nI_clamp (by omega), pk_m1, xmv_step f hk]
    exact ih p k (by omega) (by omega) (by omega)
theorem xlast_below {n q : Nat} {f g : Nat → Int32} {ia : Nat → Int32} (hn : n ≤ 6) (hp : jPm n f ia) (hq : q + 1 < n) (hg : ∀ k, k < n → g k = f k) : jf_Ex_moveLastBehind_below (nI n) f (f q) = some (upd (xmv f (q + 1) n) (q + 1) (f (n - 1))) ∧ jf_Mo_laysBehind_below (nI n) g (f q) = some (upd (xmv g (q + 1) n) (q + 1) (g (n - 1))) := by
  obtain ⟨r, s, hr⟩ := hp
  have hr1 : ∀ k, k < n → r k < n ∧ s k < n ∧ r (s k) = k ∧ s (r k) = k ∧ f k = nI (r k) := fun k hk => ⟨(hr k hk).1, (hr k hk).2.1, (hr k hk).2.2.1, (hr k hk).2.2.2.1, (hr k hk).2.2.2.2.1⟩
  have e1 : nI n - 1 = nI (n - 1) := by
    obtain ⟨i, rfl⟩ : ∃ i, n = i + 1 := ⟨n - 1, by omega⟩
    rw [nI_pred]; rfl
  constructor
  · unfold jf_Ex_moveLastBehind_below jf_Bi_placeOf
    have a := xplace_below hn hr1 (q := q) (by omega) q jF 0 (by omega) (jF_gt (by omega))
    rw [show (0 : Int32) = nI 0 from rfl, a, e1]
    simp only [Option.bind, jsum, jlet]
    have c := xmove_below (f := f) (q := q) (jat 6 f (nI (n - 1))) hn (n - 1 - (q + 1)) jF (n - 1) (by omega) (by omega) (jF_gt (by omega))
    rw [xmv_top] at c
    rw [nI_1, c]
    simp only []
    rw [jat_nI f (by omega) (by decide), jput_nI _ _ (by omega) (by decide)]
  · unfold jf_Mo_laysBehind_below
    rw [e1, if_pos (jin_nI (n := 6) (by omega) (by decide)), nI_clamp (by omega)]
    simp only [jlet]
    have c := xlays_below (f := g) (q := q) (v := f q) (z3 := g (n - 1)) hn (hg q (by omega)) (fun k hk hkq => by
      rw [hg k hk, (hr1 k hk).2.2.2.2, (hr1 q (by omega)).2.2.2.2]
      intro h
      rw [nI_eq (by have := (hr1 k hk).1; omega) (by have := (hr1 q (by omega)).1; omega)] at h
      have := (hr1 k hk).2.2.2.1
      rw [h, (hr1 q (by omega)).2.2.2.1] at this
      omega) (n - 1 - (q + 1)) jF (n - 1) (by omega) (by omega) (jF_gt (by omega))
    rw [xmv_top] at c
    rw [c]
    simp only [Option.bind]
    rw [if_pos (jin_nI (n := 6) (by omega) (by decide)), nI_clamp (by omega)]
theorem xplace_above {n q : Nat} {f : Nat → Int32} {r s : Nat → Nat} (hn : n ≤ 6) (hr : ∀ k, k < n → r k < n ∧ s k < n ∧ r (s k) = k ∧ s (r k) = k ∧ f k = nI (r k)) (hq : q < n) : ∀ j m k, k + j = q → j < m → jf_Bi_placeOf_L2 6 f (nI n) (f q) m (nI k) = some (.inl (nI q)) := by
  intro j
  induction j with
  | zero =>
    intro m k e hm
    obtain ⟨p, rfl⟩ : ∃ p, m = p + 1 := ⟨m - 1, by omega⟩
    have : k = q := by omega
    subst this
    rw [jf_Bi_placeOf_L2, if_neg (nI_ge (by omega) (by omega)), jat_nI f (by omega) (by decide), if_pos rfl]
  | succ j ih =>
    intro m k e hm
    obtain ⟨p, rfl⟩ : ∃ p, m = p + 1 := ⟨m - 1, by omega⟩
    have h1 := hr k (by omega)
    have h2 := hr q hq
    have hne : ¬ f k = f q := by
      rw [h1.2.2.2.2, h2.2.2.2.2, nI_eq (by omega) (by omega)]
      intro h
      have := h1.2.2.2.1
      rw [h, h2.2.2.2.1] at this
      omega
    rw [jf_Bi_placeOf_L2, if_neg (nI_ge (by omega) (by omega)), jat_nI f (by omega) (by decide), if_neg hne, nI_1]
    exact ih p (k + 1) (by omega) (by omega)
theorem xmove_above {n q : Nat} {f : Nat → Int32} (z4 : Int32) (hn : n ≤ 6) : ∀ j m k, k = q + 1 + j → k < n → j < m → jf_Ex_moveLastBehind_above_L32 (nI (q + 1)) z4 m (nI k) (xmv f k n) = some (xmv f (q + 1) n) := by
  intro j
  induction j with
  | zero =>
    intro m k e hk hm
    obtain ⟨p, rfl⟩ : ∃ p, m = p + 1 := ⟨m - 1, by omega⟩
    have : k = q + 1 := by omega
    subst this
    rw [jf_Ex_moveLastBehind_above_L32, if_pos (nI_le (Nat.le_refl _) (by omega))]
  | succ j ih =>
    intro m k e hk hm
    obtain ⟨p, rfl⟩ : ∃ p, m = p + 1 := ⟨m - 1, by omega⟩
    obtain ⟨k, rfl⟩ : ∃ i, k = i + 1 := ⟨k - 1, by omega⟩
    rw [jf_Ex_moveLastBehind_above_L32, if_neg (nI_ge (by omega) (by omega)), nI_pred, pk_m1]
    simp only [jlet]
    rw [jat_nI _ (by omega) (by decide), jput_nI _ _ (by omega) (by decide), xmv_step f hk]
    exact ih p k (by omega) (by omega) (by omega)
theorem xlays_above {n q : Nat} {f : Nat → Int32} {v z3 : Int32} (hn : n ≤ 6) (hv : f q = v) (hne : ∀ k, k < n → k ≠ q → f k ≠ v) : ∀ j m k, k = q + 1 + j → k < n → j < m → jf_Mo_laysBehind_above_L17 v z3 m (nI k) (xmv f k n) = some (nI (q + 1), xmv f (q + 1) n) := by
  intro j
  induction j with
  | zero =>
    intro m k e hk hm
    obtain ⟨p, rfl⟩ : ∃ p, m = p + 1 := ⟨m - 1, by omega⟩
    have : k = q + 1 := by omega
    subst this
    rw [jf_Mo_laysBehind_above_L17, nI_pred, if_pos (jin_nI (n := 6) (by omega) (by decide)), nI_clamp (by omega), xmv_le f (by omega), if_pos hv]
  | succ j ih =>
    intro m k e hk hm
    obtain ⟨p, rfl⟩ : ∃ p, m = p + 1 := ⟨m - 1, by omega⟩
    obtain ⟨k, rfl⟩ : ∃ i, k = i + 1 := ⟨k - 1, by omega⟩
    rw [jf_Mo_laysBehind_above_L17, nI_pred, if_pos (jin_nI (n := 6) (by omega) (by decide)), nI_clamp (by omega), if_neg (by rw [xmv_le f (by omega)]; exact hne k (by omega) (by omega)), if_pos (jin_nI (n := 6) (by omega) (by decide)), if_pos (jin_nI (n := 6) (by omega) (by decide)), nI_clamp (by omega), pk_m1, xmv_step f hk]
    exact ih p k (by omega) (by omega) (by omega)
theorem xlast_above {n q : Nat} {f g : Nat → Int32} {ia : Nat → Int32} (hn : n ≤ 6) (hp : jPm n f ia) (hq : q + 1 < n) (hg : ∀ k, k < n → g k = f k) : jf_Ex_moveLastBehind_above (nI n) f (f q) = some (upd (xmv f (q + 1) n) (q + 1) (f (n - 1))) ∧ jf_Mo_laysBehind_above (nI n) g (f q) = some (upd (xmv g (q + 1) n) (q + 1) (g (n - 1))) := by
  obtain ⟨r, s, hr⟩ := hp
  have hr1 : ∀ k, k < n → r k < n ∧ s k < n ∧ r (s k) = k ∧ s (r k) = k ∧ f k = nI (r k) := fun k hk => ⟨(hr k hk).1, (hr k hk).2.1, (hr k hk).2.2.1, (hr k hk).2.2.2.1, (hr k hk).2.2.2.2.1⟩
  have e1 : nI n - 1 = nI (n - 1) := by
    obtain ⟨i, rfl⟩ : ∃ i, n = i + 1 := ⟨n - 1, by omega⟩
    rw [nI_pred]; rfl
  constructor
  · unfold jf_Ex_moveLastBehind_above jf_Bi_placeOf
    have a := xplace_above hn hr1 (q := q) (by omega) q jF 0 (by omega) (jF_gt (by omega))
    rw [show (0 : Int32) = nI 0 from rfl, a, e1]
    simp only [Option.bind, jsum, jlet]
    have c := xmove_above (f := f) (q := q) (jat 6 f (nI (n - 1))) hn (n - 1 - (q + 1)) jF (n - 1) (by omega) (by omega) (jF_gt (by omega))
    rw [xmv_top] at c
    rw [nI_1, c]
    simp only []
    rw [jat_nI f (by omega) (by decide), jput_nI _ _ (by omega) (by decide)]
  · unfold jf_Mo_laysBehind_above
    rw [e1, if_pos (jin_nI (n := 6) (by omega) (by decide)), nI_clamp (by omega)]
    simp only [jlet]
    have c := xlays_above (f := g) (q := q) (v := f q) (z3 := g (n - 1)) hn (hg q (by omega)) (fun k hk hkq => by
      rw [hg k hk, (hr1 k hk).2.2.2.2, (hr1 q (by omega)).2.2.2.2]
      intro h
      rw [nI_eq (by have := (hr1 k hk).1; omega) (by have := (hr1 q (by omega)).1; omega)] at h
      have := (hr1 k hk).2.2.2.1
      rw [h, (hr1 q (by omega)).2.2.2.1] at this
      omega) (n - 1 - (q + 1)) jF (n - 1) (by omega) (by omega) (jF_gt (by omega))
    rw [xmv_top] at c
    rw [c]
    simp only [Option.bind]
    rw [if_pos (jin_nI (n := 6) (by omega) (by decide)), nI_clamp (by omega)]
theorem xmv_eq {n q : Nat} {f g : Nat → Int32} (hq : q + 1 < n) (h : ∀ k, k < n → g k = f k) : ∀ k, k < n → upd (xmv g (q + 1) n) (q + 1) (g (n - 1)) k = upd (xmv f (q + 1) n) (q + 1) (f (n - 1)) k := by
  intro k hk
  unfold upd xmv
  rw [h (n - 1) (by omega), h k hk, h (k - 1) (by omega)]
theorem jPm_s {n : Nat} {f ia : Nat → Int32} (hp : jPm n f ia) {a : Nat} (ha : a < n) : ∃ q, q < n ∧ f q = nI a := by
  obtain ⟨r, s, hr⟩ := hp
  have h1 := hr a ha
  exact ⟨s a, h1.2.1, by rw [(hr _ h1.2.1).2.2.2.2.1, h1.2.2.1]⟩
theorem js_induce : jS_induce := by
  intro b _ _ _ _ _ _ _ ints len above below th _ _ mints _ _ _ _ _ ma mb ml hI
  have hI0 := hI
  obtain ⟨j1, j2, j3, n, hn, rfl, rfl, ⟨ia, ib, hpa, hpb⟩, hk⟩ := hI0
  cases n with
  | zero =>
    refine ⟨(0, 1, ma, mb, ml), rfl, Or.inr ⟨?_, rfl, hI⟩⟩
    have hcan : jf_Ex_canInduce (nI 0) len above below = 0 := by
      unfold jf_Ex_canInduce
      simp only [jlet]
      rw [if_pos (show nI 0 ≤ 0 by decide)]
    unfold jf_Bi_induce
    rw [hcan, if_pos rfl]
  | succ n =>
    have hn1 : ¬ nI (n + 1) = 0 := nI_ne0 (by omega) (by omega)
    have hn2 : ¬ nI (n + 1) ≤ 0 := nI_nle (by omega) (by omega)
    obtain ⟨a, ha, ea⟩ := jPm_in hpa (k := n) (by omega)
    obtain ⟨c, hc, ec⟩ := jPm_in hpb (k := n) (by omega)
    obtain ⟨la, a1, a2, a3⟩ := (hk a ha).2.2.2
    obtain ⟨lc, c1, c2, c3⟩ := (hk c hc).2.2.2
    have ja : jin (nI a) 6 = true := jin_nI (by omega) (by decide)
    have jc : jin (nI c) 6 = true := jin_nI (by omega) (by decide)
    have hcan : jf_Ex_canInduce (nI (n + 1)) len above below = if a = c then 0 else if la = lc then 0 else 1 := by
      unfold jf_Ex_canInduce
      simp only [jlet]
      rw [nI_pred, jat_nI above (by omega) (by decide), jat_nI below (by omega) (by decide), ea, ec, jat_nI len (by omega) (by decide), jat_nI len (by omega) (by decide), a3, c3, if_neg hn2]
      by_cases h : a = c
      · rw [if_pos h, if_pos (congrArg nI h)]
      · rw [if_neg h, if_neg (by rw [nI_eq (by omega) (by omega)]; exact h)]
        by_cases h2 : la = lc
        · rw [if_pos h2, if_pos (congrArg nI h2)]
        · rw [if_neg h2, if_neg (by rw [nI_eq (by omega) (by omega)]; exact h2)]
    have hmo : jf_Mo_induce th (nI (n + 1)) ma mb ml = if a = c then some (0, 1, ma, mb, ml) else if la = lc then some (0, 1, ma, mb, ml) else jf_Mo_induce_b72 th (nI (n + 1)) ma mb ml (nI a) (nI c) 0 := by
      unfold jf_Mo_induce jf_Mo_induce_b22 jf_Mo_induce_b45 jf_Mo_induce_b67
      rw [if_neg hn1, if_neg hn1, nI_pred, if_pos (jin_nI (n := 6) (by omega) (by decide)), if_pos (jin_nI (n := 6) (by omega) (by decide)), nI_clamp (by omega), (hk n (by omega)).1, (hk n (by omega)).2.1, ea, ec, if_pos ja, if_pos jc, nI_clamp (by omega), nI_clamp (by omega), (hk a ha).2.2.1, (hk c hc).2.2.1, a3, c3]
      have hb : jf_Mo_induce_b72 th (nI (n + 1)) ma mb ml (nI a) (nI c) 1 = some (0, 1, ma, mb, ml) := by
        unfold jf_Mo_induce_b72
        rw [if_neg (by decide)]
      by_cases h : a = c
      · rw [if_pos h, if_pos (congrArg nI h), hb]
      · rw [if_neg h, if_neg (by rw [nI_eq (by omega) (by omega)]; exact h)]
        by_cases h2 : la = lc
        · rw [if_pos h2, if_pos (congrArg nI h2), hb]
        · rw [if_neg h2, if_neg (by rw [nI_eq (by omega) (by omega)]; exact h2)]
    rw [hmo]
    unfold jf_Bi_induce
    rw [hcan]
    by_cases hac : a = c
    · rw [if_pos hac, if_pos hac, if_pos rfl]
      exact ⟨(0, 1, ma, mb, ml), rfl, Or.inr ⟨rfl, rfl, hI⟩⟩
    · rw [if_neg hac, if_neg hac]
      by_cases hl : la = lc
      · rw [if_pos hl, if_pos hl, if_pos rfl]
        exact ⟨(0, 1, ma, mb, ml), rfl, Or.inr ⟨rfl, rfl, hI⟩⟩
      · rw [if_neg hl, if_neg hl, if_neg (show ¬ (1 : Int32) = 0 by decide)]
        unfold jf_Mo_induce_b72 jf_Mo_induce_b150 jf_Ex_induceOnce
        simp only [jlet]
        rw [nI_pred, jat_nI above (by omega) (by decide), jat_nI below (by omega) (by decide), ea, ec, jat_nI len (by omega) (by decide), jat_nI len (by omega) (by decide), a3, c3, if_pos (show (0 : Int32) ≤ 0 by decide), if_pos ja, if_pos jc, nI_clamp (by omega), nI_clamp (by omega), (hk a ha).2.2.1, (hk c hc).2.2.1, a3, c3]
        by_cases hlt : la < lc
        · obtain ⟨q, hq, eq⟩ := jPm_s hpa hc
          have hqn : q ≠ n := fun h => by
            subst h
            rw [ea] at eq
            exact hac ((nI_eq (by omega) (by omega)).1 eq)
          obtain ⟨x1, x2⟩ := xlast_above (g := ma) hn hpa (q := q) (by omega) (fun k hkn => (hk k hkn).1)
          rw [eq] at x1 x2
          obtain ⟨g', hg'⟩ := xmv_pm hpa (q := q) (by omega)
          have hneg : nI la - nI lc ≤ 0 := by
            have := pk_sneg (a := la) (b := lc) (by omega) hlt
            rw [Int32.lt_iff_toInt_lt] at this
            rw [Int32.le_iff_toInt_le]; omega
          have hz : -(nI la - nI lc) = nI (lc - la) := by rw [Int32.neg_sub, pk_sub (by omega)]
          have hlen : ∀ k, k < n + 1 → (∃ z : Nat, 1 ≤ z ∧ z ≤ 50 ∧ upd len c (nI (lc - la)) k = nI z) := fun k hkn => by
            by_cases e : k = c
            · subst e; exact ⟨lc - la, by omega, by omega, upd_at _ _ _⟩
            · obtain ⟨w, w1, w2, w3⟩ := (hk k hkn).2.2.2
              exact ⟨w, w1, w2, by rw [← w3]; exact upd_ne _ _ e⟩
          have hml : ∀ k, k < n + 1 → upd ml c (nI (lc - la)) k = upd len c (nI (lc - la)) k := fun k hkn => upd_eq (fun h => (hk k hkn).2.2.1) rfl
          have hL : ∀ k, k < n + 1 → upd len c (nI (lc - la)) k = nI (upd len c (nI (lc - la)) k).toNatClampNeg := fun k hkn => by
            obtain ⟨z, z1, z2, z3⟩ := hlen k hkn
            rw [z3, nI_clamp (by omega)]
          have hL2 : ∀ k, k < n + 1 → upd ml c (nI (lc - la)) k = nI (upd len c (nI (lc - la)) k).toNatClampNeg := fun k hkn => by rw [hml k hkn]; exact hL k hkn
          rw [if_pos hneg, hz, jput_nI len _ (by omega) (by decide), x1, if_pos (nI_le (by omega) (by omega)), if_pos jc, if_pos ja, if_pos jc, x2, pk_sub (by omega)]
          simp only [Option.bind]
          rw [xc_points hn hL, xm_sum hn hL2]
          refine ⟨_, rfl, Or.inl ⟨_, rfl, rfl, rfl, j1, j2, j3, n + 1, hn, rfl, rfl, ⟨g', ib, hg', hpb⟩, fun k hkn => ⟨?_, (hk k hkn).2.1, hml k hkn, hlen k hkn⟩⟩⟩
          exact xmv_eq (by omega) (fun k hkn => (hk k hkn).1) k hkn
        · obtain ⟨q, hq, eq⟩ := jPm_s hpb ha
          have hqn : q ≠ n := fun h => by
            subst h
            rw [ec] at eq
            exact hac ((nI_eq (by omega) (by omega)).1 eq).symm
          obtain ⟨x1, x2⟩ := xlast_below (g := mb) hn hpb (q := q) (by omega) (fun k hkn => (hk k hkn).2.1)
          rw [eq] at x1 x2
          obtain ⟨g', hg'⟩ := xmv_pm hpb (q := q) (by omega)
          have hpos : ¬ nI la - nI lc ≤ 0 := by
            rw [pk_sub (by omega)]
            exact nI_nle (by omega) (by omega)
          have hz : nI la - nI lc = nI (la - lc) := by rw [pk_sub (by omega)]
          have hlen : ∀ k, k < n + 1 → (∃ z : Nat, 1 ≤ z ∧ z ≤ 50 ∧ upd len a (nI (la - lc)) k = nI z) := fun k hkn => by
            by_cases e : k = a
            · subst e; exact ⟨la - lc, by omega, by omega, upd_at _ _ _⟩
            · obtain ⟨w, w1, w2, w3⟩ := (hk k hkn).2.2.2
              exact ⟨w, w1, w2, by rw [← w3]; exact upd_ne _ _ e⟩
          have hml : ∀ k, k < n + 1 → upd ml a (nI (la - lc)) k = upd len a (nI (la - lc)) k := fun k hkn => upd_eq (fun h => (hk k hkn).2.2.1) rfl
          have hL : ∀ k, k < n + 1 → upd len a (nI (la - lc)) k = nI (upd len a (nI (la - lc)) k).toNatClampNeg := fun k hkn => by
            obtain ⟨z, z1, z2, z3⟩ := hlen k hkn
            rw [z3, nI_clamp (by omega)]
          have hL2 : ∀ k, k < n + 1 → upd ml a (nI (la - lc)) k = nI (upd len a (nI (la - lc)) k).toNatClampNeg := fun k hkn => by rw [hml k hkn]; exact hL k hkn
          rw [if_neg hpos, hz, jput_nI len _ (by omega) (by decide), x1, if_neg (nI_ge (by omega) (by omega)), if_pos ja, if_pos jc, if_pos ja, x2]
          simp only [Option.bind]
          rw [xc_points hn hL, xm_sum hn hL2]
          refine ⟨_, rfl, Or.inl ⟨_, rfl, rfl, rfl, j1, j2, j3, n + 1, hn, rfl, rfl, ⟨ia, g', hpa, hg'⟩, fun k hkn => ⟨(hk k hkn).1, ?_, hml k hkn, hlen k hkn⟩⟩⟩
          exact xmv_eq (by omega) (fun k hkn => (hk k hkn).2.1) k hkn
