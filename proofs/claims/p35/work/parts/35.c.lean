/-! p35: the SURFACE, asked by the law -/
theorem x_square {n k : Nat} {right up left down : Nat → Int32} {r s u w : Nat → Nat} (hn : n ≤ 5) (hr : sP n r s) (hu : sP n u w) (fr : sR n right r) (fu : sR n up u) (fl : sR n left s) (fd : sR n down w) (hk : k < n) : (jf_Lw_square (nI n) right up left down (nI k) 0 = some (nI (r k)) ∧ jf_Lw_square (nI n) right up left down (nI k) 1 = some (nI (u k)) ∧ jf_Lw_square (nI n) right up left down (nI k) 2 = some (nI (s k)) ∧ jf_Lw_square (nI n) right up left down (nI k) 3 = some (nI (w k))) ∧ jf_Lw_square (nI n) right up left down (nI k) 4 = some (nI (jcnt n (sD n (sE n r u (sG r s u w) 1) k))) ∧ jf_Lw_square (nI n) right up left down (nI k) 5 = some (nI (jcnt n (sD n (sE n r u (sG r s u w) 2) k))) ∧ jf_Lw_square (nI n) right up left down (nI k) 6 = some (nI (jcnt n (sD n (sE n r u (sG r s u w) 3) k))) := by
  have hcp : jf_Bi_checkPlace (nI k) (jf_Su_squares (nI n)) = .inl () := c_place (nI_pos' (by omega)) (nI_lt hk (by omega))
  have sz : ∀ what, 1 ≤ what ∧ what ≤ 4 → jf_Su_sizeOf (nI n) right up left down (nI k) (nI what) = some (nI (jcnt n (sD n (sE n r u (sG r s u w) what) k))) := fun what hw => c_size hn hr hu fr fu fl fd hw hk (fun x hx => sD_at hn (sE_in (what := what) hr hu (sG_P hr hu)) k x hk hx)
  have s1 : jf_Su_sizeOf (nI n) right up left down (nI k) 1 = _ := sz 1 (by omega)
  have s2 : jf_Su_sizeOf (nI n) right up left down (nI k) 2 = _ := sz 2 (by omega)
  have s3 : jf_Su_sizeOf (nI n) right up left down (nI k) 3 = _ := sz 3 (by omega)
  refine ⟨⟨?_, ?_, ?_, ?_⟩, ?_, ?_, ?_⟩ <;> unfold jf_Lw_square jf_Bi_square <;> rw [hcp, c_range (by decide) (by decide)] <;> simp only [jsum]
  · first | rw [if_pos rfl] | rw [if_pos trivial]
    unfold jf_Su_rightOf
    rw [jat_nI right (by omega) (by decide), fr k hk]
    rfl
  · rw [if_neg (by decide), if_pos trivial]
    unfold jf_Su_upOf
    rw [jat_nI up (by omega) (by decide), fu k hk]
    rfl
  · rw [if_neg (by decide), if_neg (by decide), if_pos trivial]
    unfold jf_Su_leftOf
    rw [jat_nI left (by omega) (by decide), fl k hk]
    rfl
  · rw [if_neg (by decide), if_neg (by decide), if_neg (by decide), if_pos trivial]
    unfold jf_Su_downOf
    rw [jat_nI down (by omega) (by decide), fd k hk]
    rfl
  · rw [if_neg (by decide), if_neg (by decide), if_neg (by decide), if_neg (by decide), if_pos trivial, s1]
    rfl
  · rw [if_neg (by decide), if_neg (by decide), if_neg (by decide), if_neg (by decide), if_neg (by decide), if_pos trivial, s2]
    rfl
  · rw [if_neg (by decide), if_neg (by decide), if_neg (by decide), if_neg (by decide), if_neg (by decide), if_neg (by decide), s3]
    rfl
theorem x_count {n : Nat} {right up left down : Nat → Int32} {r s u w : Nat → Nat} (hn : n ≤ 5) (hr : sP n r s) (hu : sP n u w) (fr : sR n right r) (fu : sR n up u) (fl : sR n left s) (fd : sR n down w) : jf_Lw_count (nI n) right up left down 0 = some (nI n) ∧ ∀ what, 1 ≤ what ∧ what ≤ 4 → jf_Lw_count (nI n) right up left down (nI what) = some (nI (sMany n (sE n r u (sG r s u w) what))) := by
  constructor
  · unfold jf_Lw_count jf_Bi_count
    rw [c_range (by decide) (by decide)]
    simp only [jsum]
    first | rw [if_pos rfl] | rw [if_pos trivial]
    rfl
  · intro what hw
    unfold jf_Lw_count jf_Bi_count
    rw [c_range (lo := 0) (hi := 4) (nI_pos' (by omega)) (nI_le (b := 4) hw.2 (by omega))]
    simp only [jsum]
    rw [if_neg (nI_ne0 (by omega) (by omega)), c_many hn hr hu fr fu fl fd hw]
    rfl
theorem x_genus {n : Nat} {right up left down : Nat → Int32} {r s u w : Nat → Nat} (hn : n ≤ 5) (hr : sP n r s) (hu : sP n u w) (fr : sR n right r) (fu : sR n up u) (fl : sR n left s) (fd : sR n down w) : jf_Lw_genus (nI n) right up left down = some (if nI (sMany n (sE n r u (sG r s u w) 2)) ≤ 1 then (nI n - nI (sMany n (sE n r u (sG r s u w) 1))) / 2 + 1 else -7300) := by
  have s1 : jf_Su_groups (nI n) right up left down 1 = _ := c_many hn hr hu fr fu fl fd (what := 1) (by omega)
  have s2 : jf_Su_groups (nI n) right up left down 2 = _ := c_many hn hr hu fr fu fl fd (what := 2) (by omega)
  unfold jf_Lw_genus jf_Bi_genus
  rw [s2]
  simp only [Option.bind]
  by_cases c : nI (sMany n (sE n r u (sG r s u w) 2)) ≤ 1
  · rw [if_pos c, if_pos c, s1]
    simp only [jsum]
    unfold jf_Su_squares jf_Lw_genus_n
    rw [Int32.add_comm]
  · rw [if_neg c, if_neg c]
    rfl
theorem bf_of {b : Bool} (h : ¬ b = true) : b = false := by
  cases b with
  | false => rfl
  | true => exact absurd rfl h
/-- the first loop: SQUARE by SQUARE -/
theorem x_loop {n : Nat} {right up left down lr lu : Nat → Int32} {r s u w : Nat → Nat} (hn : n ≤ 5) (hr : sP n r s) (hu : sP n u w) (fr : sR n right r) (fu : sR n up u) (fl : sR n left s) (fd : sR n down w) (gr : sR n lr r) (gu : sR n lu u) (z4 : Int32) : ∀ d k m (row : Nat → Int32) (W : Nat → Nat), k + d = n → d < m → (∀ x, x < k → row x = nI (W x) ∧ W x < 2 ^ n ∧ ∀ y, y < n → sHas (W x) y = sD n (sE n r u (sG r s u w) 3) x y) → ∃ row' W', jf_Lw_isSurface_L22 (nI n) right up left down lr lu (nI n) z4 m (nI (jcnt k (fun x => jall x (fun i => !sD n (sE n r u (sG r s u w) 1) i x)))) (nI (jcnt k (fun x => jall x (fun i => !sD n (sE n r u (sG r s u w) 2) i x)))) (nI (jcnt k (fun x => jall x (fun i => !sD n (sE n r u (sG r s u w) 3) i x)))) (nI k) row = some (.inr (nI (sMany n (sE n r u (sG r s u w) 1)), nI (sMany n (sE n r u (sG r s u w) 2)), nI (sMany n (sE n r u (sG r s u w) 3)), row')) ∧ sR n row' W' ∧ rowOk n r u (sG r s u w) W' := by
  intro d
  induction d with
  | zero =>
    intro k m row W e hm hrow
    obtain ⟨q, rfl⟩ : ∃ q, m = q + 1 := ⟨m - 1, by omega⟩
    have : k = n := by omega
    subst this
    exact ⟨row, W, by rw [jf_Lw_isSurface_L22, if_pos (nI_le (Nat.le_refl k) (by omega))]; rfl, fun x hx => (hrow x hx).1, fun x hx => (hrow x hx).2⟩
  | succ d ih =>
    intro k m row W e hm hrow
    obtain ⟨q, rfl⟩ : ∃ q, m = q + 1 := ⟨m - 1, by omega⟩
    have hk : k < n := by omega
    have jk : jin (nI k) 5 = true := jin_nI (by omega) (by decide)
    obtain ⟨G4, r4, l4, h4⟩ := l_reach (how := 4) hn (Or.inr (Or.inr rfl)) hr hu gr gu hk
    obtain ⟨G3, r3, l3, h3⟩ := l_reach (how := 3) hn (Or.inr (Or.inl rfl)) hr hu gr gu hk
    obtain ⟨G1, r1, l1, h1⟩ := l_reach (how := 1) hn (Or.inl rfl) hr hu gr gu hk
    obtain ⟨⟨q0, q1, q2, q3⟩, q4, q5, q6⟩ := x_square hn hr hu fr fu fl fd hk
    have many : ∀ (what G : Nat), G < 2 ^ n → (∀ x, x < n → sHas G x = sD n (sE n r u (sG r s u w) what) k x) → ((nI G &&& (((1 : Int32) <<< (nI k &&& 31)) - 1) = 0) ↔ jall k (fun i => !sD n (sE n r u (sG r s u w) what) i k) = true) := fun what G hG h => by
      have hE := sE_in (what := what) hr hu (sG_P hr hu)
      rw [l_lowest (f_32 hn hG) (by omega), jall_iff, jall_iff]
      have key : ∀ i, i < k → sHas G i = sD n (sE n r u (sG r s u w) what) i k := fun i hi => by
        rw [h i (by omega), Bool.eq_iff_iff, sD_at hn hE k i hk (by omega), sD_at hn hE i k (by omega) hk]
        exact ⟨sRel_symm, sRel_symm⟩
      exact ⟨fun z i hi => by rw [← key i hi]; exact z i hi, fun z i hi => by rw [key i hi]; exact z i hi⟩
    have size : ∀ (what G : Nat), G < 2 ^ n → (∀ x, x < n → sHas G x = sD n (sE n r u (sG r s u w) what) k x) → jf_Lw_size (nI G) = some (nI (jcnt n (sD n (sE n r u (sG r s u w) what) k))) := fun what G hG h => by
      rw [l_size (f_32 hn hG), sCnt_n hn hG, jcnt_eq h]
    have z1 := size 1 G4 l4 h4
    have z2 := size 2 G3 l3 h3
    have z3 := size 3 G1 l1 h1
    have m1 := many 1 G4 l4 h4
    have m2 := many 2 G3 l3 h3
    have m3 := many 3 G1 l1 h1
    obtain ⟨row', W', i1, i2, i3⟩ := ih (k + 1) q (upd row k (nI G1)) (fun x => if x = k then G1 else W x) (by omega) (by omega) (fun x hx => by
      by_cases c : x = k
      · subst c; rw [upd_at, if_pos rfl]; exact ⟨rfl, l1, h1⟩
      · rw [upd_ne _ _ c, if_neg c]; exact hrow x (by omega))
    refine ⟨row', W', ?_, i2, i3⟩
    have cnt : ∀ (what : Nat), jcnt (k + 1) (fun x => jall x (fun i => !sD n (sE n r u (sG r s u w) what) i x)) = jcnt k (fun x => jall x (fun i => !sD n (sE n r u (sG r s u w) what) i x)) + (if jall k (fun i => !sD n (sE n r u (sG r s u w) what) i k) then 1 else 0) := fun _ => rfl
    rw [cnt 1, cnt 2, cnt 3] at i1
    generalize jcnt k (fun x => jall x (fun i => !sD n (sE n r u (sG r s u w) 1) i x)) = N1 at *
    generalize jcnt k (fun x => jall x (fun i => !sD n (sE n r u (sG r s u w) 2) i x)) = N2 at *
    generalize jcnt k (fun x => jall x (fun i => !sD n (sE n r u (sG r s u w) 3) i x)) = N3 at *
    have t130 : ∀ (c1 c2 c3 : Nat) (s1 : Int32), nI N3 + s1 = nI c3 → jf_Lw_isSurface_b130 (jf_Lw_isSurface_L22 (nI n) right up left down lr lu (nI n) z4 q) (nI n) right up left down lr lu (upd row k (nI G1)) (nI n) z4 (nI c1) (nI c2) (nI k) (nI G4) (nI G3) (nI N3) s1 = jf_Lw_isSurface_L22 (nI n) right up left down lr lu (nI n) z4 q (nI c1) (nI c2) (nI c3) (nI (k + 1)) (upd row k (nI G1)) := fun c1 c2 c3 s1 es => by
      unfold jf_Lw_isSurface_b130
      rw [es]
      simp only [jlet]
      rw [q0]
      simp only [Option.bind]
      rw [if_pos jk, nI_clamp (by omega), gr k hk, if_pos rfl, q1]
      simp only []
      rw [if_pos jk, gu k hk, if_pos rfl, q2]
      simp only []
      rw [p_before (σ := s) (τ := r) hn (sP_inv hr) gr hk]
      simp only []
      first | rw [if_pos rfl, q3] | rw [if_pos trivial, q3]
      simp only []
      rw [p_before (σ := w) (τ := u) hn (sP_inv hu) gu hk]
      simp only []
      first | rw [if_pos rfl, q4] | rw [if_pos trivial, q4]
      simp only []
      rw [z1]
      simp only []
      first | rw [if_pos rfl, q5] | rw [if_pos trivial, q5]
      simp only []
      rw [z2]
      simp only []
      first | rw [if_pos rfl, q6] | rw [if_pos trivial, q6]
      simp only []
      rw [if_pos jk, upd_at, z3]
      simp only []
      first | rw [if_pos rfl, nI_1] | rw [if_pos trivial, nI_1]
    have add : ∀ (N : Nat) (b : Bool), nI N + (if b then (1 : Int32) else 0) = nI (N + if b then 1 else 0) := fun N b => by
      cases b with
      | true => exact nI_1 N
      | false => exact Int32.add_zero _
    have t105 : ∀ (c1 c2 : Nat) (s1 : Int32), nI N2 + s1 = nI c2 → jf_Lw_isSurface_b105 (jf_Lw_isSurface_L22 (nI n) right up left down lr lu (nI n) z4 q) (nI n) right up left down lr lu (upd row k (nI G1)) (nI n) z4 (nI c1) (nI N3) (nI k) (nI G4) (nI G3) (nI N2) s1 = jf_Lw_isSurface_L22 (nI n) right up left down lr lu (nI n) z4 q (nI c1) (nI c2) (nI (N3 + if jall k (fun i => !sD n (sE n r u (sG r s u w) 3) i k) then 1 else 0)) (nI (k + 1)) (upd row k (nI G1)) := fun c1 c2 s1 es => by
      unfold jf_Lw_isSurface_b105
      rw [es]
      simp only [jlet]
      rw [if_pos jk, nI_clamp (by omega), upd_at]
      by_cases c : jall k (fun i => !sD n (sE n r u (sG r s u w) 3) i k) = true
      · rw [if_pos (m3.2 c)]
        exact t130 c1 c2 _ 1 (by rw [c]; exact nI_1 N3)
      · rw [if_neg (fun z => c (m3.1 z))]
        exact t130 c1 c2 _ 0 (by rw [bf_of c]; exact Int32.add_zero _)
    have t83 : ∀ (c1 : Nat) (s1 : Int32), nI N1 + s1 = nI c1 → jf_Lw_isSurface_b83 (jf_Lw_isSurface_L22 (nI n) right up left down lr lu (nI n) z4 q) (nI n) right up left down lr lu (upd row k (nI G1)) (nI n) z4 (nI N2) (nI N3) (nI k) (nI G4) (nI G3) (nI N1) s1 = jf_Lw_isSurface_L22 (nI n) right up left down lr lu (nI n) z4 q (nI c1) (nI (N2 + if jall k (fun i => !sD n (sE n r u (sG r s u w) 2) i k) then 1 else 0)) (nI (N3 + if jall k (fun i => !sD n (sE n r u (sG r s u w) 3) i k) then 1 else 0)) (nI (k + 1)) (upd row k (nI G1)) := fun c1 s1 es => by
      unfold jf_Lw_isSurface_b83
      rw [es]
      simp only [jlet]
      by_cases c : jall k (fun i => !sD n (sE n r u (sG r s u w) 2) i k) = true
      · rw [if_pos (m2.2 c)]
        exact t105 c1 _ 1 (by rw [c]; exact nI_1 N2)
      · rw [if_neg (fun z => c (m2.1 z))]
        exact t105 c1 _ 0 (by rw [bf_of c]; exact Int32.add_zero _)
    rw [jf_Lw_isSurface_L22, if_neg (nI_ge hk (by omega)), show jf_Lw_reach lr lu (nI k) 4 (nI n) = some (nI G4) from r4]
    simp only [Option.bind]
    rw [show jf_Lw_reach lr lu (nI k) 3 (nI n) = some (nI G3) from r3]
    simp only []
    rw [show jf_Lw_reach lr lu (nI k) 1 (nI n) = some (nI G1) from r1]
    simp only []
    rw [if_pos jk, nI_clamp (by omega)]
    by_cases c : jall k (fun i => !sD n (sE n r u (sG r s u w) 1) i k) = true
    · rw [if_pos (m1.2 c), t83 (N1 + 1) 1 (nI_1 N1)]
      rw [if_pos c] at i1
      exact i1
    · rw [if_neg (fun z => c (m1.1 z)), t83 N1 0 (Int32.add_zero _)]
      rw [if_neg c] at i1
      exact i1
theorem x_surface {n : Nat} {right up left down lr lu : Nat → Int32} {r s u w : Nat → Nat} (h1 : 1 ≤ n) (hn : n ≤ 5) (hr : sP n r s) (hu : sP n u w) (fr : sR n right r) (fu : sR n up u) (fl : sR n left s) (fd : sR n down w) (gr : sR n lr r) (gu : sR n lu u) (num : Int32) (order number : Nat → Int32) (kf tnum tsq : Int32) (tr tu tl td ts to tn cc : Nat → Int32) (z4 : Int32) : ∃ q, jf_Lw_isSurface num (nI n) right up left down order number kf tnum tsq tr tu tl td ts to tn cc lr lu (nI n) z4 = some (1, q) := by
  obtain ⟨row', W', a1, a2, a3⟩ := x_loop hn hr hu fr fu fl fd gr gu z4 n 0 7 (fun _ => 0) (fun _ => 0) (by omega) (by omega) (fun x hx => absurd hx (Nat.not_lt_zero x))
  obtain ⟨flat, b1, b2⟩ := w_flat hn hr hu gr gu a2 a3 z4 (nI (sMany n (sE n r u (sG r s u w) 1))) (nI (sMany n (sE n r u (sG r s u w) 2))) (nI (sMany n (sE n r u (sG r s u w) 3))) n 0 jF (fun _ => 0) (by omega) (jF_gt (by omega)) (fun x hx => absurd hx (Nat.not_lt_zero x))
  have c1 := y_cyls hn hr hu gu a2 a3 b2 z4 (nI (sMany n (sE n r u (sG r s u w) 1))) (nI (sMany n (sE n r u (sG r s u w) 2))) (nI (sMany n (sE n r u (sG r s u w) 3))) n 0 jF 0 (by omega) (jF_gt (by omega)) (Nat.pow_pos (by decide)) (fun x hx => ⟨fun z => (by rw [show sHas 0 x = false from Nat.zero_testBit x] at z; cases z), fun ⟨i, z, _⟩ => absurd z (Nat.not_lt_zero i)⟩)
  obtain ⟨t0, tw⟩ := x_count hn hr hu fr fu fl fd
  have t1 : jf_Lw_count (nI n) right up left down 1 = _ := tw 1 (by omega)
  have t2 : jf_Lw_count (nI n) right up left down 2 = _ := tw 2 (by omega)
  have t3 : jf_Lw_count (nI n) right up left down 3 = _ := tw 3 (by omega)
  have t4 : jf_Lw_count (nI n) right up left down 4 = _ := tw 4 (by omega)
  have tg := x_genus hn hr hu fr fu fl fd
  obtain ⟨v, nx, o', n', e1, e2⟩ := x_code h1 hn hr hu fr fu gr gu num order number
  have ec : jf_Bi_code num (nI n) right up order number = some (nI v, nx, o', n') := by unfold jf_Bi_code; rw [e1]; rfl
  have fin : ∀ s0 : Int32, ∃ q, jf_Lw_isSurface_b532 num (nI n) right up order number kf tnum tsq tr tu tl td ts to tn cc lr lu row' flat (nI n) z4 s0 s0 = some (1, q) := fun s0 => by
    unfold jf_Lw_isSurface_b532 jf_Lw_isSurface_b568
    rw [if_pos rfl, ec]
    simp only [Option.bind]
    rw [e2]
    simp only []
    first | rw [if_pos rfl] | rw [if_pos trivial]
    by_cases c : z4 = 0
    · rw [if_pos c]; exact ⟨_, rfl⟩
    · rw [if_neg c]
      obtain ⟨F, q, k1, k2⟩ := x_kin h1 hn hr hu fr fu gr gu nx o' n' kf tnum tsq tr tu tl td ts to tn cc
      rw [k1]
      simp only []
      rw [k2]
      simp only []
      first | rw [if_pos rfl] | rw [if_pos trivial]
      exact ⟨_, rfl⟩
  obtain ⟨q, hq⟩ := fin (if nI (sMany n (sE n r u (sG r s u w) 2)) ≤ 1 then (nI n - nI (sMany n (sE n r u (sG r s u w) 1))) / 2 + 1 else -7300)
  refine ⟨q, ?_⟩
  unfold jf_Lw_isSurface
  rw [show jf_Lw_isSurface_L22 (nI n) right up left down lr lu (nI n) z4 7 0 0 0 0 (fun _ => 0) = _ from a1]
  simp only [Option.bind, jsum]
  rw [show jf_Lw_isSurface_L253 lr lu row' (nI n) z4 (nI (sMany n (sE n r u (sG r s u w) 1))) (nI (sMany n (sE n r u (sG r s u w) 2))) (nI (sMany n (sE n r u (sG r s u w) 3))) jF 0 (fun _ => 0) = some flat from b1]
  simp only []
  rw [show jf_Lw_isSurface_L334 lu row' flat (nI n) z4 (nI (sMany n (sE n r u (sG r s u w) 1))) (nI (sMany n (sE n r u (sG r s u w) 2))) (nI (sMany n (sE n r u (sG r s u w) 3))) jF 0 0 0 = some (nI (sMany n (sE n r u (sG r s u w) 4))) from c1]
  simp only []
  rw [t0]
  simp only []
  first | rw [if_pos rfl, t1] | rw [if_pos trivial, t1]
  simp only []
  first | rw [if_pos rfl, t2] | rw [if_pos trivial, t2]
  simp only []
  first | rw [if_pos rfl, t3] | rw [if_pos trivial, t3]
  simp only []
  first | rw [if_pos rfl, t4] | rw [if_pos trivial, t4]
  simp only []
  first | rw [if_pos rfl, tg] | rw [if_pos trivial, tg]
  simp only []
  by_cases c : nI (sMany n (sE n r u (sG r s u w) 2)) ≤ 1
  · rw [if_pos c] at hq ⊢
    rw [if_pos c]
    exact hq
  · rw [if_neg c] at hq ⊢
    rw [if_neg c]
    exact hq
