/-! walks laid by wip/gen/gen.py: jf_.. what a method answers, jc_.. its contract -/
abbrev jw_Ex (g : jG) (a_this a_this_lengthOf a_this_above a_this_below a_this_met a_this_met_bits : Nat) (v_intervals : Int32) (v_lengthOf : Nat → Int32) (v_above : Nat → Int32) (v_below : Nat → Int32) (v_met_bits : Nat → Int64) : va_W := [(a_this, .inr (0, [.ref a_this_lengthOf, .ref a_this_above, .ref a_this_below, .ref a_this_met, .int v_intervals])), (a_this_lengthOf, .inl (g.2.1, 6, .inl v_lengthOf)), (a_this_above, .inl (g.2.1, 6, .inl v_above)), (a_this_below, .inl (g.2.1, 6, .inl v_below)), (a_this_met, .inr (3, [.ref a_this_met_bits])), (a_this_met_bits, .inl (g.2.2.1, 8, .inr (.inl v_met_bits)))]
def jf_Ex_intervals (v_intervals : Int32) : Int32 :=
  v_intervals
abbrev jr_Ex_intervals : Room := { frames := 0, cells := 0, slots := 0, locals := 0 }
set_option maxRecDepth 100000 in
set_option maxHeartbeats 4000000 in
theorem jc_Ex_intervals (l : Launch) (g : jG) (a_this a_this_lengthOf a_this_above a_this_below a_this_met a_this_met_bits : Nat) (v_intervals : Int32) (v_lengthOf : Nat → Int32) (v_above : Nat → Int32) (v_below : Nat → Int32) (v_met_bits : Nat → Int64) (R : Int32) (hR : jf_Ex_intervals v_intervals = R) : Met l yX0_intervals wsX0_intervals jr_Ex_intervals (jPr g [.ref a_this] (jw_Ex g a_this a_this_lengthOf a_this_above a_this_below a_this_met a_this_met_bits v_intervals v_lengthOf v_above v_below v_met_bits)) (vp_Si (fun r => r = R)) 0 0 (fun _ => False) := by
  refine jm_ri (cc := cX0_intervals) (maxL := 1) (by decide +kernel) rfl (Nat.le_of_ble_eq_true rfl) ?_
  intro p e s m below meth c Q hx hb hml hown hts hK hP fin ls hl
  have hl : lv_has ls 1 [(0, .ref a_this)] := hl
  have hown : s.vm.findClass RX0 = some m.cls := hown
  have w_X0 : ∀ w ∈ u_ws RX0 TX0 5, w ∈ wsX0_intervals := by decide +kernel
  have w_f28 := hts (.fieldLink RX0 28 "Billiardry$Exchange" "intervals" "I") (by decide +kernel)
  rw [jf_Ex_intervals] at hR
  refine lv_aload_n hx hb dX0_intervals_0 rfl (lv_at hl 0 rfl) ?_
  refine va_get (D := g.1) (ci := 0) (v := .int v_intervals) (C := RX0) (T := TX0) (N := 5) hx hb hts w_X0 hown hK.1 hP 0 rfl rfl 4 (by decide) w_f28 (fun _ h9 => h9) rfl dX0_intervals_1 ?_
  exact fin _ _ _ hR dX0_intervals_4
def jf_Ex_isFull (v_intervals : Int32) : Int32 :=
  if v_intervals < 6 then 0 else 1
abbrev jr_Ex_isFull : Room := { frames := 0, cells := 0, slots := 0, locals := 0 }
set_option maxRecDepth 100000 in
set_option maxHeartbeats 4000000 in
theorem jc_Ex_isFull (l : Launch) (g : jG) (a_this a_this_lengthOf a_this_above a_this_below a_this_met a_this_met_bits : Nat) (v_intervals : Int32) (v_lengthOf : Nat → Int32) (v_above : Nat → Int32) (v_below : Nat → Int32) (v_met_bits : Nat → Int64) (R : Int32) (hR : jf_Ex_isFull v_intervals = R) : Met l yX0_isFull wsX0_isFull jr_Ex_isFull (jPr g [.ref a_this] (jw_Ex g a_this a_this_lengthOf a_this_above a_this_below a_this_met a_this_met_bits v_intervals v_lengthOf v_above v_below v_met_bits)) (vp_Si (fun r => r = R)) 0 0 (fun _ => False) := by
  refine jm_rz (cc := cX0_isFull) (maxL := 1) (by decide +kernel) rfl (Nat.le_of_ble_eq_true rfl) ?_
  intro p e s m below meth c Q hx hb hml hown hts hK hP fin ls hl
  have hl : lv_has ls 1 [(0, .ref a_this)] := hl
  have hown : s.vm.findClass RX0 = some m.cls := hown
  have w_X0 : ∀ w ∈ u_ws RX0 TX0 5, w ∈ wsX0_isFull := by decide +kernel
  have w_f28 := hts (.fieldLink RX0 28 "Billiardry$Exchange" "intervals" "I") (by decide +kernel)
  rw [jf_Ex_isFull] at hR
  refine lv_aload_n hx hb dX0_isFull_0 rfl (lv_at hl 0 rfl) ?_
  refine va_get (D := g.1) (ci := 0) (v := .int v_intervals) (C := RX0) (T := TX0) (N := 5) hx hb hts w_X0 hown hK.1 hP 0 rfl rfl 4 (by decide) w_f28 (fun _ h9 => h9) rfl dX0_isFull_1 ?_
  refine lv_bipush (v := 6) hx hb dX0_isFull_4 (by decide) ?_
  refine lv_icmp_lt (tgt := 13) hx hb dX0_isFull_6 (by decide) (fun c_1 => ?_) (fun c_1 => ?_)
  · replace hR := Eq.trans (Eq.symm (if_pos c_1)) hR
    refine lv_iconst (v := 0) hx hb dX0_isFull_13 (by decide) ?_
    exact fin _ _ _ (Eq.trans (by decide) hR) dX0_isFull_14
  · replace hR := Eq.trans (Eq.symm (if_neg c_1)) hR
    refine lv_iconst (v := 1) hx hb dX0_isFull_9 (by decide) ?_
    refine lv_goto (tgt := 14) hx hb dX0_isFull_10 (by decide) ?_
    exact fin _ _ _ (Eq.trans (by decide) hR) dX0_isFull_14
def jf_Ex_add (v_intervals : Int32) (v_lengthOf : Nat → Int32) (v_above : Nat → Int32) (v_below : Nat → Int32) (x1 : Int32) : Int32 × Int32 × (Nat → Int32) × (Nat → Int32) × (Nat → Int32) :=
  jlet (jput 6 v_lengthOf v_intervals x1) (fun q_1 => jlet (jput 6 v_above v_intervals v_intervals) (fun q_2 => jlet (jput 6 v_below v_intervals v_intervals) (fun q_3 => (v_intervals, v_intervals + 1, q_1, q_2, q_3))))
abbrev jr_Ex_add : Room := { frames := 1, cells := 0, slots := 0, locals := 22 }
set_option maxRecDepth 100000 in
set_option maxHeartbeats 4000000 in
theorem jc_Ex_add (l : Launch) (g : jG) (a_this a_this_lengthOf a_this_above a_this_below a_this_met a_this_met_bits : Nat) (v_intervals : Int32) (v_lengthOf : Nat → Int32) (v_above : Nat → Int32) (v_below : Nat → Int32) (v_met_bits : Nat → Int64) (x1 : Int32) (R : Int32 × Int32 × (Nat → Int32) × (Nat → Int32) × (Nat → Int32)) (hR : jf_Ex_add v_intervals v_lengthOf v_above v_below x1 = R) (sz : Nat) : Met l yX0_add wsX0_add jr_Ex_add (jPw g [.ref a_this, .int x1] (jw_Ex g a_this a_this_lengthOf a_this_above a_this_below a_this_met a_this_met_bits v_intervals v_lengthOf v_above v_below v_met_bits) sz) (jQi g R.1 (jw_Ex g a_this a_this_lengthOf a_this_above a_this_below a_this_met a_this_met_bits R.2.1 R.2.2.1 R.2.2.2.1 R.2.2.2.2 v_met_bits) (va_A (jw_Ex g a_this a_this_lengthOf a_this_above a_this_below a_this_met a_this_met_bits v_intervals v_lengthOf v_above v_below v_met_bits) sz)) 0 0 (va_A (jw_Ex g a_this a_this_lengthOf a_this_above a_this_below a_this_met a_this_met_bits v_intervals v_lengthOf v_above v_below v_met_bits) sz) := by
  refine jm_wi (cc := cX0_add) (maxL := 3) (by decide +kernel) rfl (Nat.le_of_ble_eq_true rfl) ?_
  intro p e s m below meth c A Q hx hb hml hown hts hK hP hD hA hS fin ls hl
  have hl : lv_has ls 3 [(0, .ref a_this), (1, .int x1)] := hl
  have hown : s.vm.findClass RX0 = some m.cls := hown
  have w_X0 : ∀ w ∈ u_ws RX0 TX0 5, w ∈ wsX0_add := by decide +kernel
  have w_f28 := hts (.fieldLink RX0 28 "Billiardry$Exchange" "intervals" "I") (by decide +kernel)
  have w_f9 := hts (.fieldLink RX0 9 "Billiardry$Exchange" "lengthOf" "[I") (by decide +kernel)
  have w_f15 := hts (.fieldLink RX0 15 "Billiardry$Exchange" "above" "[I") (by decide +kernel)
  have w_f18 := hts (.fieldLink RX0 18 "Billiardry$Exchange" "below" "[I") (by decide +kernel)
  rw [jf_Ex_add] at hR
  refine lv_aload_n hx hb dX0_add_0 rfl (lv_at hl 0 rfl) ?_
  refine va_get (D := g.1) (ci := 0) (v := .int v_intervals) (C := RX0) (T := TX0) (N := 5) hx hb hts w_X0 hown hK.1 hP 0 rfl rfl 4 (by decide) w_f28 (fun _ h9 => h9) rfl dX0_add_1 ?_
  refine lv_istore_n (lv' := [(2, .int v_intervals), (0, .ref a_this), (1, .int x1)]) hx hb dX0_add_4 rfl hl (by decide) rfl (fun ls hl => ?_)
  refine lv_aload_n hx hb dX0_add_5 rfl (lv_at hl 1 rfl) ?_
  refine va_get (D := g.1) (ci := 0) (v := .ref a_this_lengthOf) (C := RX0) (T := TX0) (N := 5) hx hb hts w_X0 hown hK.1 hP 0 rfl rfl 0 (by decide) w_f9 (fun _ h9 => h9) rfl dX0_add_6 ?_
  refine lv_iload_n hx hb dX0_add_9 rfl (lv_at hl 0 rfl) ?_
  refine lv_iload_n hx hb dX0_add_10 rfl (lv_at hl 2 rfl) ?_
  obtain ⟨q_1, hq_1, hR⟩ := jlet_b hR
  try dsimp only at hR
  refine jcall_wv (ws' := jw_Ex g a_this a_this_lengthOf a_this_above a_this_below a_this_met a_this_met_bits v_intervals q_1 v_above v_below v_met_bits) (va_runSN (As := [.ref a_this_lengthOf, .int v_intervals, .int x1]) (rest := []) ⟨hx, hb, hml, hown, hts⟩ (jc_Bi_put_t l g a_this_lengthOf 6 (Nat.le_of_ble_eq_true rfl) v_lengthOf v_intervals x1 _ hq_1 _) ⟨va_cnB 3 hts gX0_add_X6_put_n32 rfl rfl rfl (jN_at (q := (RX0, 32, yX6_put)) hK.2 6 rfl) (hts (.initialized RX6) (by decide +kernel)) (by decide +kernel) ⟨Nat.le_of_ble_eq_true rfl, Nat.le_of_ble_eq_true rfl⟩, hts (.static yX6_put) (by decide +kernel), trivial⟩ (jpw_s hK (hP.sub (ws' := jw_arI g a_this_lengthOf 6 v_lengthOf) [1] rfl) ((jD_to (ws' := jw_Ex g a_this a_this_lengthOf a_this_above a_this_below a_this_met a_this_met_bits v_intervals v_lengthOf v_above v_below v_met_bits) hD rfl).sub [1] (by decide) rfl)) rfl rfl hl.1 rfl (lv_room (Nat.le_of_ble_eq_true rfl)) dX0_add_11 ⟨Nat.zero_le _, Nat.zero_le _⟩) hP (jD_to hD rfl) hS hA [1] [0, 2, 3, 4, 5] [0, 5, 1, 2, 3, 4] rfl (by decide) rfl (fun H locs hP hS => ?_)
  refine lv_aload_n hx hb dX0_add_14 rfl (lv_at hl 1 rfl) ?_
  refine va_get (D := g.1) (ci := 0) (v := .ref a_this_above) (C := RX0) (T := TX0) (N := 5) hx hb hts w_X0 hown hK.1 hP 0 rfl rfl 1 (by decide) w_f15 (fun _ h9 => h9) rfl dX0_add_15 ?_
  refine lv_iload_n hx hb dX0_add_18 rfl (lv_at hl 0 rfl) ?_
  refine lv_iload_n hx hb dX0_add_19 rfl (lv_at hl 0 rfl) ?_
  obtain ⟨q_2, hq_2, hR⟩ := jlet_b hR
  try dsimp only at hR
  refine jcall_wv (ws' := jw_Ex g a_this a_this_lengthOf a_this_above a_this_below a_this_met a_this_met_bits v_intervals q_1 q_2 v_below v_met_bits) (va_runSN (As := [.ref a_this_above, .int v_intervals, .int v_intervals]) (rest := []) ⟨hx, hb, hml, hown, hts⟩ (jc_Bi_put_t l g a_this_above 6 (Nat.le_of_ble_eq_true rfl) v_above v_intervals v_intervals _ hq_2 _) ⟨va_cnB 3 hts gX0_add_X6_put_n32 rfl rfl rfl (jN_at (q := (RX0, 32, yX6_put)) hK.2 6 rfl) (hts (.initialized RX6) (by decide +kernel)) (by decide +kernel) ⟨Nat.le_of_ble_eq_true rfl, Nat.le_of_ble_eq_true rfl⟩, hts (.static yX6_put) (by decide +kernel), trivial⟩ (jpw_s hK (hP.sub (ws' := jw_arI g a_this_above 6 v_above) [2] rfl) ((jD_to (ws' := jw_Ex g a_this a_this_lengthOf a_this_above a_this_below a_this_met a_this_met_bits v_intervals q_1 v_above v_below v_met_bits) hD rfl).sub [2] (by decide) rfl)) rfl rfl hl.1 rfl (lv_room (Nat.le_of_ble_eq_true rfl)) dX0_add_20 ⟨Nat.zero_le _, Nat.zero_le _⟩) hP (jD_to hD rfl) hS hA [2] [0, 1, 3, 4, 5] [0, 1, 5, 2, 3, 4] rfl (by decide) rfl (fun H locs hP hS => ?_)
  refine lv_aload_n hx hb dX0_add_23 rfl (lv_at hl 1 rfl) ?_
  refine va_get (D := g.1) (ci := 0) (v := .ref a_this_below) (C := RX0) (T := TX0) (N := 5) hx hb hts w_X0 hown hK.1 hP 0 rfl rfl 2 (by decide) w_f18 (fun _ h9 => h9) rfl dX0_add_24 ?_
  refine lv_iload_n hx hb dX0_add_27 rfl (lv_at hl 0 rfl) ?_
  refine lv_iload_n hx hb dX0_add_28 rfl (lv_at hl 0 rfl) ?_
  obtain ⟨q_3, hq_3, hR⟩ := jlet_b hR
  try dsimp only at hR
  refine jcall_wv (ws' := jw_Ex g a_this a_this_lengthOf a_this_above a_this_below a_this_met a_this_met_bits v_intervals q_1 q_2 q_3 v_met_bits) (va_runSN (As := [.ref a_this_below, .int v_intervals, .int v_intervals]) (rest := []) ⟨hx, hb, hml, hown, hts⟩ (jc_Bi_put_t l g a_this_below 6 (Nat.le_of_ble_eq_true rfl) v_below v_intervals v_intervals _ hq_3 _) ⟨va_cnB 3 hts gX0_add_X6_put_n32 rfl rfl rfl (jN_at (q := (RX0, 32, yX6_put)) hK.2 6 rfl) (hts (.initialized RX6) (by decide +kernel)) (by decide +kernel) ⟨Nat.le_of_ble_eq_true rfl, Nat.le_of_ble_eq_true rfl⟩, hts (.static yX6_put) (by decide +kernel), trivial⟩ (jpw_s hK (hP.sub (ws' := jw_arI g a_this_below 6 v_below) [3] rfl) ((jD_to (ws' := jw_Ex g a_this a_this_lengthOf a_this_above a_this_below a_this_met a_this_met_bits v_intervals q_1 q_2 v_below v_met_bits) hD rfl).sub [3] (by decide) rfl)) rfl rfl hl.1 rfl (lv_room (Nat.le_of_ble_eq_true rfl)) dX0_add_29 ⟨Nat.zero_le _, Nat.zero_le _⟩) hP (jD_to hD rfl) hS hA [3] [0, 1, 2, 4, 5] [0, 1, 2, 5, 3, 4] rfl (by decide) rfl (fun H locs hP hS => ?_)
  refine lv_aload_n hx hb dX0_add_32 rfl (lv_at hl 1 rfl) ?_
  refine lv_dup hx hb dX0_add_33 rfl ?_
  refine va_get (D := g.1) (ci := 0) (v := .int v_intervals) (C := RX0) (T := TX0) (N := 5) hx hb hts w_X0 hown hK.1 hP 0 rfl rfl 4 (by decide) w_f28 (fun _ h9 => h9) rfl dX0_add_34 ?_
  refine lv_iconst (v := 1) hx hb dX0_add_37 (by decide) ?_
  refine lv_iadd hx hb dX0_add_38 ?_
  refine va_put (D := g.1) (ci := 0) (v := .int (v_intervals + 1)) (ty := .int) (C := RX0) (T := TX0) (N := 5) hx hb hts w_X0 tyX0 tyX0_ok nmX0 hown hK.1 hP (jD_to hD rfl) hS 0 rfl rfl 4 (by decide) w_f28 (fun _ h9 => h9) rfl (by decide +kernel) rfl rfl (Nat.le_of_ble_eq_true rfl) dX0_add_39 (fun H locs hP _ hS => ?_)
  have hP : va_P g.1 vwCl (jw_Ex g a_this a_this_lengthOf a_this_above a_this_below a_this_met a_this_met_bits (v_intervals + 1) q_1 q_2 q_3 v_met_bits) H := hP
  refine lv_iload_n hx hb dX0_add_42 rfl (lv_at hl 0 rfl) ?_
  subst hR
  exact fin _ _ _ _ _ rfl hP hS dX0_add_43
def jf_Ex_points_L4 (v_intervals : Int32) (v_lengthOf : Nat → Int32) : Nat → Int32 → Int32 → Option Int32
  | 0, _, _ => none
  | n + 1, z1, z2 =>
    if v_intervals ≤ z2 then (some z1) else (jlet (z1 + (jat 6 v_lengthOf z2)) (fun y1_1 => (jf_Ex_points_L4 v_intervals v_lengthOf n) y1_1 (z2 + 1)))
def jf_Ex_points (v_intervals : Int32) (v_lengthOf : Nat → Int32) : Option Int32 :=
  Option.bind (jf_Ex_points_L4 v_intervals v_lengthOf jF 0 0) (fun q_1 => some q_1)
abbrev jr_Ex_points : Room := { frames := 1, cells := 0, slots := 0, locals := 21 }
set_option maxRecDepth 100000 in
set_option maxHeartbeats 4000000 in
theorem jc_Ex_points (l : Launch) (g : jG) (a_this a_this_lengthOf a_this_above a_this_below a_this_met a_this_met_bits : Nat) (v_intervals : Int32) (v_lengthOf : Nat → Int32) (v_above : Nat → Int32) (v_below : Nat → Int32) (v_met_bits : Nat → Int64) (R : Int32) (hR : jf_Ex_points v_intervals v_lengthOf = some R) : Met l yX0_points wsX0_points jr_Ex_points (jPr g [.ref a_this] (jw_Ex g a_this a_this_lengthOf a_this_above a_this_below a_this_met a_this_met_bits v_intervals v_lengthOf v_above v_below v_met_bits)) (vp_Si (fun r => r = R)) 0 0 (fun _ => False) := by
  refine jm_ri (cc := cX0_points) (maxL := 3) (by decide +kernel) rfl (Nat.le_of_ble_eq_true rfl) ?_
  intro p e s m below meth c Q hx hb hml hown hts hK hP fin ls hl
  have hl : lv_has ls 3 [(0, .ref a_this)] := hl
  have hown : s.vm.findClass RX0 = some m.cls := hown
  have w_X0 : ∀ w ∈ u_ws RX0 TX0 5, w ∈ wsX0_points := by decide +kernel
  have w_f28 := hts (.fieldLink RX0 28 "Billiardry$Exchange" "intervals" "I") (by decide +kernel)
  have w_f9 := hts (.fieldLink RX0 9 "Billiardry$Exchange" "lengthOf" "[I") (by decide +kernel)
  have L4 : ∀ (n : Nat) (z1 : Int32) (z2 : Int32) (ls : Array Slot), lv_has ls 3 [(0, .ref a_this), (1, .int z1), (2, .int z2)] → ∀ q, jf_Ex_points_L4 v_intervals v_lengthOf n z1 z2 = some q → (∀ ls : Array Slot, lv_has ls 3 [(1, .int q)] → W p l e jr_Ex_points s m ([.ref a_this] : List Value).toArray below meth c s.heap [] 0 0 Q (F0 m 29 ls [])) → W p l e jr_Ex_points s m ([.ref a_this] : List Value).toArray below meth c s.heap [] 0 0 Q (F0 m 4 ls []) := by
    intro n
    induction n with
    | zero =>
      intro z1 z2 ls hl q hR k
      cases hR
    | succ n ih =>
      intro z1 z2 ls hl q hR k
      rw [jf_Ex_points_L4] at hR
      refine lv_iload_n hx hb dX0_points_4 rfl (lv_at hl 2 rfl) ?_
      refine lv_aload_n hx hb dX0_points_5 rfl (lv_at hl 0 rfl) ?_
      refine va_get (D := g.1) (ci := 0) (v := .int v_intervals) (C := RX0) (T := TX0) (N := 5) hx hb hts w_X0 hown hK.1 hP 0 rfl rfl 4 (by decide) w_f28 (fun _ h9 => h9) rfl dX0_points_6 ?_
      refine lv_icmp_ge (tgt := 29) hx hb dX0_points_9 (by decide) (fun c_1 => ?_) (fun c_1 => ?_)
      · replace hR := Eq.trans (Eq.symm (if_pos c_1)) hR
        cases hR
        exact k _ (lv_sub hl [1] rfl)
      · replace hR := Eq.trans (Eq.symm (if_neg c_1)) hR
        refine lv_iload_n hx hb dX0_points_12 rfl (lv_at hl 1 rfl) ?_
        refine lv_aload_n hx hb dX0_points_13 rfl (lv_at hl 0 rfl) ?_
        refine va_get (D := g.1) (ci := 0) (v := .ref a_this_lengthOf) (C := RX0) (T := TX0) (N := 5) hx hb hts w_X0 hown hK.1 hP 0 rfl rfl 0 (by decide) w_f9 (fun _ h9 => h9) rfl dX0_points_14 ?_
        refine lv_iload_n hx hb dX0_points_17 rfl (lv_at hl 2 rfl) ?_
        refine jcall_ri (va_runSN (As := [.ref a_this_lengthOf, .int z2]) (rest := [.int z1]) ⟨hx, hb, hml, hown, hts⟩ (jc_Bi_at_t l g a_this_lengthOf 6 (Nat.le_of_ble_eq_true rfl) v_lengthOf z2 _ rfl) ⟨va_cnB 2 hts gX0_points_X6_at_n36 rfl rfl rfl (jN_at (q := (RX0, 36, yX6_at)) hK.2 7 rfl) (hts (.initialized RX6) (by decide +kernel)) (by decide +kernel) ⟨Nat.le_of_ble_eq_true rfl, Nat.le_of_ble_eq_true rfl⟩, hts (.static yX6_at) (by decide +kernel), trivial⟩ (jpr_s hK (hP.sub (ws' := jw_arI g a_this_lengthOf 6 v_lengthOf) [1] rfl)) rfl rfl hl.1 rfl (lv_room (Nat.le_of_ble_eq_true rfl)) dX0_points_18 ⟨Nat.zero_le _, Nat.zero_le _⟩) ?_
        refine lv_iadd hx hb dX0_points_21 ?_
        refine jlet_i hR (fun y1_1 hR => ?_)
        try dsimp only at hR
        refine lv_istore_n (lv' := [(1, .int y1_1), (0, .ref a_this), (2, .int z2)]) hx hb dX0_points_22 rfl hl (by decide) rfl (fun ls hl => ?_)
        refine lv_iinc (v := z2 + 1) (lv' := [(2, .int (z2 + 1)), (1, .int y1_1), (0, .ref a_this)]) hx hb dX0_points_23 hl (k := 2) rfl (by first | rfl | decide) (by decide) rfl (fun ls hl => ?_)
        refine lv_goto (tgt := 4) hx hb dX0_points_26 (by decide) ?_
        exact ih y1_1 (z2 + 1) _ (lv_sub hl [2, 1, 0] rfl) _ hR k
  rw [jf_Ex_points] at hR
  refine lv_iconst (v := 0) hx hb dX0_points_0 (by decide) ?_
  refine lv_istore_n (lv' := [(1, .int 0), (0, .ref a_this)]) hx hb dX0_points_1 rfl hl (by decide) rfl (fun ls hl => ?_)
  refine lv_iconst (v := 0) hx hb dX0_points_2 (by decide) ?_
  refine lv_istore_n (lv' := [(2, .int 0), (1, .int 0), (0, .ref a_this)]) hx hb dX0_points_3 rfl hl (by decide) rfl (fun ls hl => ?_)
  obtain ⟨q_1, hq_1, hR⟩ := jbind hR
  try dsimp only at hR
  refine L4 jF 0 0 _ (lv_sub hl [2, 1, 0] rfl) _ hq_1 (fun ls hl => ?_)
  refine lv_iload_n hx hb dX0_points_29 rfl (lv_at hl 0 rfl) ?_
  exact fin _ _ _ (Option.some.inj hR) dX0_points_30
def jf_Ex_aboveAt (v_above : Nat → Int32) (x1 : Int32) : Int32 :=
  (jat 6 v_above x1)
abbrev jr_Ex_aboveAt : Room := { frames := 1, cells := 0, slots := 0, locals := 21 }
set_option maxRecDepth 100000 in
set_option maxHeartbeats 4000000 in
theorem jc_Ex_aboveAt (l : Launch) (g : jG) (a_this a_this_lengthOf a_this_above a_this_below a_this_met a_this_met_bits : Nat) (v_intervals : Int32) (v_lengthOf : Nat → Int32) (v_above : Nat → Int32) (v_below : Nat → Int32) (v_met_bits : Nat → Int64) (x1 : Int32) (R : Int32) (hR : jf_Ex_aboveAt v_above x1 = R) : Met l yX0_aboveAt wsX0_aboveAt jr_Ex_aboveAt (jPr g [.ref a_this, .int x1] (jw_Ex g a_this a_this_lengthOf a_this_above a_this_below a_this_met a_this_met_bits v_intervals v_lengthOf v_above v_below v_met_bits)) (vp_Si (fun r => r = R)) 0 0 (fun _ => False) := by
  refine jm_ri (cc := cX0_aboveAt) (maxL := 2) (by decide +kernel) rfl (Nat.le_of_ble_eq_true rfl) ?_
  intro p e s m below meth c Q hx hb hml hown hts hK hP fin ls hl
  have hl : lv_has ls 2 [(0, .ref a_this), (1, .int x1)] := hl
  have hown : s.vm.findClass RX0 = some m.cls := hown
  have w_X0 : ∀ w ∈ u_ws RX0 TX0 5, w ∈ wsX0_aboveAt := by decide +kernel
  have w_f15 := hts (.fieldLink RX0 15 "Billiardry$Exchange" "above" "[I") (by decide +kernel)
  rw [jf_Ex_aboveAt] at hR
  refine lv_aload_n hx hb dX0_aboveAt_0 rfl (lv_at hl 0 rfl) ?_
  refine va_get (D := g.1) (ci := 0) (v := .ref a_this_above) (C := RX0) (T := TX0) (N := 5) hx hb hts w_X0 hown hK.1 hP 0 rfl rfl 1 (by decide) w_f15 (fun _ h9 => h9) rfl dX0_aboveAt_1 ?_
  refine lv_iload_n hx hb dX0_aboveAt_4 rfl (lv_at hl 1 rfl) ?_
  refine jcall_ri (va_runSN (As := [.ref a_this_above, .int x1]) (rest := []) ⟨hx, hb, hml, hown, hts⟩ (jc_Bi_at_t l g a_this_above 6 (Nat.le_of_ble_eq_true rfl) v_above x1 _ rfl) ⟨va_cnB 2 hts gX0_aboveAt_X6_at_n36 rfl rfl rfl (jN_at (q := (RX0, 36, yX6_at)) hK.2 7 rfl) (hts (.initialized RX6) (by decide +kernel)) (by decide +kernel) ⟨Nat.le_of_ble_eq_true rfl, Nat.le_of_ble_eq_true rfl⟩, hts (.static yX6_at) (by decide +kernel), trivial⟩ (jpr_s hK (hP.sub (ws' := jw_arI g a_this_above 6 v_above) [2] rfl)) rfl rfl hl.1 rfl (lv_room (Nat.le_of_ble_eq_true rfl)) dX0_aboveAt_5 ⟨Nat.zero_le _, Nat.zero_le _⟩) ?_
  exact fin _ _ _ hR dX0_aboveAt_8
def jf_Ex_belowAt (v_below : Nat → Int32) (x1 : Int32) : Int32 :=
  (jat 6 v_below x1)
abbrev jr_Ex_belowAt : Room := { frames := 1, cells := 0, slots := 0, locals := 21 }
set_option maxRecDepth 100000 in
set_option maxHeartbeats 4000000 in
theorem jc_Ex_belowAt (l : Launch) (g : jG) (a_this a_this_lengthOf a_this_above a_this_below a_this_met a_this_met_bits : Nat) (v_intervals : Int32) (v_lengthOf : Nat → Int32) (v_above : Nat → Int32) (v_below : Nat → Int32) (v_met_bits : Nat → Int64) (x1 : Int32) (R : Int32) (hR : jf_Ex_belowAt v_below x1 = R) : Met l yX0_belowAt wsX0_belowAt jr_Ex_belowAt (jPr g [.ref a_this, .int x1] (jw_Ex g a_this a_this_lengthOf a_this_above a_this_below a_this_met a_this_met_bits v_intervals v_lengthOf v_above v_below v_met_bits)) (vp_Si (fun r => r = R)) 0 0 (fun _ => False) := by
  refine jm_ri (cc := cX0_belowAt) (maxL := 2) (by decide +kernel) rfl (Nat.le_of_ble_eq_true rfl) ?_
  intro p e s m below meth c Q hx hb hml hown hts hK hP fin ls hl
  have hl : lv_has ls 2 [(0, .ref a_this), (1, .int x1)] := hl
  have hown : s.vm.findClass RX0 = some m.cls := hown
  have w_X0 : ∀ w ∈ u_ws RX0 TX0 5, w ∈ wsX0_belowAt := by decide +kernel
  have w_f18 := hts (.fieldLink RX0 18 "Billiardry$Exchange" "below" "[I") (by decide +kernel)
  rw [jf_Ex_belowAt] at hR
  refine lv_aload_n hx hb dX0_belowAt_0 rfl (lv_at hl 0 rfl) ?_
  refine va_get (D := g.1) (ci := 0) (v := .ref a_this_below) (C := RX0) (T := TX0) (N := 5) hx hb hts w_X0 hown hK.1 hP 0 rfl rfl 2 (by decide) w_f18 (fun _ h9 => h9) rfl dX0_belowAt_1 ?_
  refine lv_iload_n hx hb dX0_belowAt_4 rfl (lv_at hl 1 rfl) ?_
  refine jcall_ri (va_runSN (As := [.ref a_this_below, .int x1]) (rest := []) ⟨hx, hb, hml, hown, hts⟩ (jc_Bi_at_t l g a_this_below 6 (Nat.le_of_ble_eq_true rfl) v_below x1 _ rfl) ⟨va_cnB 2 hts gX0_belowAt_X6_at_n36 rfl rfl rfl (jN_at (q := (RX0, 36, yX6_at)) hK.2 7 rfl) (hts (.initialized RX6) (by decide +kernel)) (by decide +kernel) ⟨Nat.le_of_ble_eq_true rfl, Nat.le_of_ble_eq_true rfl⟩, hts (.static yX6_at) (by decide +kernel), trivial⟩ (jpr_s hK (hP.sub (ws' := jw_arI g a_this_below 6 v_below) [3] rfl)) rfl rfl hl.1 rfl (lv_room (Nat.le_of_ble_eq_true rfl)) dX0_belowAt_5 ⟨Nat.zero_le _, Nat.zero_le _⟩) ?_
  exact fin _ _ _ hR dX0_belowAt_8
def jf_Ex_lengthAt (v_lengthOf : Nat → Int32) (v_above : Nat → Int32) (x1 : Int32) : Int32 :=
  (jat 6 v_lengthOf (jat 6 v_above x1))
abbrev jr_Ex_lengthAt : Room := { frames := 1, cells := 0, slots := 0, locals := 21 }
set_option maxRecDepth 100000 in
set_option maxHeartbeats 4000000 in
theorem jc_Ex_lengthAt (l : Launch) (g : jG) (a_this a_this_lengthOf a_this_above a_this_below a_this_met a_this_met_bits : Nat) (v_intervals : Int32) (v_lengthOf : Nat → Int32) (v_above : Nat → Int32) (v_below : Nat → Int32) (v_met_bits : Nat → Int64) (x1 : Int32) (R : Int32) (hR : jf_Ex_lengthAt v_lengthOf v_above x1 = R) : Met l yX0_lengthAt wsX0_lengthAt jr_Ex_lengthAt (jPr g [.ref a_this, .int x1] (jw_Ex g a_this a_this_lengthOf a_this_above a_this_below a_this_met a_this_met_bits v_intervals v_lengthOf v_above v_below v_met_bits)) (vp_Si (fun r => r = R)) 0 0 (fun _ => False) := by
  refine jm_ri (cc := cX0_lengthAt) (maxL := 2) (by decide +kernel) rfl (Nat.le_of_ble_eq_true rfl) ?_
  intro p e s m below meth c Q hx hb hml hown hts hK hP fin ls hl
  have hl : lv_has ls 2 [(0, .ref a_this), (1, .int x1)] := hl
  have hown : s.vm.findClass RX0 = some m.cls := hown
  have w_X0 : ∀ w ∈ u_ws RX0 TX0 5, w ∈ wsX0_lengthAt := by decide +kernel
  have w_f9 := hts (.fieldLink RX0 9 "Billiardry$Exchange" "lengthOf" "[I") (by decide +kernel)
  have w_f15 := hts (.fieldLink RX0 15 "Billiardry$Exchange" "above" "[I") (by decide +kernel)
  rw [jf_Ex_lengthAt] at hR
  refine lv_aload_n hx hb dX0_lengthAt_0 rfl (lv_at hl 0 rfl) ?_
  refine va_get (D := g.1) (ci := 0) (v := .ref a_this_lengthOf) (C := RX0) (T := TX0) (N := 5) hx hb hts w_X0 hown hK.1 hP 0 rfl rfl 0 (by decide) w_f9 (fun _ h9 => h9) rfl dX0_lengthAt_1 ?_
  refine lv_aload_n hx hb dX0_lengthAt_4 rfl (lv_at hl 0 rfl) ?_
  refine va_get (D := g.1) (ci := 0) (v := .ref a_this_above) (C := RX0) (T := TX0) (N := 5) hx hb hts w_X0 hown hK.1 hP 0 rfl rfl 1 (by decide) w_f15 (fun _ h9 => h9) rfl dX0_lengthAt_5 ?_
  refine lv_iload_n hx hb dX0_lengthAt_8 rfl (lv_at hl 1 rfl) ?_
  refine jcall_ri (va_runSN (As := [.ref a_this_above, .int x1]) (rest := [.ref a_this_lengthOf]) ⟨hx, hb, hml, hown, hts⟩ (jc_Bi_at_t l g a_this_above 6 (Nat.le_of_ble_eq_true rfl) v_above x1 _ rfl) ⟨va_cnB 2 hts gX0_lengthAt_X6_at_n36 rfl rfl rfl (jN_at (q := (RX0, 36, yX6_at)) hK.2 7 rfl) (hts (.initialized RX6) (by decide +kernel)) (by decide +kernel) ⟨Nat.le_of_ble_eq_true rfl, Nat.le_of_ble_eq_true rfl⟩, hts (.static yX6_at) (by decide +kernel), trivial⟩ (jpr_s hK (hP.sub (ws' := jw_arI g a_this_above 6 v_above) [2] rfl)) rfl rfl hl.1 rfl (lv_room (Nat.le_of_ble_eq_true rfl)) dX0_lengthAt_9 ⟨Nat.zero_le _, Nat.zero_le _⟩) ?_
  refine jcall_ri (va_runSN (As := [.ref a_this_lengthOf, .int (jat 6 v_above x1)]) (rest := []) ⟨hx, hb, hml, hown, hts⟩ (jc_Bi_at_t l g a_this_lengthOf 6 (Nat.le_of_ble_eq_true rfl) v_lengthOf (jat 6 v_above x1) _ rfl) ⟨va_cnB 2 hts gX0_lengthAt_X6_at_n36 rfl rfl rfl (jN_at (q := (RX0, 36, yX6_at)) hK.2 7 rfl) (hts (.initialized RX6) (by decide +kernel)) (by decide +kernel) ⟨Nat.le_of_ble_eq_true rfl, Nat.le_of_ble_eq_true rfl⟩, hts (.static yX6_at) (by decide +kernel), trivial⟩ (jpr_s hK (hP.sub (ws' := jw_arI g a_this_lengthOf 6 v_lengthOf) [1] rfl)) rfl rfl hl.1 rfl (lv_room (Nat.le_of_ble_eq_true rfl)) dX0_lengthAt_12 ⟨Nat.zero_le _, Nat.zero_le _⟩) ?_
  exact fin _ _ _ hR dX0_lengthAt_15
def jf_Ex_swapBelow (v_below : Nat → Int32) (x1 : Int32) (x2 : Int32) : Int32 × (Nat → Int32) :=
  jlet (jf_Bi_exchangeIn 6 v_below x1 x2) (fun q_1 => ((jat 6 q_1 x1), q_1))
abbrev jr_Ex_swapBelow : Room := { frames := 2, cells := 0, slots := 0, locals := 45 }
set_option maxRecDepth 100000 in
set_option maxHeartbeats 4000000 in
theorem jc_Ex_swapBelow (l : Launch) (g : jG) (a_this a_this_lengthOf a_this_above a_this_below a_this_met a_this_met_bits : Nat) (v_intervals : Int32) (v_lengthOf : Nat → Int32) (v_above : Nat → Int32) (v_below : Nat → Int32) (v_met_bits : Nat → Int64) (x1 : Int32) (x2 : Int32) (R : Int32 × (Nat → Int32)) (hR : jf_Ex_swapBelow v_below x1 x2 = R) (sz : Nat) : Met l yX0_swapBelow wsX0_swapBelow jr_Ex_swapBelow (jPw g [.ref a_this, .int x1, .int x2] (jw_Ex g a_this a_this_lengthOf a_this_above a_this_below a_this_met a_this_met_bits v_intervals v_lengthOf v_above v_below v_met_bits) sz) (jQi g R.1 (jw_Ex g a_this a_this_lengthOf a_this_above a_this_below a_this_met a_this_met_bits v_intervals v_lengthOf v_above R.2 v_met_bits) (va_A (jw_Ex g a_this a_this_lengthOf a_this_above a_this_below a_this_met a_this_met_bits v_intervals v_lengthOf v_above v_below v_met_bits) sz)) 0 0 (va_A (jw_Ex g a_this a_this_lengthOf a_this_above a_this_below a_this_met a_this_met_bits v_intervals v_lengthOf v_above v_below v_met_bits) sz) := by
  refine jm_wi (cc := cX0_swapBelow) (maxL := 3) (by decide +kernel) rfl (Nat.le_of_ble_eq_true rfl) ?_
  intro p e s m below meth c A Q hx hb hml hown hts hK hP hD hA hS fin ls hl
  have hl : lv_has ls 3 [(0, .ref a_this), (1, .int x1), (2, .int x2)] := hl
  have hown : s.vm.findClass RX0 = some m.cls := hown
  have w_X0 : ∀ w ∈ u_ws RX0 TX0 5, w ∈ wsX0_swapBelow := by decide +kernel
  have w_f18 := hts (.fieldLink RX0 18 "Billiardry$Exchange" "below" "[I") (by decide +kernel)
  rw [jf_Ex_swapBelow] at hR
  refine lv_aload_n hx hb dX0_swapBelow_0 rfl (lv_at hl 0 rfl) ?_
  refine va_get (D := g.1) (ci := 0) (v := .ref a_this_below) (C := RX0) (T := TX0) (N := 5) hx hb hts w_X0 hown hK.1 hP 0 rfl rfl 2 (by decide) w_f18 (fun _ h9 => h9) rfl dX0_swapBelow_1 ?_
  refine lv_iload_n hx hb dX0_swapBelow_4 rfl (lv_at hl 1 rfl) ?_
  refine lv_iload_n hx hb dX0_swapBelow_5 rfl (lv_at hl 2 rfl) ?_
  obtain ⟨q_1, hq_1, hR⟩ := jlet_b hR
  try dsimp only at hR
  refine jcall_wv (ws' := jw_Ex g a_this a_this_lengthOf a_this_above a_this_below a_this_met a_this_met_bits v_intervals v_lengthOf v_above q_1 v_met_bits) (va_runSN (As := [.ref a_this_below, .int x1, .int x2]) (rest := []) ⟨hx, hb, hml, hown, hts⟩ (jc_Bi_exchangeIn l g a_this_below 6 (Nat.le_of_ble_eq_true rfl) v_below x1 x2 _ hq_1 _) ⟨va_cnB 3 hts gX0_swapBelow_X6_exchangeIn_n40 rfl rfl rfl (jN_at (q := (RX0, 40, yX6_exchangeIn)) hK.2 8 rfl) (hts (.initialized RX6) (by decide +kernel)) (by decide +kernel) ⟨Nat.le_of_ble_eq_true rfl, Nat.le_of_ble_eq_true rfl⟩, hts (.static yX6_exchangeIn) (by decide +kernel), trivial⟩ (jpw_s hK (hP.sub (ws' := jw_arI g a_this_below 6 v_below) [3] rfl) ((jD_to (ws' := jw_Ex g a_this a_this_lengthOf a_this_above a_this_below a_this_met a_this_met_bits v_intervals v_lengthOf v_above v_below v_met_bits) hD rfl).sub [3] (by decide) rfl)) rfl rfl hl.1 rfl (lv_room (Nat.le_of_ble_eq_true rfl)) dX0_swapBelow_6 ⟨Nat.zero_le _, Nat.zero_le _⟩) hP (jD_to hD rfl) hS hA [3] [0, 1, 2, 4, 5] [0, 1, 2, 5, 3, 4] rfl (by decide) rfl (fun H locs hP hS => ?_)
  refine lv_aload_n hx hb dX0_swapBelow_9 rfl (lv_at hl 0 rfl) ?_
  refine va_get (D := g.1) (ci := 0) (v := .ref a_this_below) (C := RX0) (T := TX0) (N := 5) hx hb hts w_X0 hown hK.1 hP 0 rfl rfl 2 (by decide) w_f18 (fun _ h9 => h9) rfl dX0_swapBelow_10 ?_
  refine lv_iload_n hx hb dX0_swapBelow_13 rfl (lv_at hl 1 rfl) ?_
  refine jcall_ri (va_runSN (As := [.ref a_this_below, .int x1]) (rest := []) ⟨hx, hb, hml, hown, hts⟩ (jc_Bi_at_t l g a_this_below 6 (Nat.le_of_ble_eq_true rfl) q_1 x1 _ rfl) ⟨va_cnB 2 hts gX0_swapBelow_X6_at_n36 rfl rfl rfl (jN_at (q := (RX0, 36, yX6_at)) hK.2 7 rfl) (hts (.initialized RX6) (by decide +kernel)) (by decide +kernel) ⟨Nat.le_of_ble_eq_true rfl, Nat.le_of_ble_eq_true rfl⟩, hts (.static yX6_at) (by decide +kernel), trivial⟩ (jpr_s hK (hP.sub (ws' := jw_arI g a_this_below 6 q_1) [3] rfl)) rfl rfl hl.1 rfl (lv_room (Nat.le_of_ble_eq_true rfl)) dX0_swapBelow_14 ⟨Nat.zero_le _, Nat.zero_le _⟩) ?_
  subst hR
  exact fin _ _ _ _ _ rfl hP hS dX0_swapBelow_17
def jf_Ex_canInduce (v_intervals : Int32) (v_lengthOf : Nat → Int32) (v_above : Nat → Int32) (v_below : Nat → Int32) : Int32 :=
  jlet (jat 6 v_above (v_intervals - 1)) (fun y1_1 => jlet (jat 6 v_below (v_intervals - 1)) (fun y2_1 => if v_intervals ≤ 0 then 0 else (if y1_1 = y2_1 then 0 else (if (jat 6 v_lengthOf y1_1) = (jat 6 v_lengthOf y2_1) then 0 else 1))))
abbrev jr_Ex_canInduce : Room := { frames := 1, cells := 0, slots := 0, locals := 21 }
set_option maxRecDepth 100000 in
set_option maxHeartbeats 4000000 in
theorem jc_Ex_canInduce (l : Launch) (g : jG) (a_this a_this_lengthOf a_this_above a_this_below a_this_met a_this_met_bits : Nat) (v_intervals : Int32) (v_lengthOf : Nat → Int32) (v_above : Nat → Int32) (v_below : Nat → Int32) (v_met_bits : Nat → Int64) (R : Int32) (hR : jf_Ex_canInduce v_intervals v_lengthOf v_above v_below = R) : Met l yX0_canInduce wsX0_canInduce jr_Ex_canInduce (jPr g [.ref a_this] (jw_Ex g a_this a_this_lengthOf a_this_above a_this_below a_this_met a_this_met_bits v_intervals v_lengthOf v_above v_below v_met_bits)) (vp_Si (fun r => r = R)) 0 0 (fun _ => False) := by
  refine jm_rz (cc := cX0_canInduce) (maxL := 3) (by decide +kernel) rfl (Nat.le_of_ble_eq_true rfl) ?_
  intro p e s m below meth c Q hx hb hml hown hts hK hP fin ls hl
  have hl : lv_has ls 3 [(0, .ref a_this)] := hl
  have hown : s.vm.findClass RX0 = some m.cls := hown
  have w_X0 : ∀ w ∈ u_ws RX0 TX0 5, w ∈ wsX0_canInduce := by decide +kernel
  have w_f15 := hts (.fieldLink RX0 15 "Billiardry$Exchange" "above" "[I") (by decide +kernel)
  have w_f28 := hts (.fieldLink RX0 28 "Billiardry$Exchange" "intervals" "I") (by decide +kernel)
  have w_f18 := hts (.fieldLink RX0 18 "Billiardry$Exchange" "below" "[I") (by decide +kernel)
  have w_f9 := hts (.fieldLink RX0 9 "Billiardry$Exchange" "lengthOf" "[I") (by decide +kernel)
  rw [jf_Ex_canInduce] at hR
  refine lv_aload_n hx hb dX0_canInduce_0 rfl (lv_at hl 0 rfl) ?_
  refine va_get (D := g.1) (ci := 0) (v := .ref a_this_above) (C := RX0) (T := TX0) (N := 5) hx hb hts w_X0 hown hK.1 hP 0 rfl rfl 1 (by decide) w_f15 (fun _ h9 => h9) rfl dX0_canInduce_1 ?_
  refine lv_aload_n hx hb dX0_canInduce_4 rfl (lv_at hl 0 rfl) ?_
  refine va_get (D := g.1) (ci := 0) (v := .int v_intervals) (C := RX0) (T := TX0) (N := 5) hx hb hts w_X0 hown hK.1 hP 0 rfl rfl 4 (by decide) w_f28 (fun _ h9 => h9) rfl dX0_canInduce_5 ?_
  refine lv_iconst (v := 1) hx hb dX0_canInduce_8 (by decide) ?_
  refine lv_isub hx hb dX0_canInduce_9 ?_
  refine jcall_ri (va_runSN (As := [.ref a_this_above, .int (v_intervals - 1)]) (rest := []) ⟨hx, hb, hml, hown, hts⟩ (jc_Bi_at_t l g a_this_above 6 (Nat.le_of_ble_eq_true rfl) v_above (v_intervals - 1) _ rfl) ⟨va_cnB 2 hts gX0_canInduce_X6_at_n36 rfl rfl rfl (jN_at (q := (RX0, 36, yX6_at)) hK.2 7 rfl) (hts (.initialized RX6) (by decide +kernel)) (by decide +kernel) ⟨Nat.le_of_ble_eq_true rfl, Nat.le_of_ble_eq_true rfl⟩, hts (.static yX6_at) (by decide +kernel), trivial⟩ (jpr_s hK (hP.sub (ws' := jw_arI g a_this_above 6 v_above) [2] rfl)) rfl rfl hl.1 rfl (lv_room (Nat.le_of_ble_eq_true rfl)) dX0_canInduce_10 ⟨Nat.zero_le _, Nat.zero_le _⟩) ?_
  refine jlet_i hR (fun y1_1 hR => ?_)
  try dsimp only at hR
  refine lv_istore_n (lv' := [(1, .int y1_1), (0, .ref a_this)]) hx hb dX0_canInduce_13 rfl hl (by decide) rfl (fun ls hl => ?_)
  refine lv_aload_n hx hb dX0_canInduce_14 rfl (lv_at hl 1 rfl) ?_
  refine va_get (D := g.1) (ci := 0) (v := .ref a_this_below) (C := RX0) (T := TX0) (N := 5) hx hb hts w_X0 hown hK.1 hP 0 rfl rfl 2 (by decide) w_f18 (fun _ h9 => h9) rfl dX0_canInduce_15 ?_
  refine lv_aload_n hx hb dX0_canInduce_18 rfl (lv_at hl 1 rfl) ?_
  refine va_get (D := g.1) (ci := 0) (v := .int v_intervals) (C := RX0) (T := TX0) (N := 5) hx hb hts w_X0 hown hK.1 hP 0 rfl rfl 4 (by decide) w_f28 (fun _ h9 => h9) rfl dX0_canInduce_19 ?_
  refine lv_iconst (v := 1) hx hb dX0_canInduce_22 (by decide) ?_
  refine lv_isub hx hb dX0_canInduce_23 ?_
  refine jcall_ri (va_runSN (As := [.ref a_this_below, .int (v_intervals - 1)]) (rest := []) ⟨hx, hb, hml, hown, hts⟩ (jc_Bi_at_t l g a_this_below 6 (Nat.le_of_ble_eq_true rfl) v_below (v_intervals - 1) _ rfl) ⟨va_cnB 2 hts gX0_canInduce_X6_at_n36 rfl rfl rfl (jN_at (q := (RX0, 36, yX6_at)) hK.2 7 rfl) (hts (.initialized RX6) (by decide +kernel)) (by decide +kernel) ⟨Nat.le_of_ble_eq_true rfl, Nat.le_of_ble_eq_true rfl⟩, hts (.static yX6_at) (by decide +kernel), trivial⟩ (jpr_s hK (hP.sub (ws' := jw_arI g a_this_below 6 v_below) [3] rfl)) rfl rfl hl.1 rfl (lv_room (Nat.le_of_ble_eq_true rfl)) dX0_canInduce_24 ⟨Nat.zero_le _, Nat.zero_le _⟩) ?_
  refine jlet_i hR (fun y2_1 hR => ?_)
  try dsimp only at hR
  refine lv_istore_n (lv' := [(2, .int y2_1), (1, .int y1_1), (0, .ref a_this)]) hx hb dX0_canInduce_27 rfl hl (by decide) rfl (fun ls hl => ?_)
  refine lv_aload_n hx hb dX0_canInduce_28 rfl (lv_at hl 2 rfl) ?_
  refine va_get (D := g.1) (ci := 0) (v := .int v_intervals) (C := RX0) (T := TX0) (N := 5) hx hb hts w_X0 hown hK.1 hP 0 rfl rfl 4 (by decide) w_f28 (fun _ h9 => h9) rfl dX0_canInduce_29 ?_
  refine lv_if_le (tgt := 63) hx hb dX0_canInduce_32 (by decide) (fun c_1 => ?_) (fun c_1 => ?_)
  · replace hR := Eq.trans (Eq.symm (if_pos c_1)) hR
    refine lv_iconst (v := 0) hx hb dX0_canInduce_63 (by decide) ?_
    exact fin _ _ _ (Eq.trans (by decide) hR) dX0_canInduce_64
  · replace hR := Eq.trans (Eq.symm (if_neg c_1)) hR
    refine lv_iload_n hx hb dX0_canInduce_35 rfl (lv_at hl 1 rfl) ?_
    refine lv_iload_n hx hb dX0_canInduce_36 rfl (lv_at hl 0 rfl) ?_
    refine lv_icmp_eq (tgt := 63) hx hb dX0_canInduce_37 (by decide) (fun c_2 => ?_) (fun c_2 => ?_)
    · replace hR := Eq.trans (Eq.symm (if_pos c_2)) hR
      refine lv_iconst (v := 0) hx hb dX0_canInduce_63 (by decide) ?_
      exact fin _ _ _ (Eq.trans (by decide) hR) dX0_canInduce_64
    · replace hR := Eq.trans (Eq.symm (if_neg c_2)) hR
      refine lv_aload_n hx hb dX0_canInduce_40 rfl (lv_at hl 2 rfl) ?_
      refine va_get (D := g.1) (ci := 0) (v := .ref a_this_lengthOf) (C := RX0) (T := TX0) (N := 5) hx hb hts w_X0 hown hK.1 hP 0 rfl rfl 0 (by decide) w_f9 (fun _ h9 => h9) rfl dX0_canInduce_41 ?_
      refine lv_iload_n hx hb dX0_canInduce_44 rfl (lv_at hl 1 rfl) ?_
      refine jcall_ri (va_runSN (As := [.ref a_this_lengthOf, .int y1_1]) (rest := []) ⟨hx, hb, hml, hown, hts⟩ (jc_Bi_at_t l g a_this_lengthOf 6 (Nat.le_of_ble_eq_true rfl) v_lengthOf y1_1 _ rfl) ⟨va_cnB 2 hts gX0_canInduce_X6_at_n36 rfl rfl rfl (jN_at (q := (RX0, 36, yX6_at)) hK.2 7 rfl) (hts (.initialized RX6) (by decide +kernel)) (by decide +kernel) ⟨Nat.le_of_ble_eq_true rfl, Nat.le_of_ble_eq_true rfl⟩, hts (.static yX6_at) (by decide +kernel), trivial⟩ (jpr_s hK (hP.sub (ws' := jw_arI g a_this_lengthOf 6 v_lengthOf) [1] rfl)) rfl rfl hl.1 rfl (lv_room (Nat.le_of_ble_eq_true rfl)) dX0_canInduce_45 ⟨Nat.zero_le _, Nat.zero_le _⟩) ?_
      refine lv_aload_n hx hb dX0_canInduce_48 rfl (lv_at hl 2 rfl) ?_
      refine va_get (D := g.1) (ci := 0) (v := .ref a_this_lengthOf) (C := RX0) (T := TX0) (N := 5) hx hb hts w_X0 hown hK.1 hP 0 rfl rfl 0 (by decide) w_f9 (fun _ h9 => h9) rfl dX0_canInduce_49 ?_
      refine lv_iload_n hx hb dX0_canInduce_52 rfl (lv_at hl 0 rfl) ?_
      refine jcall_ri (va_runSN (As := [.ref a_this_lengthOf, .int y2_1]) (rest := [.int (jat 6 v_lengthOf y1_1)]) ⟨hx, hb, hml, hown, hts⟩ (jc_Bi_at_t l g a_this_lengthOf 6 (Nat.le_of_ble_eq_true rfl) v_lengthOf y2_1 _ rfl) ⟨va_cnB 2 hts gX0_canInduce_X6_at_n36 rfl rfl rfl (jN_at (q := (RX0, 36, yX6_at)) hK.2 7 rfl) (hts (.initialized RX6) (by decide +kernel)) (by decide +kernel) ⟨Nat.le_of_ble_eq_true rfl, Nat.le_of_ble_eq_true rfl⟩, hts (.static yX6_at) (by decide +kernel), trivial⟩ (jpr_s hK (hP.sub (ws' := jw_arI g a_this_lengthOf 6 v_lengthOf) [1] rfl)) rfl rfl hl.1 rfl (lv_room (Nat.le_of_ble_eq_true rfl)) dX0_canInduce_53 ⟨Nat.zero_le _, Nat.zero_le _⟩) ?_
      refine lv_icmp_eq (tgt := 63) hx hb dX0_canInduce_56 (by decide) (fun c_3 => ?_) (fun c_3 => ?_)
      · replace hR := Eq.trans (Eq.symm (if_pos c_3)) hR
        refine lv_iconst (v := 0) hx hb dX0_canInduce_63 (by decide) ?_
        exact fin _ _ _ (Eq.trans (by decide) hR) dX0_canInduce_64
      · replace hR := Eq.trans (Eq.symm (if_neg c_3)) hR
        refine lv_iconst (v := 1) hx hb dX0_canInduce_59 (by decide) ?_
        refine lv_goto (tgt := 64) hx hb dX0_canInduce_60 (by decide) ?_
        exact fin _ _ _ (Eq.trans (by decide) hR) dX0_canInduce_64
def jf_Ex_moveLastBehind_below_L32 (z3 : Int32) (z4 : Int32) : Nat → Int32 → (Nat → Int32) → Option (Nat → Int32)
  | 0, _, _ => none
  | n + 1, z5, v_below =>
    if z5 ≤ z3 then (some v_below) else (jlet (jput 6 v_below z5 (jat 6 v_below (z5 - 1))) (fun q_2 => (jf_Ex_moveLastBehind_below_L32 z3 z4 n) (z5 + (-1)) q_2))
def jf_Ex_moveLastBehind_below (v_intervals : Int32) (v_below : Nat → Int32) (x2 : Int32) : Option (Nat → Int32) :=
  Option.bind (jf_Bi_placeOf 6 v_below v_intervals x2) (fun q_1 => jlet (q_1 + 1) (fun y3_1 => jlet (jat 6 v_below (v_intervals - 1)) (fun y4_1 => jlet (v_intervals - 1) (fun y5_1 => Option.bind (jf_Ex_moveLastBehind_below_L32 y3_1 y4_1 jF y5_1 v_below) (fun q_3 => jlet (jput 6 q_3 y3_1 y4_1) (fun q_4 => some q_4))))))
abbrev jr_Ex_moveLastBehind_below : Room := { frames := 2, cells := 0, slots := 0, locals := 44 }
set_option maxRecDepth 100000 in
set_option maxHeartbeats 4000000 in
theorem jc_Ex_moveLastBehind_below (l : Launch) (g : jG) (a_this a_this_lengthOf a_this_above a_this_below a_this_met a_this_met_bits : Nat) (v_intervals : Int32) (v_lengthOf : Nat → Int32) (v_above : Nat → Int32) (v_below : Nat → Int32) (v_met_bits : Nat → Int64) (x2 : Int32) (R : (Nat → Int32)) (hR : jf_Ex_moveLastBehind_below v_intervals v_below x2 = some R) (sz : Nat) : Met l yX0_moveLastBehind wsX0_moveLastBehind jr_Ex_moveLastBehind_below (jPw g [.ref a_this, .ref a_this_below, .int x2] (jw_Ex g a_this a_this_lengthOf a_this_above a_this_below a_this_met a_this_met_bits v_intervals v_lengthOf v_above v_below v_met_bits) sz) (jQv g (jw_Ex g a_this a_this_lengthOf a_this_above a_this_below a_this_met a_this_met_bits v_intervals v_lengthOf v_above R v_met_bits) (va_A (jw_Ex g a_this a_this_lengthOf a_this_above a_this_below a_this_met a_this_met_bits v_intervals v_lengthOf v_above v_below v_met_bits) sz)) 0 0 (va_A (jw_Ex g a_this a_this_lengthOf a_this_above a_this_below a_this_met a_this_met_bits v_intervals v_lengthOf v_above v_below v_met_bits) sz) := by
  refine jm_wv (cc := cX0_moveLastBehind) (maxL := 6) (by decide +kernel) rfl (Nat.le_of_ble_eq_true rfl) ?_
  intro p e s m below meth c A Q hx hb hml hown hts hK hP hD hA hS fin ls hl
  have hl : lv_has ls 6 [(0, .ref a_this), (1, .ref a_this_below), (2, .int x2)] := hl
  have hown : s.vm.findClass RX0 = some m.cls := hown
  have w_X0 : ∀ w ∈ u_ws RX0 TX0 5, w ∈ wsX0_moveLastBehind := by decide +kernel
  have w_f28 := hts (.fieldLink RX0 28 "Billiardry$Exchange" "intervals" "I") (by decide +kernel)
  have L32 : ∀ (n : Nat) (z3 : Int32) (z4 : Int32) (z5 : Int32) (v_below : Nat → Int32) (H : Heap) (locs : List Loc), va_P g.1 vwCl (jw_Ex g a_this a_this_lengthOf a_this_above a_this_below a_this_met a_this_met_bits v_intervals v_lengthOf v_above v_below v_met_bits) H → va_S A s.heap H locs → ∀ (ls : Array Slot), lv_has ls 6 [(1, .ref a_this_below), (3, .int z3), (4, .int z4), (5, .int z5)] → ∀ q, jf_Ex_moveLastBehind_below_L32 z3 z4 n z5 v_below = some q → (∀ (H : Heap) (locs : List Loc), va_P g.1 vwCl (jw_Ex g a_this a_this_lengthOf a_this_above a_this_below a_this_met a_this_met_bits v_intervals v_lengthOf v_above q v_met_bits) H → va_S A s.heap H locs → ∀ ls : Array Slot, lv_has ls 6 [(1, .ref a_this_below), (3, .int z3), (4, .int z4)] → W p l e jr_Ex_moveLastBehind_below s m ([.ref a_this, .ref a_this_below, .int x2] : List Value).toArray below meth c H locs 0 0 Q (F0 m 58 ls [])) → W p l e jr_Ex_moveLastBehind_below s m ([.ref a_this, .ref a_this_below, .int x2] : List Value).toArray below meth c H locs 0 0 Q (F0 m 32 ls []) := by
    intro n z3 z4
    induction n with
    | zero =>
      intro z5 v_below H locs hP hS ls hl q hR k
      cases hR
    | succ n ih =>
      intro z5 v_below H locs hP hS ls hl q hR k
      rw [jf_Ex_moveLastBehind_below_L32] at hR
      refine lv_iload hx hb dX0_moveLastBehind_32 (lv_at hl 3 rfl) ?_
      refine lv_iload_n hx hb dX0_moveLastBehind_34 rfl (lv_at hl 1 rfl) ?_
      refine lv_icmp_le (tgt := 58) hx hb dX0_moveLastBehind_35 (by decide) (fun c_1 => ?_) (fun c_1 => ?_)
      · replace hR := Eq.trans (Eq.symm (if_pos c_1)) hR
        cases hR
        exact k _ _ hP hS _ (lv_sub hl [0, 1, 2] rfl)
      · replace hR := Eq.trans (Eq.symm (if_neg c_1)) hR
        refine lv_aload_n hx hb dX0_moveLastBehind_38 rfl (lv_at hl 0 rfl) ?_
        refine lv_iload hx hb dX0_moveLastBehind_39 (lv_at hl 3 rfl) ?_
        refine lv_aload_n hx hb dX0_moveLastBehind_41 rfl (lv_at hl 0 rfl) ?_
        refine lv_iload hx hb dX0_moveLastBehind_42 (lv_at hl 3 rfl) ?_
        refine lv_iconst (v := 1) hx hb dX0_moveLastBehind_44 (by decide) ?_
        refine lv_isub hx hb dX0_moveLastBehind_45 ?_
        refine jcall_ri (va_runSN (As := [.ref a_this_below, .int (z5 - 1)]) (rest := [.int z5, .ref a_this_below]) ⟨hx, hb, hml, hown, hts⟩ (jc_Bi_at_t l g a_this_below 6 (Nat.le_of_ble_eq_true rfl) v_below (z5 - 1) _ rfl) ⟨va_cnB 2 hts gX0_moveLastBehind_X6_at_n36 rfl rfl rfl (jN_at (q := (RX0, 36, yX6_at)) hK.2 7 rfl) (hts (.initialized RX6) (by decide +kernel)) (by decide +kernel) ⟨Nat.le_of_ble_eq_true rfl, Nat.le_of_ble_eq_true rfl⟩, hts (.static yX6_at) (by decide +kernel), trivial⟩ (jpr_s hK (hP.sub (ws' := jw_arI g a_this_below 6 v_below) [3] rfl)) rfl rfl hl.1 rfl (lv_room (Nat.le_of_ble_eq_true rfl)) dX0_moveLastBehind_46 ⟨Nat.zero_le _, Nat.zero_le _⟩) ?_
        obtain ⟨q_2, hq_2, hR⟩ := jlet_b hR
        try dsimp only at hR
        refine jcall_wv (ws' := jw_Ex g a_this a_this_lengthOf a_this_above a_this_below a_this_met a_this_met_bits v_intervals v_lengthOf v_above q_2 v_met_bits) (va_runSN (As := [.ref a_this_below, .int z5, .int (jat 6 v_below (z5 - 1))]) (rest := []) ⟨hx, hb, hml, hown, hts⟩ (jc_Bi_put_t l g a_this_below 6 (Nat.le_of_ble_eq_true rfl) v_below z5 (jat 6 v_below (z5 - 1)) _ hq_2 _) ⟨va_cnB 3 hts gX0_moveLastBehind_X6_put_n32 rfl rfl rfl (jN_at (q := (RX0, 32, yX6_put)) hK.2 6 rfl) (hts (.initialized RX6) (by decide +kernel)) (by decide +kernel) ⟨Nat.le_of_ble_eq_true rfl, Nat.le_of_ble_eq_true rfl⟩, hts (.static yX6_put) (by decide +kernel), trivial⟩ (jpw_s hK (hP.sub (ws' := jw_arI g a_this_below 6 v_below) [3] rfl) ((jD_to (ws' := jw_Ex g a_this a_this_lengthOf a_this_above a_this_below a_this_met a_this_met_bits v_intervals v_lengthOf v_above v_below v_met_bits) hD rfl).sub [3] (by decide) rfl)) rfl rfl hl.1 rfl (lv_room (Nat.le_of_ble_eq_true rfl)) dX0_moveLastBehind_49 ⟨Nat.zero_le _, Nat.zero_le _⟩) hP (jD_to hD rfl) hS hA [3] [0, 1, 2, 4, 5] [0, 1, 2, 5, 3, 4] rfl (by decide) rfl (fun H locs hP hS => ?_)
        refine lv_iinc (v := z5 + (-1)) (lv' := [(5, .int (z5 + (-1))), (1, .ref a_this_below), (3, .int z3), (4, .int z4)]) hx hb dX0_moveLastBehind_52 hl (k := 3) rfl (by first | rfl | decide) (by decide) rfl (fun ls hl => ?_)
        refine lv_goto (tgt := 32) hx hb dX0_moveLastBehind_55 (by decide) ?_
        exact ih (z5 + (-1)) q_2 _ _ hP hS _ (lv_sub hl [1, 2, 3, 0] rfl) _ hR k
  rw [jf_Ex_moveLastBehind_below] at hR
  refine lv_aload_n hx hb dX0_moveLastBehind_0 rfl (lv_at hl 1 rfl) ?_
  refine lv_aload_n hx hb dX0_moveLastBehind_1 rfl (lv_at hl 0 rfl) ?_
  refine va_get (D := g.1) (ci := 0) (v := .int v_intervals) (C := RX0) (T := TX0) (N := 5) hx hb hts w_X0 hown hK.1 hP 0 rfl rfl 4 (by decide) w_f28 (fun _ h9 => h9) rfl dX0_moveLastBehind_2 ?_
  refine lv_iload_n hx hb dX0_moveLastBehind_5 rfl (lv_at hl 2 rfl) ?_
  obtain ⟨q_1, hq_1, hR⟩ := jbind hR
  try dsimp only at hR
  refine jcall_ri (va_runSN (As := [.ref a_this_below, .int v_intervals, .int x2]) (rest := []) ⟨hx, hb, hml, hown, hts⟩ (jc_Bi_placeOf l g a_this_below 6 (Nat.le_of_ble_eq_true rfl) v_below v_intervals x2 _ hq_1) ⟨va_cnB 3 hts gX0_moveLastBehind_X6_placeOf_n47 rfl rfl rfl (jN_at (q := (RX0, 47, yX6_placeOf)) hK.2 9 rfl) (hts (.initialized RX6) (by decide +kernel)) (by decide +kernel) ⟨Nat.le_of_ble_eq_true rfl, Nat.le_of_ble_eq_true rfl⟩, hts (.static yX6_placeOf) (by decide +kernel), trivial⟩ (jpr_s hK (hP.sub (ws' := jw_arI g a_this_below 6 v_below) [3] rfl)) rfl rfl hl.1 rfl (lv_room (Nat.le_of_ble_eq_true rfl)) dX0_moveLastBehind_6 ⟨Nat.zero_le _, Nat.zero_le _⟩) ?_
  refine lv_iconst (v := 1) hx hb dX0_moveLastBehind_9 (by decide) ?_
  refine lv_iadd hx hb dX0_moveLastBehind_10 ?_
  refine jlet_i hR (fun y3_1 hR => ?_)
  try dsimp only at hR
  refine lv_istore_n (lv' := [(3, .int y3_1), (0, .ref a_this), (1, .ref a_this_below), (2, .int x2)]) hx hb dX0_moveLastBehind_11 rfl hl (by decide) rfl (fun ls hl => ?_)
  refine lv_aload_n hx hb dX0_moveLastBehind_12 rfl (lv_at hl 2 rfl) ?_
  refine lv_aload_n hx hb dX0_moveLastBehind_13 rfl (lv_at hl 1 rfl) ?_
  refine va_get (D := g.1) (ci := 0) (v := .int v_intervals) (C := RX0) (T := TX0) (N := 5) hx hb hts w_X0 hown hK.1 hP 0 rfl rfl 4 (by decide) w_f28 (fun _ h9 => h9) rfl dX0_moveLastBehind_14 ?_
  refine lv_iconst (v := 1) hx hb dX0_moveLastBehind_17 (by decide) ?_
  refine lv_isub hx hb dX0_moveLastBehind_18 ?_
  refine jcall_ri (va_runSN (As := [.ref a_this_below, .int (v_intervals - 1)]) (rest := []) ⟨hx, hb, hml, hown, hts⟩ (jc_Bi_at_t l g a_this_below 6 (Nat.le_of_ble_eq_true rfl) v_below (v_intervals - 1) _ rfl) ⟨va_cnB 2 hts gX0_moveLastBehind_X6_at_n36 rfl rfl rfl (jN_at (q := (RX0, 36, yX6_at)) hK.2 7 rfl) (hts (.initialized RX6) (by decide +kernel)) (by decide +kernel) ⟨Nat.le_of_ble_eq_true rfl, Nat.le_of_ble_eq_true rfl⟩, hts (.static yX6_at) (by decide +kernel), trivial⟩ (jpr_s hK (hP.sub (ws' := jw_arI g a_this_below 6 v_below) [3] rfl)) rfl rfl hl.1 rfl (lv_room (Nat.le_of_ble_eq_true rfl)) dX0_moveLastBehind_19 ⟨Nat.zero_le _, Nat.zero_le _⟩) ?_
  refine jlet_i hR (fun y4_1 hR => ?_)
  try dsimp only at hR
  refine lv_istore (lv' := [(4, .int y4_1), (3, .int y3_1), (0, .ref a_this), (1, .ref a_this_below), (2, .int x2)]) hx hb dX0_moveLastBehind_22 hl (by decide) rfl (fun ls hl => ?_)
  refine lv_aload_n hx hb dX0_moveLastBehind_24 rfl (lv_at hl 2 rfl) ?_
  refine va_get (D := g.1) (ci := 0) (v := .int v_intervals) (C := RX0) (T := TX0) (N := 5) hx hb hts w_X0 hown hK.1 hP 0 rfl rfl 4 (by decide) w_f28 (fun _ h9 => h9) rfl dX0_moveLastBehind_25 ?_
  refine lv_iconst (v := 1) hx hb dX0_moveLastBehind_28 (by decide) ?_
  refine lv_isub hx hb dX0_moveLastBehind_29 ?_
  refine jlet_i hR (fun y5_1 hR => ?_)
  try dsimp only at hR
  refine lv_istore (lv' := [(5, .int y5_1), (4, .int y4_1), (3, .int y3_1), (0, .ref a_this), (1, .ref a_this_below), (2, .int x2)]) hx hb dX0_moveLastBehind_30 hl (by decide) rfl (fun ls hl => ?_)
  obtain ⟨q_3, hq_3, hR⟩ := jbind hR
  try dsimp only at hR
  refine L32 jF y3_1 y4_1 y5_1 v_below _ _ hP hS _ (lv_sub hl [4, 2, 1, 0] rfl) _ hq_3 (fun H locs hP hS ls hl => ?_)
  refine lv_aload_n hx hb dX0_moveLastBehind_58 rfl (lv_at hl 0 rfl) ?_
  refine lv_iload_n hx hb dX0_moveLastBehind_59 rfl (lv_at hl 1 rfl) ?_
  refine lv_iload hx hb dX0_moveLastBehind_60 (lv_at hl 2 rfl) ?_
  obtain ⟨q_4, hq_4, hR⟩ := jlet_b hR
  try dsimp only at hR
  refine jcall_wv (ws' := jw_Ex g a_this a_this_lengthOf a_this_above a_this_below a_this_met a_this_met_bits v_intervals v_lengthOf v_above q_4 v_met_bits) (va_runSN (As := [.ref a_this_below, .int y3_1, .int y4_1]) (rest := []) ⟨hx, hb, hml, hown, hts⟩ (jc_Bi_put_t l g a_this_below 6 (Nat.le_of_ble_eq_true rfl) q_3 y3_1 y4_1 _ hq_4 _) ⟨va_cnB 3 hts gX0_moveLastBehind_X6_put_n32 rfl rfl rfl (jN_at (q := (RX0, 32, yX6_put)) hK.2 6 rfl) (hts (.initialized RX6) (by decide +kernel)) (by decide +kernel) ⟨Nat.le_of_ble_eq_true rfl, Nat.le_of_ble_eq_true rfl⟩, hts (.static yX6_put) (by decide +kernel), trivial⟩ (jpw_s hK (hP.sub (ws' := jw_arI g a_this_below 6 q_3) [3] rfl) ((jD_to (ws' := jw_Ex g a_this a_this_lengthOf a_this_above a_this_below a_this_met a_this_met_bits v_intervals v_lengthOf v_above q_3 v_met_bits) hD rfl).sub [3] (by decide) rfl)) rfl rfl hl.1 rfl (lv_room (Nat.le_of_ble_eq_true rfl)) dX0_moveLastBehind_62 ⟨Nat.zero_le _, Nat.zero_le _⟩) hP (jD_to hD rfl) hS hA [3] [0, 1, 2, 4, 5] [0, 1, 2, 5, 3, 4] rfl (by decide) rfl (fun H locs hP hS => ?_)
  obtain rfl := (Option.some.inj hR)
  exact fin _ _ _ _ hP hS dX0_moveLastBehind_65
def jf_Ex_moveLastBehind_above_L32 (z3 : Int32) (z4 : Int32) : Nat → Int32 → (Nat → Int32) → Option (Nat → Int32)
  | 0, _, _ => none
  | n + 1, z5, v_above =>
    if z5 ≤ z3 then (some v_above) else (jlet (jput 6 v_above z5 (jat 6 v_above (z5 - 1))) (fun q_2 => (jf_Ex_moveLastBehind_above_L32 z3 z4 n) (z5 + (-1)) q_2))
def jf_Ex_moveLastBehind_above (v_intervals : Int32) (v_above : Nat → Int32) (x2 : Int32) : Option (Nat → Int32) :=
  Option.bind (jf_Bi_placeOf 6 v_above v_intervals x2) (fun q_1 => jlet (q_1 + 1) (fun y3_1 => jlet (jat 6 v_above (v_intervals - 1)) (fun y4_1 => jlet (v_intervals - 1) (fun y5_1 => Option.bind (jf_Ex_moveLastBehind_above_L32 y3_1 y4_1 jF y5_1 v_above) (fun q_3 => jlet (jput 6 q_3 y3_1 y4_1) (fun q_4 => some q_4))))))
abbrev jr_Ex_moveLastBehind_above : Room := { frames := 2, cells := 0, slots := 0, locals := 44 }
set_option maxRecDepth 100000 in
set_option maxHeartbeats 4000000 in
theorem jc_Ex_moveLastBehind_above (l : Launch) (g : jG) (a_this a_this_lengthOf a_this_above a_this_below a_this_met a_this_met_bits : Nat) (v_intervals : Int32) (v_lengthOf : Nat → Int32) (v_above : Nat → Int32) (v_below : Nat → Int32) (v_met_bits : Nat → Int64) (x2 : Int32) (R : (Nat → Int32)) (hR : jf_Ex_moveLastBehind_above v_intervals v_above x2 = some R) (sz : Nat) : Met l yX0_moveLastBehind wsX0_moveLastBehind jr_Ex_moveLastBehind_above (jPw g [.ref a_this, .ref a_this_above, .int x2] (jw_Ex g a_this a_this_lengthOf a_this_above a_this_below a_this_met a_this_met_bits v_intervals v_lengthOf v_above v_below v_met_bits) sz) (jQv g (jw_Ex g a_this a_this_lengthOf a_this_above a_this_below a_this_met a_this_met_bits v_intervals v_lengthOf R v_below v_met_bits) (va_A (jw_Ex g a_this a_this_lengthOf a_this_above a_this_below a_this_met a_this_met_bits v_intervals v_lengthOf v_above v_below v_met_bits) sz)) 0 0 (va_A (jw_Ex g a_this a_this_lengthOf a_this_above a_this_below a_this_met a_this_met_bits v_intervals v_lengthOf v_above v_below v_met_bits) sz) := by
  refine jm_wv (cc := cX0_moveLastBehind) (maxL := 6) (by decide +kernel) rfl (Nat.le_of_ble_eq_true rfl) ?_
  intro p e s m below meth c A Q hx hb hml hown hts hK hP hD hA hS fin ls hl
  have hl : lv_has ls 6 [(0, .ref a_this), (1, .ref a_this_above), (2, .int x2)] := hl
  have hown : s.vm.findClass RX0 = some m.cls := hown
  have w_X0 : ∀ w ∈ u_ws RX0 TX0 5, w ∈ wsX0_moveLastBehind := by decide +kernel
  have w_f28 := hts (.fieldLink RX0 28 "Billiardry$Exchange" "intervals" "I") (by decide +kernel)
  have L32 : ∀ (n : Nat) (z3 : Int32) (z4 : Int32) (z5 : Int32) (v_above : Nat → Int32) (H : Heap) (locs : List Loc), va_P g.1 vwCl (jw_Ex g a_this a_this_lengthOf a_this_above a_this_below a_this_met a_this_met_bits v_intervals v_lengthOf v_above v_below v_met_bits) H → va_S A s.heap H locs → ∀ (ls : Array Slot), lv_has ls 6 [(1, .ref a_this_above), (3, .int z3), (4, .int z4), (5, .int z5)] → ∀ q, jf_Ex_moveLastBehind_above_L32 z3 z4 n z5 v_above = some q → (∀ (H : Heap) (locs : List Loc), va_P g.1 vwCl (jw_Ex g a_this a_this_lengthOf a_this_above a_this_below a_this_met a_this_met_bits v_intervals v_lengthOf q v_below v_met_bits) H → va_S A s.heap H locs → ∀ ls : Array Slot, lv_has ls 6 [(1, .ref a_this_above), (3, .int z3), (4, .int z4)] → W p l e jr_Ex_moveLastBehind_above s m ([.ref a_this, .ref a_this_above, .int x2] : List Value).toArray below meth c H locs 0 0 Q (F0 m 58 ls [])) → W p l e jr_Ex_moveLastBehind_above s m ([.ref a_this, .ref a_this_above, .int x2] : List Value).toArray below meth c H locs 0 0 Q (F0 m 32 ls []) := by
    intro n z3 z4
    induction n with
    | zero =>
      intro z5 v_above H locs hP hS ls hl q hR k
      cases hR
    | succ n ih =>
      intro z5 v_above H locs hP hS ls hl q hR k
      rw [jf_Ex_moveLastBehind_above_L32] at hR
      refine lv_iload hx hb dX0_moveLastBehind_32 (lv_at hl 3 rfl) ?_
      refine lv_iload_n hx hb dX0_moveLastBehind_34 rfl (lv_at hl 1 rfl) ?_
      refine lv_icmp_le (tgt := 58) hx hb dX0_moveLastBehind_35 (by decide) (fun c_1 => ?_) (fun c_1 => ?_)
      · replace hR := Eq.trans (Eq.symm (if_pos c_1)) hR
        cases hR
        exact k _ _ hP hS _ (lv_sub hl [0, 1, 2] rfl)
      · replace hR := Eq.trans (Eq.symm (if_neg c_1)) hR
        refine lv_aload_n hx hb dX0_moveLastBehind_38 rfl (lv_at hl 0 rfl) ?_
        refine lv_iload hx hb dX0_moveLastBehind_39 (lv_at hl 3 rfl) ?_
        refine lv_aload_n hx hb dX0_moveLastBehind_41 rfl (lv_at hl 0 rfl) ?_
        refine lv_iload hx hb dX0_moveLastBehind_42 (lv_at hl 3 rfl) ?_
        refine lv_iconst (v := 1) hx hb dX0_moveLastBehind_44 (by decide) ?_
        refine lv_isub hx hb dX0_moveLastBehind_45 ?_
        refine jcall_ri (va_runSN (As := [.ref a_this_above, .int (z5 - 1)]) (rest := [.int z5, .ref a_this_above]) ⟨hx, hb, hml, hown, hts⟩ (jc_Bi_at_t l g a_this_above 6 (Nat.le_of_ble_eq_true rfl) v_above (z5 - 1) _ rfl) ⟨va_cnB 2 hts gX0_moveLastBehind_X6_at_n36 rfl rfl rfl (jN_at (q := (RX0, 36, yX6_at)) hK.2 7 rfl) (hts (.initialized RX6) (by decide +kernel)) (by decide +kernel) ⟨Nat.le_of_ble_eq_true rfl, Nat.le_of_ble_eq_true rfl⟩, hts (.static yX6_at) (by decide +kernel), trivial⟩ (jpr_s hK (hP.sub (ws' := jw_arI g a_this_above 6 v_above) [2] rfl)) rfl rfl hl.1 rfl (lv_room (Nat.le_of_ble_eq_true rfl)) dX0_moveLastBehind_46 ⟨Nat.zero_le _, Nat.zero_le _⟩) ?_
        obtain ⟨q_2, hq_2, hR⟩ := jlet_b hR
        try dsimp only at hR
        refine jcall_wv (ws' := jw_Ex g a_this a_this_lengthOf a_this_above a_this_below a_this_met a_this_met_bits v_intervals v_lengthOf q_2 v_below v_met_bits) (va_runSN (As := [.ref a_this_above, .int z5, .int (jat 6 v_above (z5 - 1))]) (rest := []) ⟨hx, hb, hml, hown, hts⟩ (jc_Bi_put_t l g a_this_above 6 (Nat.le_of_ble_eq_true rfl) v_above z5 (jat 6 v_above (z5 - 1)) _ hq_2 _) ⟨va_cnB 3 hts gX0_moveLastBehind_X6_put_n32 rfl rfl rfl (jN_at (q := (RX0, 32, yX6_put)) hK.2 6 rfl) (hts (.initialized RX6) (by decide +kernel)) (by decide +kernel) ⟨Nat.le_of_ble_eq_true rfl, Nat.le_of_ble_eq_true rfl⟩, hts (.static yX6_put) (by decide +kernel), trivial⟩ (jpw_s hK (hP.sub (ws' := jw_arI g a_this_above 6 v_above) [2] rfl) ((jD_to (ws' := jw_Ex g a_this a_this_lengthOf a_this_above a_this_below a_this_met a_this_met_bits v_intervals v_lengthOf v_above v_below v_met_bits) hD rfl).sub [2] (by decide) rfl)) rfl rfl hl.1 rfl (lv_room (Nat.le_of_ble_eq_true rfl)) dX0_moveLastBehind_49 ⟨Nat.zero_le _, Nat.zero_le _⟩) hP (jD_to hD rfl) hS hA [2] [0, 1, 3, 4, 5] [0, 1, 5, 2, 3, 4] rfl (by decide) rfl (fun H locs hP hS => ?_)
        refine lv_iinc (v := z5 + (-1)) (lv' := [(5, .int (z5 + (-1))), (1, .ref a_this_above), (3, .int z3), (4, .int z4)]) hx hb dX0_moveLastBehind_52 hl (k := 3) rfl (by first | rfl | decide) (by decide) rfl (fun ls hl => ?_)
        refine lv_goto (tgt := 32) hx hb dX0_moveLastBehind_55 (by decide) ?_
        exact ih (z5 + (-1)) q_2 _ _ hP hS _ (lv_sub hl [1, 2, 3, 0] rfl) _ hR k
  rw [jf_Ex_moveLastBehind_above] at hR
  refine lv_aload_n hx hb dX0_moveLastBehind_0 rfl (lv_at hl 1 rfl) ?_
  refine lv_aload_n hx hb dX0_moveLastBehind_1 rfl (lv_at hl 0 rfl) ?_
  refine va_get (D := g.1) (ci := 0) (v := .int v_intervals) (C := RX0) (T := TX0) (N := 5) hx hb hts w_X0 hown hK.1 hP 0 rfl rfl 4 (by decide) w_f28 (fun _ h9 => h9) rfl dX0_moveLastBehind_2 ?_
  refine lv_iload_n hx hb dX0_moveLastBehind_5 rfl (lv_at hl 2 rfl) ?_
  obtain ⟨q_1, hq_1, hR⟩ := jbind hR
  try dsimp only at hR
  refine jcall_ri (va_runSN (As := [.ref a_this_above, .int v_intervals, .int x2]) (rest := []) ⟨hx, hb, hml, hown, hts⟩ (jc_Bi_placeOf l g a_this_above 6 (Nat.le_of_ble_eq_true rfl) v_above v_intervals x2 _ hq_1) ⟨va_cnB 3 hts gX0_moveLastBehind_X6_placeOf_n47 rfl rfl rfl (jN_at (q := (RX0, 47, yX6_placeOf)) hK.2 9 rfl) (hts (.initialized RX6) (by decide +kernel)) (by decide +kernel) ⟨Nat.le_of_ble_eq_true rfl, Nat.le_of_ble_eq_true rfl⟩, hts (.static yX6_placeOf) (by decide +kernel), trivial⟩ (jpr_s hK (hP.sub (ws' := jw_arI g a_this_above 6 v_above) [2] rfl)) rfl rfl hl.1 rfl (lv_room (Nat.le_of_ble_eq_true rfl)) dX0_moveLastBehind_6 ⟨Nat.zero_le _, Nat.zero_le _⟩) ?_
  refine lv_iconst (v := 1) hx hb dX0_moveLastBehind_9 (by decide) ?_
  refine lv_iadd hx hb dX0_moveLastBehind_10 ?_
  refine jlet_i hR (fun y3_1 hR => ?_)
  try dsimp only at hR
  refine lv_istore_n (lv' := [(3, .int y3_1), (0, .ref a_this), (1, .ref a_this_above), (2, .int x2)]) hx hb dX0_moveLastBehind_11 rfl hl (by decide) rfl (fun ls hl => ?_)
  refine lv_aload_n hx hb dX0_moveLastBehind_12 rfl (lv_at hl 2 rfl) ?_
  refine lv_aload_n hx hb dX0_moveLastBehind_13 rfl (lv_at hl 1 rfl) ?_
  refine va_get (D := g.1) (ci := 0) (v := .int v_intervals) (C := RX0) (T := TX0) (N := 5) hx hb hts w_X0 hown hK.1 hP 0 rfl rfl 4 (by decide) w_f28 (fun _ h9 => h9) rfl dX0_moveLastBehind_14 ?_
  refine lv_iconst (v := 1) hx hb dX0_moveLastBehind_17 (by decide) ?_
  refine lv_isub hx hb dX0_moveLastBehind_18 ?_
  refine jcall_ri (va_runSN (As := [.ref a_this_above, .int (v_intervals - 1)]) (rest := []) ⟨hx, hb, hml, hown, hts⟩ (jc_Bi_at_t l g a_this_above 6 (Nat.le_of_ble_eq_true rfl) v_above (v_intervals - 1) _ rfl) ⟨va_cnB 2 hts gX0_moveLastBehind_X6_at_n36 rfl rfl rfl (jN_at (q := (RX0, 36, yX6_at)) hK.2 7 rfl) (hts (.initialized RX6) (by decide +kernel)) (by decide +kernel) ⟨Nat.le_of_ble_eq_true rfl, Nat.le_of_ble_eq_true rfl⟩, hts (.static yX6_at) (by decide +kernel), trivial⟩ (jpr_s hK (hP.sub (ws' := jw_arI g a_this_above 6 v_above) [2] rfl)) rfl rfl hl.1 rfl (lv_room (Nat.le_of_ble_eq_true rfl)) dX0_moveLastBehind_19 ⟨Nat.zero_le _, Nat.zero_le _⟩) ?_
  refine jlet_i hR (fun y4_1 hR => ?_)
  try dsimp only at hR
  refine lv_istore (lv' := [(4, .int y4_1), (3, .int y3_1), (0, .ref a_this), (1, .ref a_this_above), (2, .int x2)]) hx hb dX0_moveLastBehind_22 hl (by decide) rfl (fun ls hl => ?_)
  refine lv_aload_n hx hb dX0_moveLastBehind_24 rfl (lv_at hl 2 rfl) ?_
  refine va_get (D := g.1) (ci := 0) (v := .int v_intervals) (C := RX0) (T := TX0) (N := 5) hx hb hts w_X0 hown hK.1 hP 0 rfl rfl 4 (by decide) w_f28 (fun _ h9 => h9) rfl dX0_moveLastBehind_25 ?_
  refine lv_iconst (v := 1) hx hb dX0_moveLastBehind_28 (by decide) ?_
  refine lv_isub hx hb dX0_moveLastBehind_29 ?_
  refine jlet_i hR (fun y5_1 hR => ?_)
  try dsimp only at hR
  refine lv_istore (lv' := [(5, .int y5_1), (4, .int y4_1), (3, .int y3_1), (0, .ref a_this), (1, .ref a_this_above), (2, .int x2)]) hx hb dX0_moveLastBehind_30 hl (by decide) rfl (fun ls hl => ?_)
  obtain ⟨q_3, hq_3, hR⟩ := jbind hR
  try dsimp only at hR
  refine L32 jF y3_1 y4_1 y5_1 v_above _ _ hP hS _ (lv_sub hl [4, 2, 1, 0] rfl) _ hq_3 (fun H locs hP hS ls hl => ?_)
  refine lv_aload_n hx hb dX0_moveLastBehind_58 rfl (lv_at hl 0 rfl) ?_
  refine lv_iload_n hx hb dX0_moveLastBehind_59 rfl (lv_at hl 1 rfl) ?_
  refine lv_iload hx hb dX0_moveLastBehind_60 (lv_at hl 2 rfl) ?_
  obtain ⟨q_4, hq_4, hR⟩ := jlet_b hR
  try dsimp only at hR
  refine jcall_wv (ws' := jw_Ex g a_this a_this_lengthOf a_this_above a_this_below a_this_met a_this_met_bits v_intervals v_lengthOf q_4 v_below v_met_bits) (va_runSN (As := [.ref a_this_above, .int y3_1, .int y4_1]) (rest := []) ⟨hx, hb, hml, hown, hts⟩ (jc_Bi_put_t l g a_this_above 6 (Nat.le_of_ble_eq_true rfl) q_3 y3_1 y4_1 _ hq_4 _) ⟨va_cnB 3 hts gX0_moveLastBehind_X6_put_n32 rfl rfl rfl (jN_at (q := (RX0, 32, yX6_put)) hK.2 6 rfl) (hts (.initialized RX6) (by decide +kernel)) (by decide +kernel) ⟨Nat.le_of_ble_eq_true rfl, Nat.le_of_ble_eq_true rfl⟩, hts (.static yX6_put) (by decide +kernel), trivial⟩ (jpw_s hK (hP.sub (ws' := jw_arI g a_this_above 6 q_3) [2] rfl) ((jD_to (ws' := jw_Ex g a_this a_this_lengthOf a_this_above a_this_below a_this_met a_this_met_bits v_intervals v_lengthOf q_3 v_below v_met_bits) hD rfl).sub [2] (by decide) rfl)) rfl rfl hl.1 rfl (lv_room (Nat.le_of_ble_eq_true rfl)) dX0_moveLastBehind_62 ⟨Nat.zero_le _, Nat.zero_le _⟩) hP (jD_to hD rfl) hS hA [2] [0, 1, 3, 4, 5] [0, 1, 5, 2, 3, 4] rfl (by decide) rfl (fun H locs hP hS => ?_)
  obtain rfl := (Option.some.inj hR)
  exact fin _ _ _ _ hP hS dX0_moveLastBehind_65
def jf_Ex_induceOnce (v_intervals : Int32) (v_lengthOf : Nat → Int32) (v_above : Nat → Int32) (v_below : Nat → Int32) : Option ((Nat → Int32) × (Nat → Int32) × (Nat → Int32)) :=
  jlet (jat 6 v_above (v_intervals - 1)) (fun y1_1 => jlet (jat 6 v_below (v_intervals - 1)) (fun y2_1 => jlet ((jat 6 v_lengthOf y1_1) - (jat 6 v_lengthOf y2_1)) (fun y3_1 => if y3_1 ≤ 0 then (jlet (jput 6 v_lengthOf y2_1 (-y3_1)) (fun q_1 => Option.bind (jf_Ex_moveLastBehind_above v_intervals v_above y2_1) (fun q_2 => some (q_1, q_2, v_below)))) else (jlet (jput 6 v_lengthOf y1_1 y3_1) (fun q_3 => Option.bind (jf_Ex_moveLastBehind_below v_intervals v_below y1_1) (fun q_4 => some (q_3, v_above, q_4)))))))
abbrev jr_Ex_induceOnce : Room := { frames := 3, cells := 0, slots := 0, locals := 69 }
set_option maxRecDepth 100000 in
set_option maxHeartbeats 4000000 in
theorem jc_Ex_induceOnce (l : Launch) (g : jG) (a_this a_this_lengthOf a_this_above a_this_below a_this_met a_this_met_bits : Nat) (v_intervals : Int32) (v_lengthOf : Nat → Int32) (v_above : Nat → Int32) (v_below : Nat → Int32) (v_met_bits : Nat → Int64) (R : (Nat → Int32) × (Nat → Int32) × (Nat → Int32)) (hR : jf_Ex_induceOnce v_intervals v_lengthOf v_above v_below = some R) (sz : Nat) : Met l yX0_induceOnce wsX0_induceOnce jr_Ex_induceOnce (jPw g [.ref a_this] (jw_Ex g a_this a_this_lengthOf a_this_above a_this_below a_this_met a_this_met_bits v_intervals v_lengthOf v_above v_below v_met_bits) sz) (jQv g (jw_Ex g a_this a_this_lengthOf a_this_above a_this_below a_this_met a_this_met_bits v_intervals R.1 R.2.1 R.2.2 v_met_bits) (va_A (jw_Ex g a_this a_this_lengthOf a_this_above a_this_below a_this_met a_this_met_bits v_intervals v_lengthOf v_above v_below v_met_bits) sz)) 0 0 (va_A (jw_Ex g a_this a_this_lengthOf a_this_above a_this_below a_this_met a_this_met_bits v_intervals v_lengthOf v_above v_below v_met_bits) sz) := by
  refine jm_wv (cc := cX0_induceOnce) (maxL := 4) (by decide +kernel) rfl (Nat.le_of_ble_eq_true rfl) ?_
  intro p e s m below meth c A Q hx hb hml hown hts hK hP hD hA hS fin ls hl
  have hl : lv_has ls 4 [(0, .ref a_this)] := hl
  have hown : s.vm.findClass RX0 = some m.cls := hown
  have w_X0 : ∀ w ∈ u_ws RX0 TX0 5, w ∈ wsX0_induceOnce := by decide +kernel
  have w_f15 := hts (.fieldLink RX0 15 "Billiardry$Exchange" "above" "[I") (by decide +kernel)
  have w_f28 := hts (.fieldLink RX0 28 "Billiardry$Exchange" "intervals" "I") (by decide +kernel)
  have w_f18 := hts (.fieldLink RX0 18 "Billiardry$Exchange" "below" "[I") (by decide +kernel)
  have w_f9 := hts (.fieldLink RX0 9 "Billiardry$Exchange" "lengthOf" "[I") (by decide +kernel)
  rw [jf_Ex_induceOnce] at hR
  refine lv_aload_n hx hb dX0_induceOnce_0 rfl (lv_at hl 0 rfl) ?_
  refine va_get (D := g.1) (ci := 0) (v := .ref a_this_above) (C := RX0) (T := TX0) (N := 5) hx hb hts w_X0 hown hK.1 hP 0 rfl rfl 1 (by decide) w_f15 (fun _ h9 => h9) rfl dX0_induceOnce_1 ?_
  refine lv_aload_n hx hb dX0_induceOnce_4 rfl (lv_at hl 0 rfl) ?_
  refine va_get (D := g.1) (ci := 0) (v := .int v_intervals) (C := RX0) (T := TX0) (N := 5) hx hb hts w_X0 hown hK.1 hP 0 rfl rfl 4 (by decide) w_f28 (fun _ h9 => h9) rfl dX0_induceOnce_5 ?_
  refine lv_iconst (v := 1) hx hb dX0_induceOnce_8 (by decide) ?_
  refine lv_isub hx hb dX0_induceOnce_9 ?_
  refine jcall_ri (va_runSN (As := [.ref a_this_above, .int (v_intervals - 1)]) (rest := []) ⟨hx, hb, hml, hown, hts⟩ (jc_Bi_at_t l g a_this_above 6 (Nat.le_of_ble_eq_true rfl) v_above (v_intervals - 1) _ rfl) ⟨va_cnB 2 hts gX0_induceOnce_X6_at_n36 rfl rfl rfl (jN_at (q := (RX0, 36, yX6_at)) hK.2 7 rfl) (hts (.initialized RX6) (by decide +kernel)) (by decide +kernel) ⟨Nat.le_of_ble_eq_true rfl, Nat.le_of_ble_eq_true rfl⟩, hts (.static yX6_at) (by decide +kernel), trivial⟩ (jpr_s hK (hP.sub (ws' := jw_arI g a_this_above 6 v_above) [2] rfl)) rfl rfl hl.1 rfl (lv_room (Nat.le_of_ble_eq_true rfl)) dX0_induceOnce_10 ⟨Nat.zero_le _, Nat.zero_le _⟩) ?_
  refine jlet_i hR (fun y1_1 hR => ?_)
  try dsimp only at hR
  refine lv_istore_n (lv' := [(1, .int y1_1), (0, .ref a_this)]) hx hb dX0_induceOnce_13 rfl hl (by decide) rfl (fun ls hl => ?_)
  refine lv_aload_n hx hb dX0_induceOnce_14 rfl (lv_at hl 1 rfl) ?_
  refine va_get (D := g.1) (ci := 0) (v := .ref a_this_below) (C := RX0) (T := TX0) (N := 5) hx hb hts w_X0 hown hK.1 hP 0 rfl rfl 2 (by decide) w_f18 (fun _ h9 => h9) rfl dX0_induceOnce_15 ?_
  refine lv_aload_n hx hb dX0_induceOnce_18 rfl (lv_at hl 1 rfl) ?_
  refine va_get (D := g.1) (ci := 0) (v := .int v_intervals) (C := RX0) (T := TX0) (N := 5) hx hb hts w_X0 hown hK.1 hP 0 rfl rfl 4 (by decide) w_f28 (fun _ h9 => h9) rfl dX0_induceOnce_19 ?_
  refine lv_iconst (v := 1) hx hb dX0_induceOnce_22 (by decide) ?_
  refine lv_isub hx hb dX0_induceOnce_23 ?_
  refine jcall_ri (va_runSN (As := [.ref a_this_below, .int (v_intervals - 1)]) (rest := []) ⟨hx, hb, hml, hown, hts⟩ (jc_Bi_at_t l g a_this_below 6 (Nat.le_of_ble_eq_true rfl) v_below (v_intervals - 1) _ rfl) ⟨va_cnB 2 hts gX0_induceOnce_X6_at_n36 rfl rfl rfl (jN_at (q := (RX0, 36, yX6_at)) hK.2 7 rfl) (hts (.initialized RX6) (by decide +kernel)) (by decide +kernel) ⟨Nat.le_of_ble_eq_true rfl, Nat.le_of_ble_eq_true rfl⟩, hts (.static yX6_at) (by decide +kernel), trivial⟩ (jpr_s hK (hP.sub (ws' := jw_arI g a_this_below 6 v_below) [3] rfl)) rfl rfl hl.1 rfl (lv_room (Nat.le_of_ble_eq_true rfl)) dX0_induceOnce_24 ⟨Nat.zero_le _, Nat.zero_le _⟩) ?_
  refine jlet_i hR (fun y2_1 hR => ?_)
  try dsimp only at hR
  refine lv_istore_n (lv' := [(2, .int y2_1), (1, .int y1_1), (0, .ref a_this)]) hx hb dX0_induceOnce_27 rfl hl (by decide) rfl (fun ls hl => ?_)
  refine lv_aload_n hx hb dX0_induceOnce_28 rfl (lv_at hl 2 rfl) ?_
  refine va_get (D := g.1) (ci := 0) (v := .ref a_this_lengthOf) (C := RX0) (T := TX0) (N := 5) hx hb hts w_X0 hown hK.1 hP 0 rfl rfl 0 (by decide) w_f9 (fun _ h9 => h9) rfl dX0_induceOnce_29 ?_
  refine lv_iload_n hx hb dX0_induceOnce_32 rfl (lv_at hl 1 rfl) ?_
  refine jcall_ri (va_runSN (As := [.ref a_this_lengthOf, .int y1_1]) (rest := []) ⟨hx, hb, hml, hown, hts⟩ (jc_Bi_at_t l g a_this_lengthOf 6 (Nat.le_of_ble_eq_true rfl) v_lengthOf y1_1 _ rfl) ⟨va_cnB 2 hts gX0_induceOnce_X6_at_n36 rfl rfl rfl (jN_at (q := (RX0, 36, yX6_at)) hK.2 7 rfl) (hts (.initialized RX6) (by decide +kernel)) (by decide +kernel) ⟨Nat.le_of_ble_eq_true rfl, Nat.le_of_ble_eq_true rfl⟩, hts (.static yX6_at) (by decide +kernel), trivial⟩ (jpr_s hK (hP.sub (ws' := jw_arI g a_this_lengthOf 6 v_lengthOf) [1] rfl)) rfl rfl hl.1 rfl (lv_room (Nat.le_of_ble_eq_true rfl)) dX0_induceOnce_33 ⟨Nat.zero_le _, Nat.zero_le _⟩) ?_
  refine lv_aload_n hx hb dX0_induceOnce_36 rfl (lv_at hl 2 rfl) ?_
  refine va_get (D := g.1) (ci := 0) (v := .ref a_this_lengthOf) (C := RX0) (T := TX0) (N := 5) hx hb hts w_X0 hown hK.1 hP 0 rfl rfl 0 (by decide) w_f9 (fun _ h9 => h9) rfl dX0_induceOnce_37 ?_
  refine lv_iload_n hx hb dX0_induceOnce_40 rfl (lv_at hl 0 rfl) ?_
  refine jcall_ri (va_runSN (As := [.ref a_this_lengthOf, .int y2_1]) (rest := [.int (jat 6 v_lengthOf y1_1)]) ⟨hx, hb, hml, hown, hts⟩ (jc_Bi_at_t l g a_this_lengthOf 6 (Nat.le_of_ble_eq_true rfl) v_lengthOf y2_1 _ rfl) ⟨va_cnB 2 hts gX0_induceOnce_X6_at_n36 rfl rfl rfl (jN_at (q := (RX0, 36, yX6_at)) hK.2 7 rfl) (hts (.initialized RX6) (by decide +kernel)) (by decide +kernel) ⟨Nat.le_of_ble_eq_true rfl, Nat.le_of_ble_eq_true rfl⟩, hts (.static yX6_at) (by decide +kernel), trivial⟩ (jpr_s hK (hP.sub (ws' := jw_arI g a_this_lengthOf 6 v_lengthOf) [1] rfl)) rfl rfl hl.1 rfl (lv_room (Nat.le_of_ble_eq_true rfl)) dX0_induceOnce_41 ⟨Nat.zero_le _, Nat.zero_le _⟩) ?_
  refine lv_isub hx hb dX0_induceOnce_44 ?_
  refine jlet_i hR (fun y3_1 hR => ?_)
  try dsimp only at hR
  refine lv_istore_n (lv' := [(3, .int y3_1), (2, .int y2_1), (1, .int y1_1), (0, .ref a_this)]) hx hb dX0_induceOnce_45 rfl hl (by decide) rfl (fun ls hl => ?_)
  refine lv_iload_n hx hb dX0_induceOnce_46 rfl (lv_at hl 0 rfl) ?_
  refine lv_if_le (tgt := 71) hx hb dX0_induceOnce_47 (by decide) (fun c_1 => ?_) (fun c_1 => ?_)
  · replace hR := Eq.trans (Eq.symm (if_pos c_1)) hR
    refine lv_aload_n hx hb dX0_induceOnce_71 rfl (lv_at hl 3 rfl) ?_
    refine va_get (D := g.1) (ci := 0) (v := .ref a_this_lengthOf) (C := RX0) (T := TX0) (N := 5) hx hb hts w_X0 hown hK.1 hP 0 rfl rfl 0 (by decide) w_f9 (fun _ h9 => h9) rfl dX0_induceOnce_72 ?_
    refine lv_iload_n hx hb dX0_induceOnce_75 rfl (lv_at hl 1 rfl) ?_
    refine lv_iload_n hx hb dX0_induceOnce_76 rfl (lv_at hl 0 rfl) ?_
    refine lv_ineg hx hb dX0_induceOnce_77 ?_
    obtain ⟨q_1, hq_1, hR⟩ := jlet_b hR
    try dsimp only at hR
    refine jcall_wv (ws' := jw_Ex g a_this a_this_lengthOf a_this_above a_this_below a_this_met a_this_met_bits v_intervals q_1 v_above v_below v_met_bits) (va_runSN (As := [.ref a_this_lengthOf, .int y2_1, .int (-y3_1)]) (rest := []) ⟨hx, hb, hml, hown, hts⟩ (jc_Bi_put_t l g a_this_lengthOf 6 (Nat.le_of_ble_eq_true rfl) v_lengthOf y2_1 (-y3_1) _ hq_1 _) ⟨va_cnB 3 hts gX0_induceOnce_X6_put_n32 rfl rfl rfl (jN_at (q := (RX0, 32, yX6_put)) hK.2 6 rfl) (hts (.initialized RX6) (by decide +kernel)) (by decide +kernel) ⟨Nat.le_of_ble_eq_true rfl, Nat.le_of_ble_eq_true rfl⟩, hts (.static yX6_put) (by decide +kernel), trivial⟩ (jpw_s hK (hP.sub (ws' := jw_arI g a_this_lengthOf 6 v_lengthOf) [1] rfl) ((jD_to (ws' := jw_Ex g a_this a_this_lengthOf a_this_above a_this_below a_this_met a_this_met_bits v_intervals v_lengthOf v_above v_below v_met_bits) hD rfl).sub [1] (by decide) rfl)) rfl rfl hl.1 rfl (lv_room (Nat.le_of_ble_eq_true rfl)) dX0_induceOnce_78 ⟨Nat.zero_le _, Nat.zero_le _⟩) hP (jD_to hD rfl) hS hA [1] [0, 2, 3, 4, 5] [0, 5, 1, 2, 3, 4] rfl (by decide) rfl (fun H locs hP hS => ?_)
    refine lv_aload_n hx hb dX0_induceOnce_81 rfl (lv_at hl 3 rfl) ?_
    refine lv_aload_n hx hb dX0_induceOnce_82 rfl (lv_at hl 3 rfl) ?_
    refine va_get (D := g.1) (ci := 0) (v := .ref a_this_above) (C := RX0) (T := TX0) (N := 5) hx hb hts w_X0 hown hK.1 hP 0 rfl rfl 1 (by decide) w_f15 (fun _ h9 => h9) rfl dX0_induceOnce_83 ?_
    refine lv_iload_n hx hb dX0_induceOnce_86 rfl (lv_at hl 1 rfl) ?_
    obtain ⟨q_2, hq_2, hR⟩ := jbind hR
    try dsimp only at hR
    refine jcall_wv (ws' := jw_Ex g a_this a_this_lengthOf a_this_above a_this_below a_this_met a_this_met_bits v_intervals q_1 q_2 v_below v_met_bits) (va_runV (As := [.ref a_this_above, .int y2_1]) (rest := []) ⟨hx, hb, hml, hown, hts⟩ (jc_Ex_moveLastBehind_above l g a_this a_this_lengthOf a_this_above a_this_below a_this_met a_this_met_bits v_intervals q_1 v_above v_below v_met_bits y2_1 _ hq_2 _) (cwV 2 hts gX0_induceOnce_X0_moveLastBehind rfl rfl rfl (by decide +kernel) ⟨Nat.le_of_ble_eq_true rfl, Nat.le_of_ble_eq_true rfl⟩) (jpw_v hK hP (jD_to hD rfl) (ci := 0) (q0 := 0) rfl rfl) rfl rfl hl.1 rfl (lv_room (Nat.le_of_ble_eq_true rfl)) dX0_induceOnce_87 ⟨Nat.zero_le _, Nat.zero_le _⟩) hP (jD_to hD rfl) hS hA [0, 1, 2, 3, 4, 5] [] [0, 1, 2, 3, 4, 5] rfl (by decide) rfl (fun H locs hP hS => ?_)
    obtain rfl := (Option.some.inj hR)
    exact fin _ _ _ _ hP hS dX0_induceOnce_90
  · replace hR := Eq.trans (Eq.symm (if_neg c_1)) hR
    refine lv_aload_n hx hb dX0_induceOnce_50 rfl (lv_at hl 3 rfl) ?_
    refine va_get (D := g.1) (ci := 0) (v := .ref a_this_lengthOf) (C := RX0) (T := TX0) (N := 5) hx hb hts w_X0 hown hK.1 hP 0 rfl rfl 0 (by decide) w_f9 (fun _ h9 => h9) rfl dX0_induceOnce_51 ?_
    refine lv_iload_n hx hb dX0_induceOnce_54 rfl (lv_at hl 2 rfl) ?_
    refine lv_iload_n hx hb dX0_induceOnce_55 rfl (lv_at hl 0 rfl) ?_
    obtain ⟨q_3, hq_3, hR⟩ := jlet_b hR
    try dsimp only at hR
    refine jcall_wv (ws' := jw_Ex g a_this a_this_lengthOf a_this_above a_this_below a_this_met a_this_met_bits v_intervals q_3 v_above v_below v_met_bits) (va_runSN (As := [.ref a_this_lengthOf, .int y1_1, .int y3_1]) (rest := []) ⟨hx, hb, hml, hown, hts⟩ (jc_Bi_put_t l g a_this_lengthOf 6 (Nat.le_of_ble_eq_true rfl) v_lengthOf y1_1 y3_1 _ hq_3 _) ⟨va_cnB 3 hts gX0_induceOnce_X6_put_n32 rfl rfl rfl (jN_at (q := (RX0, 32, yX6_put)) hK.2 6 rfl) (hts (.initialized RX6) (by decide +kernel)) (by decide +kernel) ⟨Nat.le_of_ble_eq_true rfl, Nat.le_of_ble_eq_true rfl⟩, hts (.static yX6_put) (by decide +kernel), trivial⟩ (jpw_s hK (hP.sub (ws' := jw_arI g a_this_lengthOf 6 v_lengthOf) [1] rfl) ((jD_to (ws' := jw_Ex g a_this a_this_lengthOf a_this_above a_this_below a_this_met a_this_met_bits v_intervals v_lengthOf v_above v_below v_met_bits) hD rfl).sub [1] (by decide) rfl)) rfl rfl hl.1 rfl (lv_room (Nat.le_of_ble_eq_true rfl)) dX0_induceOnce_56 ⟨Nat.zero_le _, Nat.zero_le _⟩) hP (jD_to hD rfl) hS hA [1] [0, 2, 3, 4, 5] [0, 5, 1, 2, 3, 4] rfl (by decide) rfl (fun H locs hP hS => ?_)
    refine lv_aload_n hx hb dX0_induceOnce_59 rfl (lv_at hl 3 rfl) ?_
    refine lv_aload_n hx hb dX0_induceOnce_60 rfl (lv_at hl 3 rfl) ?_
    refine va_get (D := g.1) (ci := 0) (v := .ref a_this_below) (C := RX0) (T := TX0) (N := 5) hx hb hts w_X0 hown hK.1 hP 0 rfl rfl 2 (by decide) w_f18 (fun _ h9 => h9) rfl dX0_induceOnce_61 ?_
    refine lv_iload_n hx hb dX0_induceOnce_64 rfl (lv_at hl 2 rfl) ?_
    obtain ⟨q_4, hq_4, hR⟩ := jbind hR
    try dsimp only at hR
    refine jcall_wv (ws' := jw_Ex g a_this a_this_lengthOf a_this_above a_this_below a_this_met a_this_met_bits v_intervals q_3 v_above q_4 v_met_bits) (va_runV (As := [.ref a_this_below, .int y1_1]) (rest := []) ⟨hx, hb, hml, hown, hts⟩ (jc_Ex_moveLastBehind_below l g a_this a_this_lengthOf a_this_above a_this_below a_this_met a_this_met_bits v_intervals q_3 v_above v_below v_met_bits y1_1 _ hq_4 _) (cwV 2 hts gX0_induceOnce_X0_moveLastBehind rfl rfl rfl (by decide +kernel) ⟨Nat.le_of_ble_eq_true rfl, Nat.le_of_ble_eq_true rfl⟩) (jpw_v hK hP (jD_to hD rfl) (ci := 0) (q0 := 0) rfl rfl) rfl rfl hl.1 rfl (lv_room (Nat.le_of_ble_eq_true rfl)) dX0_induceOnce_65 ⟨Nat.zero_le _, Nat.zero_le _⟩) hP (jD_to hD rfl) hS hA [0, 1, 2, 3, 4, 5] [] [0, 1, 2, 3, 4, 5] rfl (by decide) rfl (fun H locs hP hS => ?_)
    refine lv_goto (tgt := 90) hx hb dX0_induceOnce_68 (by decide) ?_
    obtain rfl := (Option.some.inj hR)
    exact fin _ _ _ _ hP hS dX0_induceOnce_90
def jf_Ex_beginIn_below_L5 (v_intervals : Int32) (v_lengthOf : Nat → Int32) (v_below : Nat → Int32) (z2 : Int32) : Nat → Int32 → Int32 → Option Int32
  | 0, _, _ => none
  | n + 1, z3, z4 =>
    if v_intervals ≤ z4 then (some z3) else (if (jat 6 v_below z4) = z2 then (some z3) else (jlet (z3 + (jat 6 v_lengthOf (jat 6 v_below z4))) (fun y3_1 => (jf_Ex_beginIn_below_L5 v_intervals v_lengthOf v_below z2 n) y3_1 (z4 + 1))))
def jf_Ex_beginIn_below (v_intervals : Int32) (v_lengthOf : Nat → Int32) (v_below : Nat → Int32) (x2 : Int32) : Option Int32 :=
  Option.bind (jf_Ex_beginIn_below_L5 v_intervals v_lengthOf v_below x2 jF 0 0) (fun q_1 => some q_1)
abbrev jr_Ex_beginIn_below : Room := { frames := 1, cells := 0, slots := 0, locals := 21 }
set_option maxRecDepth 100000 in
set_option maxHeartbeats 4000000 in
theorem jc_Ex_beginIn_below (l : Launch) (g : jG) (a_this a_this_lengthOf a_this_above a_this_below a_this_met a_this_met_bits : Nat) (v_intervals : Int32) (v_lengthOf : Nat → Int32) (v_above : Nat → Int32) (v_below : Nat → Int32) (v_met_bits : Nat → Int64) (x2 : Int32) (R : Int32) (hR : jf_Ex_beginIn_below v_intervals v_lengthOf v_below x2 = some R) : Met l yX0_beginIn wsX0_beginIn jr_Ex_beginIn_below (jPr g [.ref a_this, .ref a_this_below, .int x2] (jw_Ex g a_this a_this_lengthOf a_this_above a_this_below a_this_met a_this_met_bits v_intervals v_lengthOf v_above v_below v_met_bits)) (vp_Si (fun r => r = R)) 0 0 (fun _ => False) := by
  refine jm_ri (cc := cX0_beginIn) (maxL := 5) (by decide +kernel) rfl (Nat.le_of_ble_eq_true rfl) ?_
  intro p e s m below meth c Q hx hb hml hown hts hK hP fin ls hl
  have hl : lv_has ls 5 [(0, .ref a_this), (1, .ref a_this_below), (2, .int x2)] := hl
  have hown : s.vm.findClass RX0 = some m.cls := hown
  have w_X0 : ∀ w ∈ u_ws RX0 TX0 5, w ∈ wsX0_beginIn := by decide +kernel
  have w_f28 := hts (.fieldLink RX0 28 "Billiardry$Exchange" "intervals" "I") (by decide +kernel)
  have w_f9 := hts (.fieldLink RX0 9 "Billiardry$Exchange" "lengthOf" "[I") (by decide +kernel)
  have L5 : ∀ (n : Nat) (z2 : Int32) (z3 : Int32) (z4 : Int32) (ls : Array Slot), lv_has ls 5 [(0, .ref a_this), (1, .ref a_this_below), (2, .int z2), (3, .int z3), (4, .int z4)] → ∀ q, jf_Ex_beginIn_below_L5 v_intervals v_lengthOf v_below z2 n z3 z4 = some q → (∀ ls : Array Slot, lv_has ls 5 [(3, .int q)] → W p l e jr_Ex_beginIn_below s m ([.ref a_this, .ref a_this_below, .int x2] : List Value).toArray below meth c s.heap [] 0 0 Q (F0 m 46 ls [])) → W p l e jr_Ex_beginIn_below s m ([.ref a_this, .ref a_this_below, .int x2] : List Value).toArray below meth c s.heap [] 0 0 Q (F0 m 5 ls []) := by
    intro n z2
    induction n with
    | zero =>
      intro z3 z4 ls hl q hR k
      cases hR
    | succ n ih =>
      intro z3 z4 ls hl q hR k
      rw [jf_Ex_beginIn_below_L5] at hR
      refine lv_iload hx hb dX0_beginIn_5 (lv_at hl 4 rfl) ?_
      refine lv_aload_n hx hb dX0_beginIn_7 rfl (lv_at hl 0 rfl) ?_
      refine va_get (D := g.1) (ci := 0) (v := .int v_intervals) (C := RX0) (T := TX0) (N := 5) hx hb hts w_X0 hown hK.1 hP 0 rfl rfl 4 (by decide) w_f28 (fun _ h9 => h9) rfl dX0_beginIn_8 ?_
      refine lv_icmp_ge (tgt := 46) hx hb dX0_beginIn_11 (by decide) (fun c_1 => ?_) (fun c_1 => ?_)
      · replace hR := Eq.trans (Eq.symm (if_pos c_1)) hR
        cases hR
        exact k _ (lv_sub hl [3] rfl)
      · replace hR := Eq.trans (Eq.symm (if_neg c_1)) hR
        refine lv_aload_n hx hb dX0_beginIn_14 rfl (lv_at hl 1 rfl) ?_
        refine lv_iload hx hb dX0_beginIn_15 (lv_at hl 4 rfl) ?_
        refine jcall_ri (va_runSN (As := [.ref a_this_below, .int z4]) (rest := []) ⟨hx, hb, hml, hown, hts⟩ (jc_Bi_at_t l g a_this_below 6 (Nat.le_of_ble_eq_true rfl) v_below z4 _ rfl) ⟨va_cnB 2 hts gX0_beginIn_X6_at_n36 rfl rfl rfl (jN_at (q := (RX0, 36, yX6_at)) hK.2 7 rfl) (hts (.initialized RX6) (by decide +kernel)) (by decide +kernel) ⟨Nat.le_of_ble_eq_true rfl, Nat.le_of_ble_eq_true rfl⟩, hts (.static yX6_at) (by decide +kernel), trivial⟩ (jpr_s hK (hP.sub (ws' := jw_arI g a_this_below 6 v_below) [3] rfl)) rfl rfl hl.1 rfl (lv_room (Nat.le_of_ble_eq_true rfl)) dX0_beginIn_17 ⟨Nat.zero_le _, Nat.zero_le _⟩) ?_
        refine lv_iload_n hx hb dX0_beginIn_20 rfl (lv_at hl 2 rfl) ?_
        refine lv_icmp_eq (tgt := 46) hx hb dX0_beginIn_21 (by decide) (fun c_2 => ?_) (fun c_2 => ?_)
        · replace hR := Eq.trans (Eq.symm (if_pos c_2)) hR
          cases hR
          exact k _ (lv_sub hl [3] rfl)
        · replace hR := Eq.trans (Eq.symm (if_neg c_2)) hR
          refine lv_iload_n hx hb dX0_beginIn_24 rfl (lv_at hl 3 rfl) ?_
          refine lv_aload_n hx hb dX0_beginIn_25 rfl (lv_at hl 0 rfl) ?_
          refine va_get (D := g.1) (ci := 0) (v := .ref a_this_lengthOf) (C := RX0) (T := TX0) (N := 5) hx hb hts w_X0 hown hK.1 hP 0 rfl rfl 0 (by decide) w_f9 (fun _ h9 => h9) rfl dX0_beginIn_26 ?_
          refine lv_aload_n hx hb dX0_beginIn_29 rfl (lv_at hl 1 rfl) ?_
          refine lv_iload hx hb dX0_beginIn_30 (lv_at hl 4 rfl) ?_
          refine jcall_ri (va_runSN (As := [.ref a_this_below, .int z4]) (rest := [.ref a_this_lengthOf, .int z3]) ⟨hx, hb, hml, hown, hts⟩ (jc_Bi_at_t l g a_this_below 6 (Nat.le_of_ble_eq_true rfl) v_below z4 _ rfl) ⟨va_cnB 2 hts gX0_beginIn_X6_at_n36 rfl rfl rfl (jN_at (q := (RX0, 36, yX6_at)) hK.2 7 rfl) (hts (.initialized RX6) (by decide +kernel)) (by decide +kernel) ⟨Nat.le_of_ble_eq_true rfl, Nat.le_of_ble_eq_true rfl⟩, hts (.static yX6_at) (by decide +kernel), trivial⟩ (jpr_s hK (hP.sub (ws' := jw_arI g a_this_below 6 v_below) [3] rfl)) rfl rfl hl.1 rfl (lv_room (Nat.le_of_ble_eq_true rfl)) dX0_beginIn_32 ⟨Nat.zero_le _, Nat.zero_le _⟩) ?_
          refine jcall_ri (va_runSN (As := [.ref a_this_lengthOf, .int (jat 6 v_below z4)]) (rest := [.int z3]) ⟨hx, hb, hml, hown, hts⟩ (jc_Bi_at_t l g a_this_lengthOf 6 (Nat.le_of_ble_eq_true rfl) v_lengthOf (jat 6 v_below z4) _ rfl) ⟨va_cnB 2 hts gX0_beginIn_X6_at_n36 rfl rfl rfl (jN_at (q := (RX0, 36, yX6_at)) hK.2 7 rfl) (hts (.initialized RX6) (by decide +kernel)) (by decide +kernel) ⟨Nat.le_of_ble_eq_true rfl, Nat.le_of_ble_eq_true rfl⟩, hts (.static yX6_at) (by decide +kernel), trivial⟩ (jpr_s hK (hP.sub (ws' := jw_arI g a_this_lengthOf 6 v_lengthOf) [1] rfl)) rfl rfl hl.1 rfl (lv_room (Nat.le_of_ble_eq_true rfl)) dX0_beginIn_35 ⟨Nat.zero_le _, Nat.zero_le _⟩) ?_
          refine lv_iadd hx hb dX0_beginIn_38 ?_
          refine jlet_i hR (fun y3_1 hR => ?_)
          try dsimp only at hR
          refine lv_istore_n (lv' := [(3, .int y3_1), (0, .ref a_this), (1, .ref a_this_below), (2, .int z2), (4, .int z4)]) hx hb dX0_beginIn_39 rfl hl (by decide) rfl (fun ls hl => ?_)
          refine lv_iinc (v := z4 + 1) (lv' := [(4, .int (z4 + 1)), (3, .int y3_1), (0, .ref a_this), (1, .ref a_this_below), (2, .int z2)]) hx hb dX0_beginIn_40 hl (k := 4) rfl (by first | rfl | decide) (by decide) rfl (fun ls hl => ?_)
          refine lv_goto (tgt := 5) hx hb dX0_beginIn_43 (by decide) ?_
          exact ih y3_1 (z4 + 1) _ (lv_sub hl [2, 3, 4, 1, 0] rfl) _ hR k
  rw [jf_Ex_beginIn_below] at hR
  refine lv_iconst (v := 0) hx hb dX0_beginIn_0 (by decide) ?_
  refine lv_istore_n (lv' := [(3, .int 0), (0, .ref a_this), (1, .ref a_this_below), (2, .int x2)]) hx hb dX0_beginIn_1 rfl hl (by decide) rfl (fun ls hl => ?_)
  refine lv_iconst (v := 0) hx hb dX0_beginIn_2 (by decide) ?_
  refine lv_istore (lv' := [(4, .int 0), (3, .int 0), (0, .ref a_this), (1, .ref a_this_below), (2, .int x2)]) hx hb dX0_beginIn_3 hl (by decide) rfl (fun ls hl => ?_)
  obtain ⟨q_1, hq_1, hR⟩ := jbind hR
  try dsimp only at hR
  refine L5 jF x2 0 0 _ (lv_sub hl [2, 3, 4, 1, 0] rfl) _ hq_1 (fun ls hl => ?_)
  refine lv_iload_n hx hb dX0_beginIn_46 rfl (lv_at hl 0 rfl) ?_
  exact fin _ _ _ (Option.some.inj hR) dX0_beginIn_47
def jf_Ex_carried_above_below_L6 (v_intervals : Int32) (v_lengthOf : Nat → Int32) (v_above : Nat → Int32) (z1 : Int32) : Nat → Int32 → Int32 → Option ((Int32 × Int32) ⊕ Unit)
  | 0, _, _ => none
  | n + 1, z4, z5 =>
    if v_intervals ≤ z5 then (some (.inr ())) else (jlet (jat 6 v_above z5) (fun y6_1 => jlet (z4 + (jat 6 v_lengthOf y6_1)) (fun y7_1 => if y7_1 ≤ z1 then ((jf_Ex_carried_above_below_L6 v_intervals v_lengthOf v_above z1 n) y7_1 (z5 + 1)) else (some (.inl (z4, y6_1))))))
def jf_Ex_carried_above_below (v_intervals : Int32) (v_lengthOf : Nat → Int32) (v_above : Nat → Int32) (v_below : Nat → Int32) (x1 : Int32) : Option Int32 :=
  Option.bind (jf_Ex_carried_above_below_L6 v_intervals v_lengthOf v_above x1 jF 0 0) (fun q_1 => jsum (fun o_1 => Option.bind (jf_Ex_beginIn_below v_intervals v_lengthOf v_below o_1.2) (fun q_2 => some ((q_2 + x1) - o_1.1))) (fun o_2 => some x1) q_1)
abbrev jr_Ex_carried_above_below : Room := { frames := 2, cells := 0, slots := 0, locals := 45 }
set_option maxRecDepth 100000 in
set_option maxHeartbeats 4000000 in
theorem jc_Ex_carried_above_below (l : Launch) (g : jG) (a_this a_this_lengthOf a_this_above a_this_below a_this_met a_this_met_bits : Nat) (v_intervals : Int32) (v_lengthOf : Nat → Int32) (v_above : Nat → Int32) (v_below : Nat → Int32) (v_met_bits : Nat → Int64) (x1 : Int32) (R : Int32) (hR : jf_Ex_carried_above_below v_intervals v_lengthOf v_above v_below x1 = some R) : Met l yX0_carried wsX0_carried jr_Ex_carried_above_below (jPr g [.ref a_this, .int x1, .ref a_this_above, .ref a_this_below] (jw_Ex g a_this a_this_lengthOf a_this_above a_this_below a_this_met a_this_met_bits v_intervals v_lengthOf v_above v_below v_met_bits)) (vp_Si (fun r => r = R)) 0 0 (fun _ => False) := by
  refine jm_ri (cc := cX0_carried) (maxL := 8) (by decide +kernel) rfl (Nat.le_of_ble_eq_true rfl) ?_
  intro p e s m below meth c Q hx hb hml hown hts hK hP fin ls hl
  have hl : lv_has ls 8 [(0, .ref a_this), (1, .int x1), (2, .ref a_this_above), (3, .ref a_this_below)] := hl
  have hown : s.vm.findClass RX0 = some m.cls := hown
  have w_X0 : ∀ w ∈ u_ws RX0 TX0 5, w ∈ wsX0_carried := by decide +kernel
  have w_f28 := hts (.fieldLink RX0 28 "Billiardry$Exchange" "intervals" "I") (by decide +kernel)
  have w_f9 := hts (.fieldLink RX0 9 "Billiardry$Exchange" "lengthOf" "[I") (by decide +kernel)
  have L6 : ∀ (n : Nat) (z1 : Int32) (z4 : Int32) (z5 : Int32) (ls : Array Slot), lv_has ls 8 [(0, .ref a_this), (1, .int z1), (2, .ref a_this_above), (3, .ref a_this_below), (4, .int z4), (5, .int z5)] → ∀ q, jf_Ex_carried_above_below_L6 v_intervals v_lengthOf v_above z1 n z4 z5 = some q → ((∀ o, q = .inl o → ∀ ls : Array Slot, lv_has ls 8 [(0, .ref a_this), (1, .int z1), (3, .ref a_this_below), (4, .int o.1), (6, .int o.2)] → W p l e jr_Ex_carried_above_below s m ([.ref a_this, .int x1, .ref a_this_above, .ref a_this_below] : List Value).toArray below meth c s.heap [] 0 0 Q (F0 m 43 ls [])) ∧ (∀ o, q = .inr o → ∀ ls : Array Slot, lv_has ls 8 [(1, .int z1)] → W p l e jr_Ex_carried_above_below s m ([.ref a_this, .int x1, .ref a_this_above, .ref a_this_below] : List Value).toArray below meth c s.heap [] 0 0 Q (F0 m 66 ls []))) → W p l e jr_Ex_carried_above_below s m ([.ref a_this, .int x1, .ref a_this_above, .ref a_this_below] : List Value).toArray below meth c s.heap [] 0 0 Q (F0 m 6 ls []) := by
    intro n z1
    induction n with
    | zero =>
      intro z4 z5 ls hl q hR k
      cases hR
    | succ n ih =>
      intro z4 z5 ls hl q hR k
      rw [jf_Ex_carried_above_below_L6] at hR
      refine lv_iload hx hb dX0_carried_6 (lv_at hl 5 rfl) ?_
      refine lv_aload_n hx hb dX0_carried_8 rfl (lv_at hl 0 rfl) ?_
      refine va_get (D := g.1) (ci := 0) (v := .int v_intervals) (C := RX0) (T := TX0) (N := 5) hx hb hts w_X0 hown hK.1 hP 0 rfl rfl 4 (by decide) w_f28 (fun _ h9 => h9) rfl dX0_carried_9 ?_
      refine lv_icmp_ge (tgt := 66) hx hb dX0_carried_12 (by decide) (fun c_1 => ?_) (fun c_1 => ?_)
      · replace hR := Eq.trans (Eq.symm (if_pos c_1)) hR
        cases hR
        exact k.2 _ rfl _ (lv_sub hl [1] rfl)
      · replace hR := Eq.trans (Eq.symm (if_neg c_1)) hR
        refine lv_aload_n hx hb dX0_carried_15 rfl (lv_at hl 2 rfl) ?_
        refine lv_iload hx hb dX0_carried_16 (lv_at hl 5 rfl) ?_
        refine jcall_ri (va_runSN (As := [.ref a_this_above, .int z5]) (rest := []) ⟨hx, hb, hml, hown, hts⟩ (jc_Bi_at_t l g a_this_above 6 (Nat.le_of_ble_eq_true rfl) v_above z5 _ rfl) ⟨va_cnB 2 hts gX0_carried_X6_at_n36 rfl rfl rfl (jN_at (q := (RX0, 36, yX6_at)) hK.2 7 rfl) (hts (.initialized RX6) (by decide +kernel)) (by decide +kernel) ⟨Nat.le_of_ble_eq_true rfl, Nat.le_of_ble_eq_true rfl⟩, hts (.static yX6_at) (by decide +kernel), trivial⟩ (jpr_s hK (hP.sub (ws' := jw_arI g a_this_above 6 v_above) [2] rfl)) rfl rfl hl.1 rfl (lv_room (Nat.le_of_ble_eq_true rfl)) dX0_carried_18 ⟨Nat.zero_le _, Nat.zero_le _⟩) ?_
        refine jlet_i hR (fun y6_1 hR => ?_)
        try dsimp only at hR
        refine lv_istore (lv' := [(6, .int y6_1), (0, .ref a_this), (1, .int z1), (2, .ref a_this_above), (3, .ref a_this_below), (4, .int z4), (5, .int z5)]) hx hb dX0_carried_21 hl (by decide) rfl (fun ls hl => ?_)
        refine lv_iload hx hb dX0_carried_23 (lv_at hl 5 rfl) ?_
        refine lv_aload_n hx hb dX0_carried_25 rfl (lv_at hl 1 rfl) ?_
        refine va_get (D := g.1) (ci := 0) (v := .ref a_this_lengthOf) (C := RX0) (T := TX0) (N := 5) hx hb hts w_X0 hown hK.1 hP 0 rfl rfl 0 (by decide) w_f9 (fun _ h9 => h9) rfl dX0_carried_26 ?_
        refine lv_iload hx hb dX0_carried_29 (lv_at hl 0 rfl) ?_
        refine jcall_ri (va_runSN (As := [.ref a_this_lengthOf, .int y6_1]) (rest := [.int z4]) ⟨hx, hb, hml, hown, hts⟩ (jc_Bi_at_t l g a_this_lengthOf 6 (Nat.le_of_ble_eq_true rfl) v_lengthOf y6_1 _ rfl) ⟨va_cnB 2 hts gX0_carried_X6_at_n36 rfl rfl rfl (jN_at (q := (RX0, 36, yX6_at)) hK.2 7 rfl) (hts (.initialized RX6) (by decide +kernel)) (by decide +kernel) ⟨Nat.le_of_ble_eq_true rfl, Nat.le_of_ble_eq_true rfl⟩, hts (.static yX6_at) (by decide +kernel), trivial⟩ (jpr_s hK (hP.sub (ws' := jw_arI g a_this_lengthOf 6 v_lengthOf) [1] rfl)) rfl rfl hl.1 rfl (lv_room (Nat.le_of_ble_eq_true rfl)) dX0_carried_31 ⟨Nat.zero_le _, Nat.zero_le _⟩) ?_
        refine lv_iadd hx hb dX0_carried_34 ?_
        refine jlet_i hR (fun y7_1 hR => ?_)
        try dsimp only at hR
        refine lv_istore (lv' := [(7, .int y7_1), (6, .int y6_1), (0, .ref a_this), (1, .int z1), (2, .ref a_this_above), (3, .ref a_this_below), (4, .int z4), (5, .int z5)]) hx hb dX0_carried_35 hl (by decide) rfl (fun ls hl => ?_)
        refine lv_iload_n hx hb dX0_carried_37 rfl (lv_at hl 3 rfl) ?_
        refine lv_iload hx hb dX0_carried_38 (lv_at hl 0 rfl) ?_
        refine lv_icmp_ge (tgt := 56) hx hb dX0_carried_40 (by decide) (fun c_2 => ?_) (fun c_2 => ?_)
        · replace hR := Eq.trans (Eq.symm (if_pos c_2)) hR
          refine lv_iload hx hb dX0_carried_56 (lv_at hl 0 rfl) ?_
          refine lv_istore (lv' := [(4, .int y7_1), (7, .int y7_1), (6, .int y6_1), (0, .ref a_this), (1, .int z1), (2, .ref a_this_above), (3, .ref a_this_below), (5, .int z5)]) hx hb dX0_carried_58 hl (by decide) rfl (fun ls hl => ?_)
          refine lv_iinc (v := z5 + 1) (lv' := [(5, .int (z5 + 1)), (4, .int y7_1), (7, .int y7_1), (6, .int y6_1), (0, .ref a_this), (1, .int z1), (2, .ref a_this_above), (3, .ref a_this_below)]) hx hb dX0_carried_60 hl (k := 7) rfl (by first | rfl | decide) (by decide) rfl (fun ls hl => ?_)
          refine lv_goto (tgt := 6) hx hb dX0_carried_63 (by decide) ?_
          exact ih y7_1 (z5 + 1) _ (lv_sub hl [4, 5, 6, 7, 1, 0] rfl) _ hR k
        · replace hR := Eq.trans (Eq.symm (if_neg c_2)) hR
          cases hR
          exact k.1 _ rfl _ (lv_sub hl [2, 3, 5, 6, 1] rfl)
  rw [jf_Ex_carried_above_below] at hR
  refine lv_iconst (v := 0) hx hb dX0_carried_0 (by decide) ?_
  refine lv_istore (lv' := [(4, .int 0), (0, .ref a_this), (1, .int x1), (2, .ref a_this_above), (3, .ref a_this_below)]) hx hb dX0_carried_1 hl (by decide) rfl (fun ls hl => ?_)
  refine lv_iconst (v := 0) hx hb dX0_carried_3 (by decide) ?_
  refine lv_istore (lv' := [(5, .int 0), (4, .int 0), (0, .ref a_this), (1, .int x1), (2, .ref a_this_above), (3, .ref a_this_below)]) hx hb dX0_carried_4 hl (by decide) rfl (fun ls hl => ?_)
  obtain ⟨q_1, hq_1, hR⟩ := jbind hR
  refine L6 jF x1 0 0 _ (lv_sub hl [2, 3, 4, 5, 1, 0] rfl) _ hq_1 ⟨fun o_1 ho ls hl => ?_, fun o_2 ho ls hl => ?_⟩
  · rw [ho] at hR
    try dsimp only [jsum] at hR
    refine lv_aload_n hx hb dX0_carried_43 rfl (lv_at hl 0 rfl) ?_
    refine lv_aload_n hx hb dX0_carried_44 rfl (lv_at hl 2 rfl) ?_
    refine lv_iload hx hb dX0_carried_45 (lv_at hl 4 rfl) ?_
    obtain ⟨q_2, hq_2, hR⟩ := jbind hR
    try dsimp only at hR
    refine jcall_ri (va_runV (As := [.ref a_this_below, .int o_1.2]) (rest := []) ⟨hx, hb, hml, hown, hts⟩ (jc_Ex_beginIn_below l g a_this a_this_lengthOf a_this_above a_this_below a_this_met a_this_met_bits v_intervals v_lengthOf v_above v_below v_met_bits o_1.2 _ hq_2) (cwV 2 hts gX0_carried_X0_beginIn rfl rfl rfl (by decide +kernel) ⟨Nat.le_of_ble_eq_true rfl, Nat.le_of_ble_eq_true rfl⟩) (jpr_v hK hP (ci := 0) (q0 := 0) rfl rfl) rfl rfl hl.1 rfl (lv_room (Nat.le_of_ble_eq_true rfl)) dX0_carried_47 ⟨Nat.zero_le _, Nat.zero_le _⟩) ?_
    refine lv_iload_n hx hb dX0_carried_50 rfl (lv_at hl 1 rfl) ?_
    refine lv_iadd hx hb dX0_carried_51 ?_
    refine lv_iload hx hb dX0_carried_52 (lv_at hl 3 rfl) ?_
    refine lv_isub hx hb dX0_carried_54 ?_
    exact fin _ _ _ (Option.some.inj hR) dX0_carried_55
  · rw [ho] at hR
    try dsimp only [jsum] at hR
    refine lv_iload_n hx hb dX0_carried_66 rfl (lv_at hl 0 rfl) ?_
    exact fin _ _ _ (Option.some.inj hR) dX0_carried_67
def jf_Ex_imageOf (v_intervals : Int32) (v_lengthOf : Nat → Int32) (v_above : Nat → Int32) (v_below : Nat → Int32) (x1 : Int32) : Option Int32 :=
  Option.bind (jf_Ex_carried_above_below v_intervals v_lengthOf v_above v_below x1) (fun q_1 => some q_1)
abbrev jr_Ex_imageOf : Room := { frames := 3, cells := 0, slots := 0, locals := 72 }
set_option maxRecDepth 100000 in
set_option maxHeartbeats 4000000 in
theorem jc_Ex_imageOf (l : Launch) (g : jG) (a_this a_this_lengthOf a_this_above a_this_below a_this_met a_this_met_bits : Nat) (v_intervals : Int32) (v_lengthOf : Nat → Int32) (v_above : Nat → Int32) (v_below : Nat → Int32) (v_met_bits : Nat → Int64) (x1 : Int32) (R : Int32) (hR : jf_Ex_imageOf v_intervals v_lengthOf v_above v_below x1 = some R) : Met l yX0_imageOf wsX0_imageOf jr_Ex_imageOf (jPr g [.ref a_this, .int x1] (jw_Ex g a_this a_this_lengthOf a_this_above a_this_below a_this_met a_this_met_bits v_intervals v_lengthOf v_above v_below v_met_bits)) (vp_Si (fun r => r = R)) 0 0 (fun _ => False) := by
  refine jm_ri (cc := cX0_imageOf) (maxL := 2) (by decide +kernel) rfl (Nat.le_of_ble_eq_true rfl) ?_
  intro p e s m below meth c Q hx hb hml hown hts hK hP fin ls hl
  have hl : lv_has ls 2 [(0, .ref a_this), (1, .int x1)] := hl
  have hown : s.vm.findClass RX0 = some m.cls := hown
  have w_X0 : ∀ w ∈ u_ws RX0 TX0 5, w ∈ wsX0_imageOf := by decide +kernel
  have w_f15 := hts (.fieldLink RX0 15 "Billiardry$Exchange" "above" "[I") (by decide +kernel)
  have w_f18 := hts (.fieldLink RX0 18 "Billiardry$Exchange" "below" "[I") (by decide +kernel)
  rw [jf_Ex_imageOf] at hR
  refine lv_aload_n hx hb dX0_imageOf_0 rfl (lv_at hl 0 rfl) ?_
  refine lv_iload_n hx hb dX0_imageOf_1 rfl (lv_at hl 1 rfl) ?_
  refine lv_aload_n hx hb dX0_imageOf_2 rfl (lv_at hl 0 rfl) ?_
  refine va_get (D := g.1) (ci := 0) (v := .ref a_this_above) (C := RX0) (T := TX0) (N := 5) hx hb hts w_X0 hown hK.1 hP 0 rfl rfl 1 (by decide) w_f15 (fun _ h9 => h9) rfl dX0_imageOf_3 ?_
  refine lv_aload_n hx hb dX0_imageOf_6 rfl (lv_at hl 0 rfl) ?_
  refine va_get (D := g.1) (ci := 0) (v := .ref a_this_below) (C := RX0) (T := TX0) (N := 5) hx hb hts w_X0 hown hK.1 hP 0 rfl rfl 2 (by decide) w_f18 (fun _ h9 => h9) rfl dX0_imageOf_7 ?_
  obtain ⟨q_1, hq_1, hR⟩ := jbind hR
  try dsimp only at hR
  refine jcall_ri (va_runV (As := [.int x1, .ref a_this_above, .ref a_this_below]) (rest := []) ⟨hx, hb, hml, hown, hts⟩ (jc_Ex_carried_above_below l g a_this a_this_lengthOf a_this_above a_this_below a_this_met a_this_met_bits v_intervals v_lengthOf v_above v_below v_met_bits x1 _ hq_1) (cwV 3 hts gX0_imageOf_X0_carried rfl rfl rfl (by decide +kernel) ⟨Nat.le_of_ble_eq_true rfl, Nat.le_of_ble_eq_true rfl⟩) (jpr_v hK hP (ci := 0) (q0 := 0) rfl rfl) rfl rfl hl.1 rfl (lv_room (Nat.le_of_ble_eq_true rfl)) dX0_imageOf_10 ⟨Nat.zero_le _, Nat.zero_le _⟩) ?_
  exact fin _ _ _ (Option.some.inj hR) dX0_imageOf_13
def jf_Ex_beginIn_above_L5 (v_intervals : Int32) (v_lengthOf : Nat → Int32) (v_above : Nat → Int32) (z2 : Int32) : Nat → Int32 → Int32 → Option Int32
  | 0, _, _ => none
  | n + 1, z3, z4 =>
    if v_intervals ≤ z4 then (some z3) else (if (jat 6 v_above z4) = z2 then (some z3) else (jlet (z3 + (jat 6 v_lengthOf (jat 6 v_above z4))) (fun y3_1 => (jf_Ex_beginIn_above_L5 v_intervals v_lengthOf v_above z2 n) y3_1 (z4 + 1))))
def jf_Ex_beginIn_above (v_intervals : Int32) (v_lengthOf : Nat → Int32) (v_above : Nat → Int32) (x2 : Int32) : Option Int32 :=
  Option.bind (jf_Ex_beginIn_above_L5 v_intervals v_lengthOf v_above x2 jF 0 0) (fun q_1 => some q_1)
abbrev jr_Ex_beginIn_above : Room := { frames := 1, cells := 0, slots := 0, locals := 21 }
set_option maxRecDepth 100000 in
set_option maxHeartbeats 4000000 in
theorem jc_Ex_beginIn_above (l : Launch) (g : jG) (a_this a_this_lengthOf a_this_above a_this_below a_this_met a_this_met_bits : Nat) (v_intervals : Int32) (v_lengthOf : Nat → Int32) (v_above : Nat → Int32) (v_below : Nat → Int32) (v_met_bits : Nat → Int64) (x2 : Int32) (R : Int32) (hR : jf_Ex_beginIn_above v_intervals v_lengthOf v_above x2 = some R) : Met l yX0_beginIn wsX0_beginIn jr_Ex_beginIn_above (jPr g [.ref a_this, .ref a_this_above, .int x2] (jw_Ex g a_this a_this_lengthOf a_this_above a_this_below a_this_met a_this_met_bits v_intervals v_lengthOf v_above v_below v_met_bits)) (vp_Si (fun r => r = R)) 0 0 (fun _ => False) := by
  refine jm_ri (cc := cX0_beginIn) (maxL := 5) (by decide +kernel) rfl (Nat.le_of_ble_eq_true rfl) ?_
  intro p e s m below meth c Q hx hb hml hown hts hK hP fin ls hl
  have hl : lv_has ls 5 [(0, .ref a_this), (1, .ref a_this_above), (2, .int x2)] := hl
  have hown : s.vm.findClass RX0 = some m.cls := hown
  have w_X0 : ∀ w ∈ u_ws RX0 TX0 5, w ∈ wsX0_beginIn := by decide +kernel
  have w_f28 := hts (.fieldLink RX0 28 "Billiardry$Exchange" "intervals" "I") (by decide +kernel)
  have w_f9 := hts (.fieldLink RX0 9 "Billiardry$Exchange" "lengthOf" "[I") (by decide +kernel)
  have L5 : ∀ (n : Nat) (z2 : Int32) (z3 : Int32) (z4 : Int32) (ls : Array Slot), lv_has ls 5 [(0, .ref a_this), (1, .ref a_this_above), (2, .int z2), (3, .int z3), (4, .int z4)] → ∀ q, jf_Ex_beginIn_above_L5 v_intervals v_lengthOf v_above z2 n z3 z4 = some q → (∀ ls : Array Slot, lv_has ls 5 [(3, .int q)] → W p l e jr_Ex_beginIn_above s m ([.ref a_this, .ref a_this_above, .int x2] : List Value).toArray below meth c s.heap [] 0 0 Q (F0 m 46 ls [])) → W p l e jr_Ex_beginIn_above s m ([.ref a_this, .ref a_this_above, .int x2] : List Value).toArray below meth c s.heap [] 0 0 Q (F0 m 5 ls []) := by
    intro n z2
    induction n with
    | zero =>
      intro z3 z4 ls hl q hR k
      cases hR
    | succ n ih =>
      intro z3 z4 ls hl q hR k
      rw [jf_Ex_beginIn_above_L5] at hR
      refine lv_iload hx hb dX0_beginIn_5 (lv_at hl 4 rfl) ?_
      refine lv_aload_n hx hb dX0_beginIn_7 rfl (lv_at hl 0 rfl) ?_
      refine va_get (D := g.1) (ci := 0) (v := .int v_intervals) (C := RX0) (T := TX0) (N := 5) hx hb hts w_X0 hown hK.1 hP 0 rfl rfl 4 (by decide) w_f28 (fun _ h9 => h9) rfl dX0_beginIn_8 ?_
      refine lv_icmp_ge (tgt := 46) hx hb dX0_beginIn_11 (by decide) (fun c_1 => ?_) (fun c_1 => ?_)
      · replace hR := Eq.trans (Eq.symm (if_pos c_1)) hR
        cases hR
        exact k _ (lv_sub hl [3] rfl)
      · replace hR := Eq.trans (Eq.symm (if_neg c_1)) hR
        refine lv_aload_n hx hb dX0_beginIn_14 rfl (lv_at hl 1 rfl) ?_
        refine lv_iload hx hb dX0_beginIn_15 (lv_at hl 4 rfl) ?_
        refine jcall_ri (va_runSN (As := [.ref a_this_above, .int z4]) (rest := []) ⟨hx, hb, hml, hown, hts⟩ (jc_Bi_at_t l g a_this_above 6 (Nat.le_of_ble_eq_true rfl) v_above z4 _ rfl) ⟨va_cnB 2 hts gX0_beginIn_X6_at_n36 rfl rfl rfl (jN_at (q := (RX0, 36, yX6_at)) hK.2 7 rfl) (hts (.initialized RX6) (by decide +kernel)) (by decide +kernel) ⟨Nat.le_of_ble_eq_true rfl, Nat.le_of_ble_eq_true rfl⟩, hts (.static yX6_at) (by decide +kernel), trivial⟩ (jpr_s hK (hP.sub (ws' := jw_arI g a_this_above 6 v_above) [2] rfl)) rfl rfl hl.1 rfl (lv_room (Nat.le_of_ble_eq_true rfl)) dX0_beginIn_17 ⟨Nat.zero_le _, Nat.zero_le _⟩) ?_
        refine lv_iload_n hx hb dX0_beginIn_20 rfl (lv_at hl 2 rfl) ?_
        refine lv_icmp_eq (tgt := 46) hx hb dX0_beginIn_21 (by decide) (fun c_2 => ?_) (fun c_2 => ?_)
        · replace hR := Eq.trans (Eq.symm (if_pos c_2)) hR
          cases hR
          exact k _ (lv_sub hl [3] rfl)
        · replace hR := Eq.trans (Eq.symm (if_neg c_2)) hR
          refine lv_iload_n hx hb dX0_beginIn_24 rfl (lv_at hl 3 rfl) ?_
          refine lv_aload_n hx hb dX0_beginIn_25 rfl (lv_at hl 0 rfl) ?_
          refine va_get (D := g.1) (ci := 0) (v := .ref a_this_lengthOf) (C := RX0) (T := TX0) (N := 5) hx hb hts w_X0 hown hK.1 hP 0 rfl rfl 0 (by decide) w_f9 (fun _ h9 => h9) rfl dX0_beginIn_26 ?_
          refine lv_aload_n hx hb dX0_beginIn_29 rfl (lv_at hl 1 rfl) ?_
          refine lv_iload hx hb dX0_beginIn_30 (lv_at hl 4 rfl) ?_
          refine jcall_ri (va_runSN (As := [.ref a_this_above, .int z4]) (rest := [.ref a_this_lengthOf, .int z3]) ⟨hx, hb, hml, hown, hts⟩ (jc_Bi_at_t l g a_this_above 6 (Nat.le_of_ble_eq_true rfl) v_above z4 _ rfl) ⟨va_cnB 2 hts gX0_beginIn_X6_at_n36 rfl rfl rfl (jN_at (q := (RX0, 36, yX6_at)) hK.2 7 rfl) (hts (.initialized RX6) (by decide +kernel)) (by decide +kernel) ⟨Nat.le_of_ble_eq_true rfl, Nat.le_of_ble_eq_true rfl⟩, hts (.static yX6_at) (by decide +kernel), trivial⟩ (jpr_s hK (hP.sub (ws' := jw_arI g a_this_above 6 v_above) [2] rfl)) rfl rfl hl.1 rfl (lv_room (Nat.le_of_ble_eq_true rfl)) dX0_beginIn_32 ⟨Nat.zero_le _, Nat.zero_le _⟩) ?_
          refine jcall_ri (va_runSN (As := [.ref a_this_lengthOf, .int (jat 6 v_above z4)]) (rest := [.int z3]) ⟨hx, hb, hml, hown, hts⟩ (jc_Bi_at_t l g a_this_lengthOf 6 (Nat.le_of_ble_eq_true rfl) v_lengthOf (jat 6 v_above z4) _ rfl) ⟨va_cnB 2 hts gX0_beginIn_X6_at_n36 rfl rfl rfl (jN_at (q := (RX0, 36, yX6_at)) hK.2 7 rfl) (hts (.initialized RX6) (by decide +kernel)) (by decide +kernel) ⟨Nat.le_of_ble_eq_true rfl, Nat.le_of_ble_eq_true rfl⟩, hts (.static yX6_at) (by decide +kernel), trivial⟩ (jpr_s hK (hP.sub (ws' := jw_arI g a_this_lengthOf 6 v_lengthOf) [1] rfl)) rfl rfl hl.1 rfl (lv_room (Nat.le_of_ble_eq_true rfl)) dX0_beginIn_35 ⟨Nat.zero_le _, Nat.zero_le _⟩) ?_
          refine lv_iadd hx hb dX0_beginIn_38 ?_
          refine jlet_i hR (fun y3_1 hR => ?_)
          try dsimp only at hR
          refine lv_istore_n (lv' := [(3, .int y3_1), (0, .ref a_this), (1, .ref a_this_above), (2, .int z2), (4, .int z4)]) hx hb dX0_beginIn_39 rfl hl (by decide) rfl (fun ls hl => ?_)
          refine lv_iinc (v := z4 + 1) (lv' := [(4, .int (z4 + 1)), (3, .int y3_1), (0, .ref a_this), (1, .ref a_this_above), (2, .int z2)]) hx hb dX0_beginIn_40 hl (k := 4) rfl (by first | rfl | decide) (by decide) rfl (fun ls hl => ?_)
          refine lv_goto (tgt := 5) hx hb dX0_beginIn_43 (by decide) ?_
          exact ih y3_1 (z4 + 1) _ (lv_sub hl [2, 3, 4, 1, 0] rfl) _ hR k
  rw [jf_Ex_beginIn_above] at hR
  refine lv_iconst (v := 0) hx hb dX0_beginIn_0 (by decide) ?_
  refine lv_istore_n (lv' := [(3, .int 0), (0, .ref a_this), (1, .ref a_this_above), (2, .int x2)]) hx hb dX0_beginIn_1 rfl hl (by decide) rfl (fun ls hl => ?_)
  refine lv_iconst (v := 0) hx hb dX0_beginIn_2 (by decide) ?_
  refine lv_istore (lv' := [(4, .int 0), (3, .int 0), (0, .ref a_this), (1, .ref a_this_above), (2, .int x2)]) hx hb dX0_beginIn_3 hl (by decide) rfl (fun ls hl => ?_)
  obtain ⟨q_1, hq_1, hR⟩ := jbind hR
  try dsimp only at hR
  refine L5 jF x2 0 0 _ (lv_sub hl [2, 3, 4, 1, 0] rfl) _ hq_1 (fun ls hl => ?_)
  refine lv_iload_n hx hb dX0_beginIn_46 rfl (lv_at hl 0 rfl) ?_
  exact fin _ _ _ (Option.some.inj hR) dX0_beginIn_47
def jf_Ex_carried_below_above_L6 (v_intervals : Int32) (v_lengthOf : Nat → Int32) (v_below : Nat → Int32) (z1 : Int32) : Nat → Int32 → Int32 → Option ((Int32 × Int32) ⊕ Unit)
  | 0, _, _ => none
  | n + 1, z4, z5 =>
    if v_intervals ≤ z5 then (some (.inr ())) else (jlet (jat 6 v_below z5) (fun y6_1 => jlet (z4 + (jat 6 v_lengthOf y6_1)) (fun y7_1 => if y7_1 ≤ z1 then ((jf_Ex_carried_below_above_L6 v_intervals v_lengthOf v_below z1 n) y7_1 (z5 + 1)) else (some (.inl (z4, y6_1))))))
def jf_Ex_carried_below_above (v_intervals : Int32) (v_lengthOf : Nat → Int32) (v_above : Nat → Int32) (v_below : Nat → Int32) (x1 : Int32) : Option Int32 :=
  Option.bind (jf_Ex_carried_below_above_L6 v_intervals v_lengthOf v_below x1 jF 0 0) (fun q_1 => jsum (fun o_1 => Option.bind (jf_Ex_beginIn_above v_intervals v_lengthOf v_above o_1.2) (fun q_2 => some ((q_2 + x1) - o_1.1))) (fun o_2 => some x1) q_1)
abbrev jr_Ex_carried_below_above : Room := { frames := 2, cells := 0, slots := 0, locals := 45 }
set_option maxRecDepth 100000 in
set_option maxHeartbeats 4000000 in
theorem jc_Ex_carried_below_above (l : Launch) (g : jG) (a_this a_this_lengthOf a_this_above a_this_below a_this_met a_this_met_bits : Nat) (v_intervals : Int32) (v_lengthOf : Nat → Int32) (v_above : Nat → Int32) (v_below : Nat → Int32) (v_met_bits : Nat → Int64) (x1 : Int32) (R : Int32) (hR : jf_Ex_carried_below_above v_intervals v_lengthOf v_above v_below x1 = some R) : Met l yX0_carried wsX0_carried jr_Ex_carried_below_above (jPr g [.ref a_this, .int x1, .ref a_this_below, .ref a_this_above] (jw_Ex g a_this a_this_lengthOf a_this_above a_this_below a_this_met a_this_met_bits v_intervals v_lengthOf v_above v_below v_met_bits)) (vp_Si (fun r => r = R)) 0 0 (fun _ => False) := by
  refine jm_ri (cc := cX0_carried) (maxL := 8) (by decide +kernel) rfl (Nat.le_of_ble_eq_true rfl) ?_
  intro p e s m below meth c Q hx hb hml hown hts hK hP fin ls hl
  have hl : lv_has ls 8 [(0, .ref a_this), (1, .int x1), (2, .ref a_this_below), (3, .ref a_this_above)] := hl
  have hown : s.vm.findClass RX0 = some m.cls := hown
  have w_X0 : ∀ w ∈ u_ws RX0 TX0 5, w ∈ wsX0_carried := by decide +kernel
  have w_f28 := hts (.fieldLink RX0 28 "Billiardry$Exchange" "intervals" "I") (by decide +kernel)
  have w_f9 := hts (.fieldLink RX0 9 "Billiardry$Exchange" "lengthOf" "[I") (by decide +kernel)
  have L6 : ∀ (n : Nat) (z1 : Int32) (z4 : Int32) (z5 : Int32) (ls : Array Slot), lv_has ls 8 [(0, .ref a_this), (1, .int z1), (2, .ref a_this_below), (3, .ref a_this_above), (4, .int z4), (5, .int z5)] → ∀ q, jf_Ex_carried_below_above_L6 v_intervals v_lengthOf v_below z1 n z4 z5 = some q → ((∀ o, q = .inl o → ∀ ls : Array Slot, lv_has ls 8 [(0, .ref a_this), (1, .int z1), (3, .ref a_this_above), (4, .int o.1), (6, .int o.2)] → W p l e jr_Ex_carried_below_above s m ([.ref a_this, .int x1, .ref a_this_below, .ref a_this_above] : List Value).toArray below meth c s.heap [] 0 0 Q (F0 m 43 ls [])) ∧ (∀ o, q = .inr o → ∀ ls : Array Slot, lv_has ls 8 [(1, .int z1)] → W p l e jr_Ex_carried_below_above s m ([.ref a_this, .int x1, .ref a_this_below, .ref a_this_above] : List Value).toArray below meth c s.heap [] 0 0 Q (F0 m 66 ls []))) → W p l e jr_Ex_carried_below_above s m ([.ref a_this, .int x1, .ref a_this_below, .ref a_this_above] : List Value).toArray below meth c s.heap [] 0 0 Q (F0 m 6 ls []) := by
    intro n z1
    induction n with
    | zero =>
      intro z4 z5 ls hl q hR k
      cases hR
    | succ n ih =>
      intro z4 z5 ls hl q hR k
      rw [jf_Ex_carried_below_above_L6] at hR
      refine lv_iload hx hb dX0_carried_6 (lv_at hl 5 rfl) ?_
      refine lv_aload_n hx hb dX0_carried_8 rfl (lv_at hl 0 rfl) ?_
      refine va_get (D := g.1) (ci := 0) (v := .int v_intervals) (C := RX0) (T := TX0) (N := 5) hx hb hts w_X0 hown hK.1 hP 0 rfl rfl 4 (by decide) w_f28 (fun _ h9 => h9) rfl dX0_carried_9 ?_
      refine lv_icmp_ge (tgt := 66) hx hb dX0_carried_12 (by decide) (fun c_1 => ?_) (fun c_1 => ?_)
      · replace hR := Eq.trans (Eq.symm (if_pos c_1)) hR
        cases hR
        exact k.2 _ rfl _ (lv_sub hl [1] rfl)
      · replace hR := Eq.trans (Eq.symm (if_neg c_1)) hR
        refine lv_aload_n hx hb dX0_carried_15 rfl (lv_at hl 2 rfl) ?_
        refine lv_iload hx hb dX0_carried_16 (lv_at hl 5 rfl) ?_
        refine jcall_ri (va_runSN (As := [.ref a_this_below, .int z5]) (rest := []) ⟨hx, hb, hml, hown, hts⟩ (jc_Bi_at_t l g a_this_below 6 (Nat.le_of_ble_eq_true rfl) v_below z5 _ rfl) ⟨va_cnB 2 hts gX0_carried_X6_at_n36 rfl rfl rfl (jN_at (q := (RX0, 36, yX6_at)) hK.2 7 rfl) (hts (.initialized RX6) (by decide +kernel)) (by decide +kernel) ⟨Nat.le_of_ble_eq_true rfl, Nat.le_of_ble_eq_true rfl⟩, hts (.static yX6_at) (by decide +kernel), trivial⟩ (jpr_s hK (hP.sub (ws' := jw_arI g a_this_below 6 v_below) [3] rfl)) rfl rfl hl.1 rfl (lv_room (Nat.le_of_ble_eq_true rfl)) dX0_carried_18 ⟨Nat.zero_le _, Nat.zero_le _⟩) ?_
        refine jlet_i hR (fun y6_1 hR => ?_)
        try dsimp only at hR
        refine lv_istore (lv' := [(6, .int y6_1), (0, .ref a_this), (1, .int z1), (2, .ref a_this_below), (3, .ref a_this_above), (4, .int z4), (5, .int z5)]) hx hb dX0_carried_21 hl (by decide) rfl (fun ls hl => ?_)
        refine lv_iload hx hb dX0_carried_23 (lv_at hl 5 rfl) ?_
        refine lv_aload_n hx hb dX0_carried_25 rfl (lv_at hl 1 rfl) ?_
        refine va_get (D := g.1) (ci := 0) (v := .ref a_this_lengthOf) (C := RX0) (T := TX0) (N := 5) hx hb hts w_X0 hown hK.1 hP 0 rfl rfl 0 (by decide) w_f9 (fun _ h9 => h9) rfl dX0_carried_26 ?_
        refine lv_iload hx hb dX0_carried_29 (lv_at hl 0 rfl) ?_
        refine jcall_ri (va_runSN (As := [.ref a_this_lengthOf, .int y6_1]) (rest := [.int z4]) ⟨hx, hb, hml, hown, hts⟩ (jc_Bi_at_t l g a_this_lengthOf 6 (Nat.le_of_ble_eq_true rfl) v_lengthOf y6_1 _ rfl) ⟨va_cnB 2 hts gX0_carried_X6_at_n36 rfl rfl rfl (jN_at (q := (RX0, 36, yX6_at)) hK.2 7 rfl) (hts (.initialized RX6) (by decide +kernel)) (by decide +kernel) ⟨Nat.le_of_ble_eq_true rfl, Nat.le_of_ble_eq_true rfl⟩, hts (.static yX6_at) (by decide +kernel), trivial⟩ (jpr_s hK (hP.sub (ws' := jw_arI g a_this_lengthOf 6 v_lengthOf) [1] rfl)) rfl rfl hl.1 rfl (lv_room (Nat.le_of_ble_eq_true rfl)) dX0_carried_31 ⟨Nat.zero_le _, Nat.zero_le _⟩) ?_
        refine lv_iadd hx hb dX0_carried_34 ?_
        refine jlet_i hR (fun y7_1 hR => ?_)
        try dsimp only at hR
        refine lv_istore (lv' := [(7, .int y7_1), (6, .int y6_1), (0, .ref a_this), (1, .int z1), (2, .ref a_this_below), (3, .ref a_this_above), (4, .int z4), (5, .int z5)]) hx hb dX0_carried_35 hl (by decide) rfl (fun ls hl => ?_)
        refine lv_iload_n hx hb dX0_carried_37 rfl (lv_at hl 3 rfl) ?_
        refine lv_iload hx hb dX0_carried_38 (lv_at hl 0 rfl) ?_
        refine lv_icmp_ge (tgt := 56) hx hb dX0_carried_40 (by decide) (fun c_2 => ?_) (fun c_2 => ?_)
        · replace hR := Eq.trans (Eq.symm (if_pos c_2)) hR
          refine lv_iload hx hb dX0_carried_56 (lv_at hl 0 rfl) ?_
          refine lv_istore (lv' := [(4, .int y7_1), (7, .int y7_1), (6, .int y6_1), (0, .ref a_this), (1, .int z1), (2, .ref a_this_below), (3, .ref a_this_above), (5, .int z5)]) hx hb dX0_carried_58 hl (by decide) rfl (fun ls hl => ?_)
          refine lv_iinc (v := z5 + 1) (lv' := [(5, .int (z5 + 1)), (4, .int y7_1), (7, .int y7_1), (6, .int y6_1), (0, .ref a_this), (1, .int z1), (2, .ref a_this_below), (3, .ref a_this_above)]) hx hb dX0_carried_60 hl (k := 7) rfl (by first | rfl | decide) (by decide) rfl (fun ls hl => ?_)
          refine lv_goto (tgt := 6) hx hb dX0_carried_63 (by decide) ?_
          exact ih y7_1 (z5 + 1) _ (lv_sub hl [4, 5, 6, 7, 1, 0] rfl) _ hR k
        · replace hR := Eq.trans (Eq.symm (if_neg c_2)) hR
          cases hR
          exact k.1 _ rfl _ (lv_sub hl [2, 3, 5, 6, 1] rfl)
  rw [jf_Ex_carried_below_above] at hR
  refine lv_iconst (v := 0) hx hb dX0_carried_0 (by decide) ?_
  refine lv_istore (lv' := [(4, .int 0), (0, .ref a_this), (1, .int x1), (2, .ref a_this_below), (3, .ref a_this_above)]) hx hb dX0_carried_1 hl (by decide) rfl (fun ls hl => ?_)
  refine lv_iconst (v := 0) hx hb dX0_carried_3 (by decide) ?_
  refine lv_istore (lv' := [(5, .int 0), (4, .int 0), (0, .ref a_this), (1, .int x1), (2, .ref a_this_below), (3, .ref a_this_above)]) hx hb dX0_carried_4 hl (by decide) rfl (fun ls hl => ?_)
  obtain ⟨q_1, hq_1, hR⟩ := jbind hR
  refine L6 jF x1 0 0 _ (lv_sub hl [2, 3, 4, 5, 1, 0] rfl) _ hq_1 ⟨fun o_1 ho ls hl => ?_, fun o_2 ho ls hl => ?_⟩
  · rw [ho] at hR
    try dsimp only [jsum] at hR
    refine lv_aload_n hx hb dX0_carried_43 rfl (lv_at hl 0 rfl) ?_
    refine lv_aload_n hx hb dX0_carried_44 rfl (lv_at hl 2 rfl) ?_
    refine lv_iload hx hb dX0_carried_45 (lv_at hl 4 rfl) ?_
    obtain ⟨q_2, hq_2, hR⟩ := jbind hR
    try dsimp only at hR
    refine jcall_ri (va_runV (As := [.ref a_this_above, .int o_1.2]) (rest := []) ⟨hx, hb, hml, hown, hts⟩ (jc_Ex_beginIn_above l g a_this a_this_lengthOf a_this_above a_this_below a_this_met a_this_met_bits v_intervals v_lengthOf v_above v_below v_met_bits o_1.2 _ hq_2) (cwV 2 hts gX0_carried_X0_beginIn rfl rfl rfl (by decide +kernel) ⟨Nat.le_of_ble_eq_true rfl, Nat.le_of_ble_eq_true rfl⟩) (jpr_v hK hP (ci := 0) (q0 := 0) rfl rfl) rfl rfl hl.1 rfl (lv_room (Nat.le_of_ble_eq_true rfl)) dX0_carried_47 ⟨Nat.zero_le _, Nat.zero_le _⟩) ?_
    refine lv_iload_n hx hb dX0_carried_50 rfl (lv_at hl 1 rfl) ?_
    refine lv_iadd hx hb dX0_carried_51 ?_
    refine lv_iload hx hb dX0_carried_52 (lv_at hl 3 rfl) ?_
    refine lv_isub hx hb dX0_carried_54 ?_
    exact fin _ _ _ (Option.some.inj hR) dX0_carried_55
  · rw [ho] at hR
    try dsimp only [jsum] at hR
    refine lv_iload_n hx hb dX0_carried_66 rfl (lv_at hl 0 rfl) ?_
    exact fin _ _ _ (Option.some.inj hR) dX0_carried_67
def jf_Ex_originOf (v_intervals : Int32) (v_lengthOf : Nat → Int32) (v_above : Nat → Int32) (v_below : Nat → Int32) (x1 : Int32) : Option Int32 :=
  Option.bind (jf_Ex_carried_below_above v_intervals v_lengthOf v_above v_below x1) (fun q_1 => some q_1)
abbrev jr_Ex_originOf : Room := { frames := 3, cells := 0, slots := 0, locals := 72 }
set_option maxRecDepth 100000 in
set_option maxHeartbeats 4000000 in
theorem jc_Ex_originOf (l : Launch) (g : jG) (a_this a_this_lengthOf a_this_above a_this_below a_this_met a_this_met_bits : Nat) (v_intervals : Int32) (v_lengthOf : Nat → Int32) (v_above : Nat → Int32) (v_below : Nat → Int32) (v_met_bits : Nat → Int64) (x1 : Int32) (R : Int32) (hR : jf_Ex_originOf v_intervals v_lengthOf v_above v_below x1 = some R) : Met l yX0_originOf wsX0_originOf jr_Ex_originOf (jPr g [.ref a_this, .int x1] (jw_Ex g a_this a_this_lengthOf a_this_above a_this_below a_this_met a_this_met_bits v_intervals v_lengthOf v_above v_below v_met_bits)) (vp_Si (fun r => r = R)) 0 0 (fun _ => False) := by
  refine jm_ri (cc := cX0_originOf) (maxL := 2) (by decide +kernel) rfl (Nat.le_of_ble_eq_true rfl) ?_
  intro p e s m below meth c Q hx hb hml hown hts hK hP fin ls hl
  have hl : lv_has ls 2 [(0, .ref a_this), (1, .int x1)] := hl
  have hown : s.vm.findClass RX0 = some m.cls := hown
  have w_X0 : ∀ w ∈ u_ws RX0 TX0 5, w ∈ wsX0_originOf := by decide +kernel
  have w_f18 := hts (.fieldLink RX0 18 "Billiardry$Exchange" "below" "[I") (by decide +kernel)
  have w_f15 := hts (.fieldLink RX0 15 "Billiardry$Exchange" "above" "[I") (by decide +kernel)
  rw [jf_Ex_originOf] at hR
  refine lv_aload_n hx hb dX0_originOf_0 rfl (lv_at hl 0 rfl) ?_
  refine lv_iload_n hx hb dX0_originOf_1 rfl (lv_at hl 1 rfl) ?_
  refine lv_aload_n hx hb dX0_originOf_2 rfl (lv_at hl 0 rfl) ?_
  refine va_get (D := g.1) (ci := 0) (v := .ref a_this_below) (C := RX0) (T := TX0) (N := 5) hx hb hts w_X0 hown hK.1 hP 0 rfl rfl 2 (by decide) w_f18 (fun _ h9 => h9) rfl dX0_originOf_3 ?_
  refine lv_aload_n hx hb dX0_originOf_6 rfl (lv_at hl 0 rfl) ?_
  refine va_get (D := g.1) (ci := 0) (v := .ref a_this_above) (C := RX0) (T := TX0) (N := 5) hx hb hts w_X0 hown hK.1 hP 0 rfl rfl 1 (by decide) w_f15 (fun _ h9 => h9) rfl dX0_originOf_7 ?_
  obtain ⟨q_1, hq_1, hR⟩ := jbind hR
  try dsimp only at hR
  refine jcall_ri (va_runV (As := [.int x1, .ref a_this_below, .ref a_this_above]) (rest := []) ⟨hx, hb, hml, hown, hts⟩ (jc_Ex_carried_below_above l g a_this a_this_lengthOf a_this_above a_this_below a_this_met a_this_met_bits v_intervals v_lengthOf v_above v_below v_met_bits x1 _ hq_1) (cwV 3 hts gX0_originOf_X0_carried rfl rfl rfl (by decide +kernel) ⟨Nat.le_of_ble_eq_true rfl, Nat.le_of_ble_eq_true rfl⟩) (jpr_v hK hP (ci := 0) (q0 := 0) rfl rfl) rfl rfl hl.1 rfl (lv_room (Nat.le_of_ble_eq_true rfl)) dX0_originOf_10 ⟨Nat.zero_le _, Nat.zero_le _⟩) ?_
  exact fin _ _ _ (Option.some.inj hR) dX0_originOf_13
def jf_Ex_imagesRound_L8 (v_intervals : Int32) (v_lengthOf : Nat → Int32) (v_above : Nat → Int32) (v_below : Nat → Int32) (z1 : Int32) : Nat → Int32 → Int32 → Option Int32
  | 0, _, _ => none
  | n + 1, z2, z3 =>
    if z3 = z1 then (some z2) else (if 300 ≤ z2 then (some z2) else (Option.bind (jf_Ex_imageOf v_intervals v_lengthOf v_above v_below z3) (fun q_2 => (jf_Ex_imagesRound_L8 v_intervals v_lengthOf v_above v_below z1 n) (z2 + 1) q_2)))
def jf_Ex_imagesRound (v_intervals : Int32) (v_lengthOf : Nat → Int32) (v_above : Nat → Int32) (v_below : Nat → Int32) (x1 : Int32) : Option Int32 :=
  Option.bind (jf_Ex_imageOf v_intervals v_lengthOf v_above v_below x1) (fun q_1 => Option.bind (jf_Ex_imagesRound_L8 v_intervals v_lengthOf v_above v_below x1 jF 1 q_1) (fun q_3 => some q_3))
abbrev jr_Ex_imagesRound : Room := { frames := 4, cells := 0, slots := 0, locals := 93 }
set_option maxRecDepth 100000 in
set_option maxHeartbeats 4000000 in
theorem jc_Ex_imagesRound (l : Launch) (g : jG) (a_this a_this_lengthOf a_this_above a_this_below a_this_met a_this_met_bits : Nat) (v_intervals : Int32) (v_lengthOf : Nat → Int32) (v_above : Nat → Int32) (v_below : Nat → Int32) (v_met_bits : Nat → Int64) (x1 : Int32) (R : Int32) (hR : jf_Ex_imagesRound v_intervals v_lengthOf v_above v_below x1 = some R) : Met l yX0_imagesRound wsX0_imagesRound jr_Ex_imagesRound (jPr g [.ref a_this, .int x1] (jw_Ex g a_this a_this_lengthOf a_this_above a_this_below a_this_met a_this_met_bits v_intervals v_lengthOf v_above v_below v_met_bits)) (vp_Si (fun r => r = R)) 0 0 (fun _ => False) := by
  refine jm_ri (cc := cX0_imagesRound) (maxL := 4) (by decide +kernel) rfl (Nat.le_of_ble_eq_true rfl) ?_
  intro p e s m below meth c Q hx hb hml hown hts hK hP fin ls hl
  have hl : lv_has ls 4 [(0, .ref a_this), (1, .int x1)] := hl
  have hown : s.vm.findClass RX0 = some m.cls := hown
  have L8 : ∀ (n : Nat) (z1 : Int32) (z2 : Int32) (z3 : Int32) (ls : Array Slot), lv_has ls 4 [(0, .ref a_this), (1, .int z1), (2, .int z2), (3, .int z3)] → ∀ q, jf_Ex_imagesRound_L8 v_intervals v_lengthOf v_above v_below z1 n z2 z3 = some q → (∀ ls : Array Slot, lv_has ls 4 [(2, .int q)] → W p l e jr_Ex_imagesRound s m ([.ref a_this, .int x1] : List Value).toArray below meth c s.heap [] 0 0 Q (F0 m 32 ls [])) → W p l e jr_Ex_imagesRound s m ([.ref a_this, .int x1] : List Value).toArray below meth c s.heap [] 0 0 Q (F0 m 8 ls []) := by
    intro n z1
    induction n with
    | zero =>
      intro z2 z3 ls hl q hR k
      cases hR
    | succ n ih =>
      intro z2 z3 ls hl q hR k
      rw [jf_Ex_imagesRound_L8] at hR
      refine lv_iload_n hx hb dX0_imagesRound_8 rfl (lv_at hl 3 rfl) ?_
      refine lv_iload_n hx hb dX0_imagesRound_9 rfl (lv_at hl 1 rfl) ?_
      refine lv_icmp_eq (tgt := 32) hx hb dX0_imagesRound_10 (by decide) (fun c_1 => ?_) (fun c_1 => ?_)
      · replace hR := Eq.trans (Eq.symm (if_pos c_1)) hR
        cases hR
        exact k _ (lv_sub hl [2] rfl)
      · replace hR := Eq.trans (Eq.symm (if_neg c_1)) hR
        refine lv_iload_n hx hb dX0_imagesRound_13 rfl (lv_at hl 2 rfl) ?_
        refine lv_sipush (v := 300) hx hb dX0_imagesRound_14 (by decide) ?_
        refine lv_icmp_ge (tgt := 32) hx hb dX0_imagesRound_17 (by decide) (fun c_2 => ?_) (fun c_2 => ?_)
        · replace hR := Eq.trans (Eq.symm (if_pos c_2)) hR
          cases hR
          exact k _ (lv_sub hl [2] rfl)
        · replace hR := Eq.trans (Eq.symm (if_neg c_2)) hR
          refine lv_iinc (v := z2 + 1) (lv' := [(2, .int (z2 + 1)), (0, .ref a_this), (1, .int z1), (3, .int z3)]) hx hb dX0_imagesRound_20 hl (k := 2) rfl (by first | rfl | decide) (by decide) rfl (fun ls hl => ?_)
          refine lv_aload_n hx hb dX0_imagesRound_23 rfl (lv_at hl 1 rfl) ?_
          refine lv_iload_n hx hb dX0_imagesRound_24 rfl (lv_at hl 3 rfl) ?_
          obtain ⟨q_2, hq_2, hR⟩ := jbind hR
          try dsimp only at hR
          refine jcall_ri (va_runV (As := [.int z3]) (rest := []) ⟨hx, hb, hml, hown, hts⟩ (jc_Ex_imageOf l g a_this a_this_lengthOf a_this_above a_this_below a_this_met a_this_met_bits v_intervals v_lengthOf v_above v_below v_met_bits z3 _ hq_2) (cwV 1 hts gX0_imagesRound_X0_imageOf rfl rfl rfl (by decide +kernel) ⟨Nat.le_of_ble_eq_true rfl, Nat.le_of_ble_eq_true rfl⟩) (jpr_v hK hP (ci := 0) (q0 := 0) rfl rfl) rfl rfl hl.1 rfl (lv_room (Nat.le_of_ble_eq_true rfl)) dX0_imagesRound_25 ⟨Nat.zero_le _, Nat.zero_le _⟩) ?_
          refine lv_istore_n (lv' := [(3, .int q_2), (2, .int (z2 + 1)), (0, .ref a_this), (1, .int z1)]) hx hb dX0_imagesRound_28 rfl hl (by decide) rfl (fun ls hl => ?_)
          refine lv_goto (tgt := 8) hx hb dX0_imagesRound_29 (by decide) ?_
          exact ih (z2 + 1) q_2 _ (lv_sub hl [2, 3, 1, 0] rfl) _ hR k
  rw [jf_Ex_imagesRound] at hR
  refine lv_iconst (v := 1) hx hb dX0_imagesRound_0 (by decide) ?_
  refine lv_istore_n (lv' := [(2, .int 1), (0, .ref a_this), (1, .int x1)]) hx hb dX0_imagesRound_1 rfl hl (by decide) rfl (fun ls hl => ?_)
  refine lv_aload_n hx hb dX0_imagesRound_2 rfl (lv_at hl 1 rfl) ?_
  refine lv_iload_n hx hb dX0_imagesRound_3 rfl (lv_at hl 2 rfl) ?_
  obtain ⟨q_1, hq_1, hR⟩ := jbind hR
  try dsimp only at hR
  refine jcall_ri (va_runV (As := [.int x1]) (rest := []) ⟨hx, hb, hml, hown, hts⟩ (jc_Ex_imageOf l g a_this a_this_lengthOf a_this_above a_this_below a_this_met a_this_met_bits v_intervals v_lengthOf v_above v_below v_met_bits x1 _ hq_1) (cwV 1 hts gX0_imagesRound_X0_imageOf rfl rfl rfl (by decide +kernel) ⟨Nat.le_of_ble_eq_true rfl, Nat.le_of_ble_eq_true rfl⟩) (jpr_v hK hP (ci := 0) (q0 := 0) rfl rfl) rfl rfl hl.1 rfl (lv_room (Nat.le_of_ble_eq_true rfl)) dX0_imagesRound_4 ⟨Nat.zero_le _, Nat.zero_le _⟩) ?_
  refine lv_istore_n (lv' := [(3, .int q_1), (2, .int 1), (0, .ref a_this), (1, .int x1)]) hx hb dX0_imagesRound_7 rfl hl (by decide) rfl (fun ls hl => ?_)
  obtain ⟨q_3, hq_3, hR⟩ := jbind hR
  try dsimp only at hR
  refine L8 jF x1 1 q_1 _ (lv_sub hl [2, 3, 1, 0] rfl) _ hq_3 (fun ls hl => ?_)
  refine lv_iload_n hx hb dX0_imagesRound_32 rfl (lv_at hl 0 rfl) ?_
  exact fin _ _ _ (Option.some.inj hR) dX0_imagesRound_33
def jf_Ex_meetCycleOf_L4 (v_intervals : Int32) (v_lengthOf : Nat → Int32) (v_above : Nat → Int32) (v_below : Nat → Int32) : Nat → Int32 → Int32 → (Nat → Int64) → Option (Nat → Int64)
  | 0, _, _, _ => none
  | n + 1, z2, z3, v_met_bits =>
    if 300 ≤ z3 then (some v_met_bits) else (if (jhas v_met_bits z2) = 0 then (jlet (jadd v_met_bits z2) (fun q_1 => Option.bind (jf_Ex_imageOf v_intervals v_lengthOf v_above v_below z2) (fun q_2 => (jf_Ex_meetCycleOf_L4 v_intervals v_lengthOf v_above v_below n) q_2 (z3 + 1) q_1))) else (some v_met_bits))
def jf_Ex_meetCycleOf (v_intervals : Int32) (v_lengthOf : Nat → Int32) (v_above : Nat → Int32) (v_below : Nat → Int32) (v_met_bits : Nat → Int64) (x1 : Int32) : Option (Nat → Int64) :=
  Option.bind (jf_Ex_meetCycleOf_L4 v_intervals v_lengthOf v_above v_below jF x1 0 v_met_bits) (fun q_3 => some q_3)
abbrev jr_Ex_meetCycleOf : Room := { frames := 4, cells := 0, slots := 0, locals := 93 }
set_option maxRecDepth 100000 in
set_option maxHeartbeats 4000000 in
theorem jc_Ex_meetCycleOf (l : Launch) (g : jG) (a_this a_this_lengthOf a_this_above a_this_below a_this_met a_this_met_bits : Nat) (v_intervals : Int32) (v_lengthOf : Nat → Int32) (v_above : Nat → Int32) (v_below : Nat → Int32) (v_met_bits : Nat → Int64) (x1 : Int32) (R : (Nat → Int64)) (hR : jf_Ex_meetCycleOf v_intervals v_lengthOf v_above v_below v_met_bits x1 = some R) (sz : Nat) : Met l yX0_meetCycleOf wsX0_meetCycleOf jr_Ex_meetCycleOf (jPw g [.ref a_this, .int x1] (jw_Ex g a_this a_this_lengthOf a_this_above a_this_below a_this_met a_this_met_bits v_intervals v_lengthOf v_above v_below v_met_bits) sz) (jQv g (jw_Ex g a_this a_this_lengthOf a_this_above a_this_below a_this_met a_this_met_bits v_intervals v_lengthOf v_above v_below R) (va_A (jw_Ex g a_this a_this_lengthOf a_this_above a_this_below a_this_met a_this_met_bits v_intervals v_lengthOf v_above v_below v_met_bits) sz)) 0 0 (va_A (jw_Ex g a_this a_this_lengthOf a_this_above a_this_below a_this_met a_this_met_bits v_intervals v_lengthOf v_above v_below v_met_bits) sz) := by
  refine jm_wv (cc := cX0_meetCycleOf) (maxL := 4) (by decide +kernel) rfl (Nat.le_of_ble_eq_true rfl) ?_
  intro p e s m below meth c A Q hx hb hml hown hts hK hP hD hA hS fin ls hl
  have hl : lv_has ls 4 [(0, .ref a_this), (1, .int x1)] := hl
  have hown : s.vm.findClass RX0 = some m.cls := hown
  have w_X0 : ∀ w ∈ u_ws RX0 TX0 5, w ∈ wsX0_meetCycleOf := by decide +kernel
  have w_f24 := hts (.fieldLink RX0 24 "Billiardry$Exchange" "met" "LBilliardry$Marks;") (by decide +kernel)
  have L4 : ∀ (n : Nat) (z2 : Int32) (z3 : Int32) (v_met_bits : Nat → Int64) (H : Heap) (locs : List Loc), va_P g.1 vwCl (jw_Ex g a_this a_this_lengthOf a_this_above a_this_below a_this_met a_this_met_bits v_intervals v_lengthOf v_above v_below v_met_bits) H → va_S A s.heap H locs → ∀ (ls : Array Slot), lv_has ls 4 [(0, .ref a_this), (2, .int z2), (3, .int z3)] → ∀ q, jf_Ex_meetCycleOf_L4 v_intervals v_lengthOf v_above v_below n z2 z3 v_met_bits = some q → (∀ (H : Heap) (locs : List Loc), va_P g.1 vwCl (jw_Ex g a_this a_this_lengthOf a_this_above a_this_below a_this_met a_this_met_bits v_intervals v_lengthOf v_above v_below q) H → va_S A s.heap H locs → ∀ ls : Array Slot, lv_has ls 4 [] → W p l e jr_Ex_meetCycleOf s m ([.ref a_this, .int x1] : List Value).toArray below meth c H locs 0 0 Q (F0 m 42 ls [])) → W p l e jr_Ex_meetCycleOf s m ([.ref a_this, .int x1] : List Value).toArray below meth c H locs 0 0 Q (F0 m 4 ls []) := by
    intro n
    induction n with
    | zero =>
      intro z2 z3 v_met_bits H locs hP hS ls hl q hR k
      cases hR
    | succ n ih =>
      intro z2 z3 v_met_bits H locs hP hS ls hl q hR k
      rw [jf_Ex_meetCycleOf_L4] at hR
      refine lv_iload_n hx hb dX0_meetCycleOf_4 rfl (lv_at hl 2 rfl) ?_
      refine lv_sipush (v := 300) hx hb dX0_meetCycleOf_5 (by decide) ?_
      refine lv_icmp_ge (tgt := 42) hx hb dX0_meetCycleOf_8 (by decide) (fun c_1 => ?_) (fun c_1 => ?_)
      · replace hR := Eq.trans (Eq.symm (if_pos c_1)) hR
        cases hR
        exact k _ _ hP hS _ (lv_sub hl [] rfl)
      · replace hR := Eq.trans (Eq.symm (if_neg c_1)) hR
        refine lv_aload_n hx hb dX0_meetCycleOf_11 rfl (lv_at hl 0 rfl) ?_
        refine va_get (D := g.1) (ci := 0) (v := .ref a_this_met) (C := RX0) (T := TX0) (N := 5) hx hb hts w_X0 hown hK.1 hP 0 rfl rfl 3 (by decide) w_f24 (fun _ h9 => h9) rfl dX0_meetCycleOf_12 ?_
        refine lv_iload_n hx hb dX0_meetCycleOf_15 rfl (lv_at hl 1 rfl) ?_
        refine jcall_ri (va_runV (As := [.int z2]) (rest := []) ⟨hx, hb, hml, hown, hts⟩ (jc_Ma_has_t l g a_this_met a_this_met_bits v_met_bits z2 _ rfl) (cwV 1 hts gX0_meetCycleOf_X3_has rfl rfl rfl (by decide +kernel) ⟨Nat.le_of_ble_eq_true rfl, Nat.le_of_ble_eq_true rfl⟩) (jpr_v hK (hP.sub (ws' := jw_Ma g a_this_met a_this_met_bits v_met_bits) [4, 5] rfl) (ci := 3) (q0 := 0) rfl rfl) rfl rfl hl.1 rfl (lv_room (Nat.le_of_ble_eq_true rfl)) dX0_meetCycleOf_16 ⟨Nat.zero_le _, Nat.zero_le _⟩) ?_
        refine lv_if_ne (tgt := 42) hx hb dX0_meetCycleOf_19 (by decide) (fun c_2 => ?_) (fun c_2 => ?_)
        · replace hR := Eq.trans (Eq.symm (if_neg c_2)) hR
          cases hR
          exact k _ _ hP hS _ (lv_sub hl [] rfl)
        · replace hR := Eq.trans (Eq.symm (if_pos c_2)) hR
          refine lv_aload_n hx hb dX0_meetCycleOf_22 rfl (lv_at hl 0 rfl) ?_
          refine va_get (D := g.1) (ci := 0) (v := .ref a_this_met) (C := RX0) (T := TX0) (N := 5) hx hb hts w_X0 hown hK.1 hP 0 rfl rfl 3 (by decide) w_f24 (fun _ h9 => h9) rfl dX0_meetCycleOf_23 ?_
          refine lv_iload_n hx hb dX0_meetCycleOf_26 rfl (lv_at hl 1 rfl) ?_
          obtain ⟨q_1, hq_1, hR⟩ := jlet_b hR
          try dsimp only at hR
          refine jcall_wv (ws' := jw_Ex g a_this a_this_lengthOf a_this_above a_this_below a_this_met a_this_met_bits v_intervals v_lengthOf v_above v_below q_1) (va_runV (As := [.int z2]) (rest := []) ⟨hx, hb, hml, hown, hts⟩ (jc_Ma_add_t l g a_this_met a_this_met_bits v_met_bits z2 _ hq_1 _) (cwV 1 hts gX0_meetCycleOf_X3_add rfl rfl rfl (by decide +kernel) ⟨Nat.le_of_ble_eq_true rfl, Nat.le_of_ble_eq_true rfl⟩) (jpw_v hK (hP.sub (ws' := jw_Ma g a_this_met a_this_met_bits v_met_bits) [4, 5] rfl) ((jD_to (ws' := jw_Ex g a_this a_this_lengthOf a_this_above a_this_below a_this_met a_this_met_bits v_intervals v_lengthOf v_above v_below v_met_bits) hD rfl).sub [4, 5] (by decide) rfl) (ci := 3) (q0 := 0) rfl rfl) rfl rfl hl.1 rfl (lv_room (Nat.le_of_ble_eq_true rfl)) dX0_meetCycleOf_27 ⟨Nat.zero_le _, Nat.zero_le _⟩) hP (jD_to hD rfl) hS hA [4, 5] [0, 1, 2, 3] [0, 1, 2, 3, 4, 5] rfl (by decide) rfl (fun H locs hP hS => ?_)
          refine lv_aload_n hx hb dX0_meetCycleOf_30 rfl (lv_at hl 0 rfl) ?_
          refine lv_iload_n hx hb dX0_meetCycleOf_31 rfl (lv_at hl 1 rfl) ?_
          obtain ⟨q_2, hq_2, hR⟩ := jbind hR
          try dsimp only at hR
          refine jcall_ri (va_runV (As := [.int z2]) (rest := []) ⟨hx, hb, hml, hown, hts⟩ (jc_Ex_imageOf l g a_this a_this_lengthOf a_this_above a_this_below a_this_met a_this_met_bits v_intervals v_lengthOf v_above v_below q_1 z2 _ hq_2) (cwV 1 hts gX0_meetCycleOf_X0_imageOf rfl rfl rfl (by decide +kernel) ⟨Nat.le_of_ble_eq_true rfl, Nat.le_of_ble_eq_true rfl⟩) (jpr_v hK hP (ci := 0) (q0 := 0) rfl rfl) rfl rfl hl.1 rfl (lv_room (Nat.le_of_ble_eq_true rfl)) dX0_meetCycleOf_32 ⟨Nat.zero_le _, Nat.zero_le _⟩) ?_
          refine lv_istore_n (lv' := [(2, .int q_2), (0, .ref a_this), (3, .int z3)]) hx hb dX0_meetCycleOf_35 rfl hl (by decide) rfl (fun ls hl => ?_)
          refine lv_iinc (v := z3 + 1) (lv' := [(3, .int (z3 + 1)), (2, .int q_2), (0, .ref a_this)]) hx hb dX0_meetCycleOf_36 hl (k := 2) rfl (by first | rfl | decide) (by decide) rfl (fun ls hl => ?_)
          refine lv_goto (tgt := 4) hx hb dX0_meetCycleOf_39 (by decide) ?_
          exact ih q_2 (z3 + 1) q_1 _ _ hP hS _ (lv_sub hl [2, 1, 0] rfl) _ hR k
  rw [jf_Ex_meetCycleOf] at hR
  refine lv_iload_n hx hb dX0_meetCycleOf_0 rfl (lv_at hl 1 rfl) ?_
  refine lv_istore_n (lv' := [(2, .int x1), (0, .ref a_this), (1, .int x1)]) hx hb dX0_meetCycleOf_1 rfl hl (by decide) rfl (fun ls hl => ?_)
  refine lv_iconst (v := 0) hx hb dX0_meetCycleOf_2 (by decide) ?_
  refine lv_istore_n (lv' := [(3, .int 0), (2, .int x1), (0, .ref a_this), (1, .int x1)]) hx hb dX0_meetCycleOf_3 rfl hl (by decide) rfl (fun ls hl => ?_)
  obtain ⟨q_3, hq_3, hR⟩ := jbind hR
  try dsimp only at hR
  refine L4 jF x1 0 v_met_bits _ _ hP hS _ (lv_sub hl [2, 1, 0] rfl) _ hq_3 (fun H locs hP hS ls hl => ?_)
  obtain rfl := (Option.some.inj hR)
  exact fin _ _ _ _ hP hS dX0_meetCycleOf_42
def jf_Ex_cyclesInAll_b40 (self : Int32 → Int32 → (Nat → Int64) → Option (Int32 × (Nat → Int64))) (v_intervals : Int32) (v_lengthOf : Nat → Int32) (v_above : Nat → Int32) (v_below : Nat → Int32) (v_met_bits : Nat → Int64) (z1 : Int32) (z2 : Int32) (z3 : Int32) : Option (Int32 × (Nat → Int64)) :=
  self z1 (z3 + 1) v_met_bits
def jf_Ex_cyclesInAll_L16 (v_intervals : Int32) (v_lengthOf : Nat → Int32) (v_above : Nat → Int32) (v_below : Nat → Int32) (z2 : Int32) : Nat → Int32 → Int32 → (Nat → Int64) → Option (Int32 × (Nat → Int64))
  | 0, _, _, _ => none
  | n + 1, z1, z3, v_met_bits =>
    if z2 ≤ z3 then (some (z1, v_met_bits)) else (if (jhas v_met_bits z3) = 0 then (Option.bind (jf_Ex_meetCycleOf v_intervals v_lengthOf v_above v_below v_met_bits z3) (fun q_3 => jf_Ex_cyclesInAll_b40 (jf_Ex_cyclesInAll_L16 v_intervals v_lengthOf v_above v_below z2 n) v_intervals v_lengthOf v_above v_below q_3 (z1 + 1) z2 z3)) else (jf_Ex_cyclesInAll_b40 (jf_Ex_cyclesInAll_L16 v_intervals v_lengthOf v_above v_below z2 n) v_intervals v_lengthOf v_above v_below v_met_bits z1 z2 z3))
def jf_Ex_cyclesInAll (v_intervals : Int32) (v_lengthOf : Nat → Int32) (v_above : Nat → Int32) (v_below : Nat → Int32) (v_met_bits : Nat → Int64) : Option (Int32 × (Nat → Int64)) :=
  jlet (jclr v_met_bits) (fun q_1 => Option.bind (jf_Ex_points v_intervals v_lengthOf) (fun q_2 => Option.bind (jf_Ex_cyclesInAll_L16 v_intervals v_lengthOf v_above v_below q_2 jF 0 0 q_1) (fun q_4 => some (q_4.1, q_4.2))))
abbrev jr_Ex_cyclesInAll : Room := { frames := 5, cells := 0, slots := 0, locals := 116 }
set_option maxRecDepth 100000 in
set_option maxHeartbeats 4000000 in
theorem jc_Ex_cyclesInAll (l : Launch) (g : jG) (a_this a_this_lengthOf a_this_above a_this_below a_this_met a_this_met_bits : Nat) (v_intervals : Int32) (v_lengthOf : Nat → Int32) (v_above : Nat → Int32) (v_below : Nat → Int32) (v_met_bits : Nat → Int64) (R : Int32 × (Nat → Int64)) (hR : jf_Ex_cyclesInAll v_intervals v_lengthOf v_above v_below v_met_bits = some R) (sz : Nat) : Met l yX0_cyclesInAll wsX0_cyclesInAll jr_Ex_cyclesInAll (jPw g [.ref a_this] (jw_Ex g a_this a_this_lengthOf a_this_above a_this_below a_this_met a_this_met_bits v_intervals v_lengthOf v_above v_below v_met_bits) sz) (jQi g R.1 (jw_Ex g a_this a_this_lengthOf a_this_above a_this_below a_this_met a_this_met_bits v_intervals v_lengthOf v_above v_below R.2) (va_A (jw_Ex g a_this a_this_lengthOf a_this_above a_this_below a_this_met a_this_met_bits v_intervals v_lengthOf v_above v_below v_met_bits) sz)) 0 0 (va_A (jw_Ex g a_this a_this_lengthOf a_this_above a_this_below a_this_met a_this_met_bits v_intervals v_lengthOf v_above v_below v_met_bits) sz) := by
  refine jm_wi (cc := cX0_cyclesInAll) (maxL := 4) (by decide +kernel) rfl (Nat.le_of_ble_eq_true rfl) ?_
  intro p e s m below meth c A Q hx hb hml hown hts hK hP hD hA hS fin ls hl
  have hl : lv_has ls 4 [(0, .ref a_this)] := hl
  have hown : s.vm.findClass RX0 = some m.cls := hown
  have w_X0 : ∀ w ∈ u_ws RX0 TX0 5, w ∈ wsX0_cyclesInAll := by decide +kernel
  have w_f24 := hts (.fieldLink RX0 24 "Billiardry$Exchange" "met" "LBilliardry$Marks;") (by decide +kernel)
  have L16 : ∀ (n : Nat) (z2 : Int32) (z1 : Int32) (z3 : Int32) (v_met_bits : Nat → Int64) (H : Heap) (locs : List Loc), va_P g.1 vwCl (jw_Ex g a_this a_this_lengthOf a_this_above a_this_below a_this_met a_this_met_bits v_intervals v_lengthOf v_above v_below v_met_bits) H → va_S A s.heap H locs → ∀ (ls : Array Slot), lv_has ls 4 [(0, .ref a_this), (1, .int z1), (2, .int z2), (3, .int z3)] → ∀ q, jf_Ex_cyclesInAll_L16 v_intervals v_lengthOf v_above v_below z2 n z1 z3 v_met_bits = some q → (∀ (H : Heap) (locs : List Loc), va_P g.1 vwCl (jw_Ex g a_this a_this_lengthOf a_this_above a_this_below a_this_met a_this_met_bits v_intervals v_lengthOf v_above v_below q.2) H → va_S A s.heap H locs → ∀ ls : Array Slot, lv_has ls 4 [(1, .int q.1)] → W p l e jr_Ex_cyclesInAll s m ([.ref a_this] : List Value).toArray below meth c H locs 0 0 Q (F0 m 46 ls [])) → W p l e jr_Ex_cyclesInAll s m ([.ref a_this] : List Value).toArray below meth c H locs 0 0 Q (F0 m 16 ls []) := by
    intro n z2
    induction n with
    | zero =>
      intro z1 z3 v_met_bits H locs hP hS ls hl q hR k
      cases hR
    | succ n ih =>
      have J40 : ∀ (v_met_bits : Nat → Int64) (z1 : Int32) (z3 : Int32) (H : Heap) (locs : List Loc), va_P g.1 vwCl (jw_Ex g a_this a_this_lengthOf a_this_above a_this_below a_this_met a_this_met_bits v_intervals v_lengthOf v_above v_below v_met_bits) H → va_S A s.heap H locs → ∀ (ls : Array Slot), lv_has ls 4 [(0, .ref a_this), (1, .int z1), (2, .int z2), (3, .int z3)] → ∀ q, jf_Ex_cyclesInAll_b40 (jf_Ex_cyclesInAll_L16 v_intervals v_lengthOf v_above v_below z2 n) v_intervals v_lengthOf v_above v_below v_met_bits z1 z2 z3 = some q → (∀ (H : Heap) (locs : List Loc), va_P g.1 vwCl (jw_Ex g a_this a_this_lengthOf a_this_above a_this_below a_this_met a_this_met_bits v_intervals v_lengthOf v_above v_below q.2) H → va_S A s.heap H locs → ∀ ls : Array Slot, lv_has ls 4 [(1, .int q.1)] → W p l e jr_Ex_cyclesInAll s m ([.ref a_this] : List Value).toArray below meth c H locs 0 0 Q (F0 m 46 ls [])) → W p l e jr_Ex_cyclesInAll s m ([.ref a_this] : List Value).toArray below meth c H locs 0 0 Q (F0 m 40 ls []) := by
        intro v_met_bits z1 z3 H locs hP hS ls hl q hR k
        rw [jf_Ex_cyclesInAll_b40] at hR
        refine lv_iinc (v := z3 + 1) (lv' := [(3, .int (z3 + 1)), (0, .ref a_this), (1, .int z1), (2, .int z2)]) hx hb dX0_cyclesInAll_40 hl (k := 3) rfl (by first | rfl | decide) (by decide) rfl (fun ls hl => ?_)
        refine lv_goto (tgt := 16) hx hb dX0_cyclesInAll_43 (by decide) ?_
        exact ih z1 (z3 + 1) v_met_bits _ _ hP hS _ (lv_sub hl [1, 2, 3, 0] rfl) _ hR k
      intro z1 z3 v_met_bits H locs hP hS ls hl q hR k
      rw [jf_Ex_cyclesInAll_L16] at hR
      refine lv_iload_n hx hb dX0_cyclesInAll_16 rfl (lv_at hl 3 rfl) ?_
      refine lv_iload_n hx hb dX0_cyclesInAll_17 rfl (lv_at hl 2 rfl) ?_
      refine lv_icmp_ge (tgt := 46) hx hb dX0_cyclesInAll_18 (by decide) (fun c_1 => ?_) (fun c_1 => ?_)
      · replace hR := Eq.trans (Eq.symm (if_pos c_1)) hR
        cases hR
        exact k _ _ hP hS _ (lv_sub hl [1] rfl)
      · replace hR := Eq.trans (Eq.symm (if_neg c_1)) hR
        refine lv_aload_n hx hb dX0_cyclesInAll_21 rfl (lv_at hl 0 rfl) ?_
        refine va_get (D := g.1) (ci := 0) (v := .ref a_this_met) (C := RX0) (T := TX0) (N := 5) hx hb hts w_X0 hown hK.1 hP 0 rfl rfl 3 (by decide) w_f24 (fun _ h9 => h9) rfl dX0_cyclesInAll_22 ?_
        refine lv_iload_n hx hb dX0_cyclesInAll_25 rfl (lv_at hl 3 rfl) ?_
        refine jcall_ri (va_runV (As := [.int z3]) (rest := []) ⟨hx, hb, hml, hown, hts⟩ (jc_Ma_has_t l g a_this_met a_this_met_bits v_met_bits z3 _ rfl) (cwV 1 hts gX0_cyclesInAll_X3_has rfl rfl rfl (by decide +kernel) ⟨Nat.le_of_ble_eq_true rfl, Nat.le_of_ble_eq_true rfl⟩) (jpr_v hK (hP.sub (ws' := jw_Ma g a_this_met a_this_met_bits v_met_bits) [4, 5] rfl) (ci := 3) (q0 := 0) rfl rfl) rfl rfl hl.1 rfl (lv_room (Nat.le_of_ble_eq_true rfl)) dX0_cyclesInAll_26 ⟨Nat.zero_le _, Nat.zero_le _⟩) ?_
        refine lv_if_ne (tgt := 40) hx hb dX0_cyclesInAll_29 (by decide) (fun c_2 => ?_) (fun c_2 => ?_)
        · replace hR := Eq.trans (Eq.symm (if_neg c_2)) hR
          exact J40 v_met_bits z1 z3 _ _ hP hS _ (lv_sub hl [0, 1, 2, 3] rfl) _ hR k
        · replace hR := Eq.trans (Eq.symm (if_pos c_2)) hR
          refine lv_iinc (v := z1 + 1) (lv' := [(1, .int (z1 + 1)), (0, .ref a_this), (2, .int z2), (3, .int z3)]) hx hb dX0_cyclesInAll_32 hl (k := 1) rfl (by first | rfl | decide) (by decide) rfl (fun ls hl => ?_)
          refine lv_aload_n hx hb dX0_cyclesInAll_35 rfl (lv_at hl 1 rfl) ?_
          refine lv_iload_n hx hb dX0_cyclesInAll_36 rfl (lv_at hl 3 rfl) ?_
          obtain ⟨q_3, hq_3, hR⟩ := jbind hR
          try dsimp only at hR
          refine jcall_wv (ws' := jw_Ex g a_this a_this_lengthOf a_this_above a_this_below a_this_met a_this_met_bits v_intervals v_lengthOf v_above v_below q_3) (va_runV (As := [.int z3]) (rest := []) ⟨hx, hb, hml, hown, hts⟩ (jc_Ex_meetCycleOf l g a_this a_this_lengthOf a_this_above a_this_below a_this_met a_this_met_bits v_intervals v_lengthOf v_above v_below v_met_bits z3 _ hq_3 _) (cwV 1 hts gX0_cyclesInAll_X0_meetCycleOf rfl rfl rfl (by decide +kernel) ⟨Nat.le_of_ble_eq_true rfl, Nat.le_of_ble_eq_true rfl⟩) (jpw_v hK hP (jD_to hD rfl) (ci := 0) (q0 := 0) rfl rfl) rfl rfl hl.1 rfl (lv_room (Nat.le_of_ble_eq_true rfl)) dX0_cyclesInAll_37 ⟨Nat.zero_le _, Nat.zero_le _⟩) hP (jD_to hD rfl) hS hA [0, 1, 2, 3, 4, 5] [] [0, 1, 2, 3, 4, 5] rfl (by decide) rfl (fun H locs hP hS => ?_)
          exact J40 q_3 (z1 + 1) z3 _ _ hP hS _ (lv_sub hl [1, 0, 2, 3] rfl) _ hR k
  rw [jf_Ex_cyclesInAll] at hR
  refine lv_aload_n hx hb dX0_cyclesInAll_0 rfl (lv_at hl 0 rfl) ?_
  refine va_get (D := g.1) (ci := 0) (v := .ref a_this_met) (C := RX0) (T := TX0) (N := 5) hx hb hts w_X0 hown hK.1 hP 0 rfl rfl 3 (by decide) w_f24 (fun _ h9 => h9) rfl dX0_cyclesInAll_1 ?_
  obtain ⟨q_1, hq_1, hR⟩ := jlet_b hR
  try dsimp only at hR
  refine jcall_wv (ws' := jw_Ex g a_this a_this_lengthOf a_this_above a_this_below a_this_met a_this_met_bits v_intervals v_lengthOf v_above v_below q_1) (va_runV (As := []) (rest := []) ⟨hx, hb, hml, hown, hts⟩ (jc_Ma_clear_t l g a_this_met a_this_met_bits v_met_bits _ hq_1 _) (cwV 0 hts gX0_cyclesInAll_X3_clear rfl rfl rfl (by decide +kernel) ⟨Nat.le_of_ble_eq_true rfl, Nat.le_of_ble_eq_true rfl⟩) (jpw_v hK (hP.sub (ws' := jw_Ma g a_this_met a_this_met_bits v_met_bits) [4, 5] rfl) ((jD_to (ws' := jw_Ex g a_this a_this_lengthOf a_this_above a_this_below a_this_met a_this_met_bits v_intervals v_lengthOf v_above v_below v_met_bits) hD rfl).sub [4, 5] (by decide) rfl) (ci := 3) (q0 := 0) rfl rfl) rfl rfl hl.1 rfl (lv_room (Nat.le_of_ble_eq_true rfl)) dX0_cyclesInAll_4 ⟨Nat.zero_le _, Nat.zero_le _⟩) hP (jD_to hD rfl) hS hA [4, 5] [0, 1, 2, 3] [0, 1, 2, 3, 4, 5] rfl (by decide) rfl (fun H locs hP hS => ?_)
  refine lv_iconst (v := 0) hx hb dX0_cyclesInAll_7 (by decide) ?_
  refine lv_istore_n (lv' := [(1, .int 0), (0, .ref a_this)]) hx hb dX0_cyclesInAll_8 rfl hl (by decide) rfl (fun ls hl => ?_)
  refine lv_aload_n hx hb dX0_cyclesInAll_9 rfl (lv_at hl 1 rfl) ?_
  obtain ⟨q_2, hq_2, hR⟩ := jbind hR
  try dsimp only at hR
  refine jcall_ri (va_runV (As := []) (rest := []) ⟨hx, hb, hml, hown, hts⟩ (jc_Ex_points l g a_this a_this_lengthOf a_this_above a_this_below a_this_met a_this_met_bits v_intervals v_lengthOf v_above v_below q_1 _ hq_2) (cwV 0 hts gX0_cyclesInAll_X0_points rfl rfl rfl (by decide +kernel) ⟨Nat.le_of_ble_eq_true rfl, Nat.le_of_ble_eq_true rfl⟩) (jpr_v hK hP (ci := 0) (q0 := 0) rfl rfl) rfl rfl hl.1 rfl (lv_room (Nat.le_of_ble_eq_true rfl)) dX0_cyclesInAll_10 ⟨Nat.zero_le _, Nat.zero_le _⟩) ?_
  refine lv_istore_n (lv' := [(2, .int q_2), (1, .int 0), (0, .ref a_this)]) hx hb dX0_cyclesInAll_13 rfl hl (by decide) rfl (fun ls hl => ?_)
  refine lv_iconst (v := 0) hx hb dX0_cyclesInAll_14 (by decide) ?_
  refine lv_istore_n (lv' := [(3, .int 0), (2, .int q_2), (1, .int 0), (0, .ref a_this)]) hx hb dX0_cyclesInAll_15 rfl hl (by decide) rfl (fun ls hl => ?_)
  obtain ⟨q_4, hq_4, hR⟩ := jbind hR
  try dsimp only at hR
  refine L16 jF q_2 0 0 q_1 _ _ hP hS _ (lv_sub hl [3, 2, 1, 0] rfl) _ hq_4 (fun H locs hP hS ls hl => ?_)
  refine lv_iload_n hx hb dX0_cyclesInAll_46 rfl (lv_at hl 0 rfl) ?_
  obtain rfl := (Option.some.inj hR)
  exact fin _ _ _ _ _ rfl hP hS dX0_cyclesInAll_47
def jf_Ex_leastApart_L6 (v_intervals : Int32) (v_above : Nat → Int32) (v_below : Nat → Int32) : Nat → Int32 → Int32 → Int32 → Option (Int32 ⊕ Unit)
  | 0, _, _, _ => none
  | n + 1, z1, z2, z3 =>
    if v_intervals ≤ z3 then (some (.inr ())) else (jlet (z1 ||| (1 <<< ((jat 6 v_above z3) &&& 31))) (fun y1_1 => jlet (z2 ||| (1 <<< ((jat 6 v_below z3) &&& 31))) (fun y2_1 => if y1_1 = y2_1 then (some (.inl z3)) else ((jf_Ex_leastApart_L6 v_intervals v_above v_below n) y1_1 y2_1 (z3 + 1)))))
def jf_Ex_leastApart (v_intervals : Int32) (v_above : Nat → Int32) (v_below : Nat → Int32) : Option Int32 :=
  Option.bind (jf_Ex_leastApart_L6 v_intervals v_above v_below jF 0 0 0) (fun q_1 => jsum (fun o_1 => some (o_1 + 1)) (fun o_2 => some 0) q_1)
abbrev jr_Ex_leastApart : Room := { frames := 1, cells := 0, slots := 0, locals := 21 }
set_option maxRecDepth 100000 in
set_option maxHeartbeats 4000000 in
theorem jc_Ex_leastApart (l : Launch) (g : jG) (a_this a_this_lengthOf a_this_above a_this_below a_this_met a_this_met_bits : Nat) (v_intervals : Int32) (v_lengthOf : Nat → Int32) (v_above : Nat → Int32) (v_below : Nat → Int32) (v_met_bits : Nat → Int64) (R : Int32) (hR : jf_Ex_leastApart v_intervals v_above v_below = some R) : Met l yX0_leastApart wsX0_leastApart jr_Ex_leastApart (jPr g [.ref a_this] (jw_Ex g a_this a_this_lengthOf a_this_above a_this_below a_this_met a_this_met_bits v_intervals v_lengthOf v_above v_below v_met_bits)) (vp_Si (fun r => r = R)) 0 0 (fun _ => False) := by
  refine jm_ri (cc := cX0_leastApart) (maxL := 4) (by decide +kernel) rfl (Nat.le_of_ble_eq_true rfl) ?_
  intro p e s m below meth c Q hx hb hml hown hts hK hP fin ls hl
  have hl : lv_has ls 4 [(0, .ref a_this)] := hl
  have hown : s.vm.findClass RX0 = some m.cls := hown
  have w_X0 : ∀ w ∈ u_ws RX0 TX0 5, w ∈ wsX0_leastApart := by decide +kernel
  have w_f28 := hts (.fieldLink RX0 28 "Billiardry$Exchange" "intervals" "I") (by decide +kernel)
  have w_f15 := hts (.fieldLink RX0 15 "Billiardry$Exchange" "above" "[I") (by decide +kernel)
  have w_f18 := hts (.fieldLink RX0 18 "Billiardry$Exchange" "below" "[I") (by decide +kernel)
  have L6 : ∀ (n : Nat) (z1 : Int32) (z2 : Int32) (z3 : Int32) (ls : Array Slot), lv_has ls 4 [(0, .ref a_this), (1, .int z1), (2, .int z2), (3, .int z3)] → ∀ q, jf_Ex_leastApart_L6 v_intervals v_above v_below n z1 z2 z3 = some q → ((∀ o, q = .inl o → ∀ ls : Array Slot, lv_has ls 4 [(3, .int o)] → W p l e jr_Ex_leastApart s m ([.ref a_this] : List Value).toArray below meth c s.heap [] 0 0 Q (F0 m 45 ls [])) ∧ (∀ o, q = .inr o → ∀ ls : Array Slot, lv_has ls 4 [] → W p l e jr_Ex_leastApart s m ([.ref a_this] : List Value).toArray below meth c s.heap [] 0 0 Q (F0 m 55 ls []))) → W p l e jr_Ex_leastApart s m ([.ref a_this] : List Value).toArray below meth c s.heap [] 0 0 Q (F0 m 6 ls []) := by
    intro n
    induction n with
    | zero =>
      intro z1 z2 z3 ls hl q hR k
      cases hR
    | succ n ih =>
      intro z1 z2 z3 ls hl q hR k
      rw [jf_Ex_leastApart_L6] at hR
      refine lv_iload_n hx hb dX0_leastApart_6 rfl (lv_at hl 3 rfl) ?_
      refine lv_aload_n hx hb dX0_leastApart_7 rfl (lv_at hl 0 rfl) ?_
      refine va_get (D := g.1) (ci := 0) (v := .int v_intervals) (C := RX0) (T := TX0) (N := 5) hx hb hts w_X0 hown hK.1 hP 0 rfl rfl 4 (by decide) w_f28 (fun _ h9 => h9) rfl dX0_leastApart_8 ?_
      refine lv_icmp_ge (tgt := 55) hx hb dX0_leastApart_11 (by decide) (fun c_1 => ?_) (fun c_1 => ?_)
      · replace hR := Eq.trans (Eq.symm (if_pos c_1)) hR
        cases hR
        exact k.2 _ rfl _ (lv_sub hl [] rfl)
      · replace hR := Eq.trans (Eq.symm (if_neg c_1)) hR
        refine lv_iload_n hx hb dX0_leastApart_14 rfl (lv_at hl 1 rfl) ?_
        refine lv_iconst (v := 1) hx hb dX0_leastApart_15 (by decide) ?_
        refine lv_aload_n hx hb dX0_leastApart_16 rfl (lv_at hl 0 rfl) ?_
        refine va_get (D := g.1) (ci := 0) (v := .ref a_this_above) (C := RX0) (T := TX0) (N := 5) hx hb hts w_X0 hown hK.1 hP 0 rfl rfl 1 (by decide) w_f15 (fun _ h9 => h9) rfl dX0_leastApart_17 ?_
        refine lv_iload_n hx hb dX0_leastApart_20 rfl (lv_at hl 3 rfl) ?_
        refine jcall_ri (va_runSN (As := [.ref a_this_above, .int z3]) (rest := [.int 1, .int z1]) ⟨hx, hb, hml, hown, hts⟩ (jc_Bi_at_t l g a_this_above 6 (Nat.le_of_ble_eq_true rfl) v_above z3 _ rfl) ⟨va_cnB 2 hts gX0_leastApart_X6_at_n36 rfl rfl rfl (jN_at (q := (RX0, 36, yX6_at)) hK.2 7 rfl) (hts (.initialized RX6) (by decide +kernel)) (by decide +kernel) ⟨Nat.le_of_ble_eq_true rfl, Nat.le_of_ble_eq_true rfl⟩, hts (.static yX6_at) (by decide +kernel), trivial⟩ (jpr_s hK (hP.sub (ws' := jw_arI g a_this_above 6 v_above) [2] rfl)) rfl rfl hl.1 rfl (lv_room (Nat.le_of_ble_eq_true rfl)) dX0_leastApart_21 ⟨Nat.zero_le _, Nat.zero_le _⟩) ?_
        refine lv_ishl hx hb dX0_leastApart_24 ?_
        refine lv_ior hx hb dX0_leastApart_25 ?_
        refine jlet_i hR (fun y1_1 hR => ?_)
        try dsimp only at hR
        refine lv_istore_n (lv' := [(1, .int y1_1), (0, .ref a_this), (2, .int z2), (3, .int z3)]) hx hb dX0_leastApart_26 rfl hl (by decide) rfl (fun ls hl => ?_)
        refine lv_iload_n hx hb dX0_leastApart_27 rfl (lv_at hl 2 rfl) ?_
        refine lv_iconst (v := 1) hx hb dX0_leastApart_28 (by decide) ?_
        refine lv_aload_n hx hb dX0_leastApart_29 rfl (lv_at hl 1 rfl) ?_
        refine va_get (D := g.1) (ci := 0) (v := .ref a_this_below) (C := RX0) (T := TX0) (N := 5) hx hb hts w_X0 hown hK.1 hP 0 rfl rfl 2 (by decide) w_f18 (fun _ h9 => h9) rfl dX0_leastApart_30 ?_
        refine lv_iload_n hx hb dX0_leastApart_33 rfl (lv_at hl 3 rfl) ?_
        refine jcall_ri (va_runSN (As := [.ref a_this_below, .int z3]) (rest := [.int 1, .int z2]) ⟨hx, hb, hml, hown, hts⟩ (jc_Bi_at_t l g a_this_below 6 (Nat.le_of_ble_eq_true rfl) v_below z3 _ rfl) ⟨va_cnB 2 hts gX0_leastApart_X6_at_n36 rfl rfl rfl (jN_at (q := (RX0, 36, yX6_at)) hK.2 7 rfl) (hts (.initialized RX6) (by decide +kernel)) (by decide +kernel) ⟨Nat.le_of_ble_eq_true rfl, Nat.le_of_ble_eq_true rfl⟩, hts (.static yX6_at) (by decide +kernel), trivial⟩ (jpr_s hK (hP.sub (ws' := jw_arI g a_this_below 6 v_below) [3] rfl)) rfl rfl hl.1 rfl (lv_room (Nat.le_of_ble_eq_true rfl)) dX0_leastApart_34 ⟨Nat.zero_le _, Nat.zero_le _⟩) ?_
        refine lv_ishl hx hb dX0_leastApart_37 ?_
        refine lv_ior hx hb dX0_leastApart_38 ?_
        refine jlet_i hR (fun y2_1 hR => ?_)
        try dsimp only at hR
        refine lv_istore_n (lv' := [(2, .int y2_1), (1, .int y1_1), (0, .ref a_this), (3, .int z3)]) hx hb dX0_leastApart_39 rfl hl (by decide) rfl (fun ls hl => ?_)
        refine lv_iload_n hx hb dX0_leastApart_40 rfl (lv_at hl 1 rfl) ?_
        refine lv_iload_n hx hb dX0_leastApart_41 rfl (lv_at hl 0 rfl) ?_
        refine lv_icmp_ne (tgt := 49) hx hb dX0_leastApart_42 (by decide) (fun c_2 => ?_) (fun c_2 => ?_)
        · replace hR := Eq.trans (Eq.symm (if_neg c_2)) hR
          refine lv_iinc (v := z3 + 1) (lv' := [(3, .int (z3 + 1)), (2, .int y2_1), (1, .int y1_1), (0, .ref a_this)]) hx hb dX0_leastApart_49 hl (k := 3) rfl (by first | rfl | decide) (by decide) rfl (fun ls hl => ?_)
          refine lv_goto (tgt := 6) hx hb dX0_leastApart_52 (by decide) ?_
          exact ih y1_1 y2_1 (z3 + 1) _ (lv_sub hl [3, 2, 1, 0] rfl) _ hR k
        · replace hR := Eq.trans (Eq.symm (if_pos c_2)) hR
          cases hR
          exact k.1 _ rfl _ (lv_sub hl [3] rfl)
  rw [jf_Ex_leastApart] at hR
  refine lv_iconst (v := 0) hx hb dX0_leastApart_0 (by decide) ?_
  refine lv_istore_n (lv' := [(1, .int 0), (0, .ref a_this)]) hx hb dX0_leastApart_1 rfl hl (by decide) rfl (fun ls hl => ?_)
  refine lv_iconst (v := 0) hx hb dX0_leastApart_2 (by decide) ?_
  refine lv_istore_n (lv' := [(2, .int 0), (1, .int 0), (0, .ref a_this)]) hx hb dX0_leastApart_3 rfl hl (by decide) rfl (fun ls hl => ?_)
  refine lv_iconst (v := 0) hx hb dX0_leastApart_4 (by decide) ?_
  refine lv_istore_n (lv' := [(3, .int 0), (2, .int 0), (1, .int 0), (0, .ref a_this)]) hx hb dX0_leastApart_5 rfl hl (by decide) rfl (fun ls hl => ?_)
  obtain ⟨q_1, hq_1, hR⟩ := jbind hR
  refine L6 jF 0 0 0 _ (lv_sub hl [3, 2, 1, 0] rfl) _ hq_1 ⟨fun o_1 ho ls hl => ?_, fun o_2 ho ls hl => ?_⟩
  · rw [ho] at hR
    try dsimp only [jsum] at hR
    refine lv_iload_n hx hb dX0_leastApart_45 rfl (lv_at hl 0 rfl) ?_
    refine lv_iconst (v := 1) hx hb dX0_leastApart_46 (by decide) ?_
    refine lv_iadd hx hb dX0_leastApart_47 ?_
    exact fin _ _ _ (Option.some.inj hR) dX0_leastApart_48
  · rw [ho] at hR
    try dsimp only [jsum] at hR
    refine lv_iconst (v := 0) hx hb dX0_leastApart_55 (by decide) ?_
    exact fin _ _ _ (Option.some.inj hR) dX0_leastApart_56
