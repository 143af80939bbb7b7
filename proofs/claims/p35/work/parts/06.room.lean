/-! walks laid by wip/gen/gen.py: jf_.. what a method answers, jc_.. its contract -/
abbrev jw_Ro (g : jG) (a_this a_this_met a_this_met_bits : Nat) (v_blocks : Int64) (v_met_bits : Nat → Int64) : va_W := [(a_this, .inr (4, [.ref a_this_met, .long v_blocks])), (a_this_met, .inr (3, [.ref a_this_met_bits])), (a_this_met_bits, .inl (g.2.2.1, 8, .inr (.inl v_met_bits)))]
def jf_Ro_isBlock_b26 : Int32 :=
  1
def jf_Ro_isBlock (v_blocks : Int64) (x1 : Int32) (x2 : Int32) : Int32 :=
  if (jf_Bi_isCell x1 x2) = 0 then jf_Ro_isBlock_b26 else (if lg_cmp ((jlushr v_blocks (x1 + (8 * x2))) &&& 1) 0 = 0 then 0 else jf_Ro_isBlock_b26)
abbrev jr_Ro_isBlock : Room := { frames := 1, cells := 0, slots := 0, locals := 21 }
set_option maxRecDepth 100000 in
set_option maxHeartbeats 4000000 in
theorem jc_Ro_isBlock (l : Launch) (g : jG) (a_this a_this_met a_this_met_bits : Nat) (v_blocks : Int64) (v_met_bits : Nat → Int64) (x1 : Int32) (x2 : Int32) (R : Int32) (hR : jf_Ro_isBlock v_blocks x1 x2 = R) : Met l yX4_isBlock wsX4_isBlock jr_Ro_isBlock (jPr g [.ref a_this, .int x1, .int x2] (jw_Ro g a_this a_this_met a_this_met_bits v_blocks v_met_bits)) (vp_Si (fun r => r = R)) 0 0 (fun _ => False) := by
  refine jm_rz (cc := cX4_isBlock) (maxL := 3) (by decide +kernel) rfl (Nat.le_of_ble_eq_true rfl) ?_
  intro p e s m below meth c Q hx hb hml hown hts hK hP fin ls hl
  have hl : lv_has ls 3 [(0, .ref a_this), (1, .int x1), (2, .int x2)] := hl
  have hown : s.vm.findClass RX4 = some m.cls := hown
  have w_X4 : ∀ w ∈ u_ws RX4 TX4 2, w ∈ wsX4_isBlock := by decide +kernel
  have w_f18 := hts (.fieldLink RX4 18 "Billiardry$Room" "blocks" "J") (by decide +kernel)
  have J26 : ∀ (ls : Array Slot), lv_has ls 3 [] → jf_Ro_isBlock_b26 = R → W p l e jr_Ro_isBlock s m ([.ref a_this, .int x1, .int x2] : List Value).toArray below meth c s.heap [] 0 0 Q (F0 m 26 ls []) := by
    intro ls hl hR
    rw [jf_Ro_isBlock_b26] at hR
    refine lv_iconst (v := 1) hx hb dX4_isBlock_26 (by decide) ?_
    refine lv_goto (tgt := 31) hx hb dX4_isBlock_27 (by decide) ?_
    exact fin _ _ _ (Eq.trans (by decide) hR) dX4_isBlock_31
  rw [jf_Ro_isBlock] at hR
  refine lv_iload_n hx hb dX4_isBlock_0 rfl (lv_at hl 1 rfl) ?_
  refine lv_iload_n hx hb dX4_isBlock_1 rfl (lv_at hl 2 rfl) ?_
  refine jcall_ri (va_runSN (As := [.int x1, .int x2]) (rest := []) ⟨hx, hb, hml, hown, hts⟩ (jc_Bi_isCell l g  x1 x2 _ rfl) ⟨va_cnB 2 hts gX4_isBlock_X6_isCell_n22 rfl rfl rfl (jN_at (q := (RX4, 22, yX6_isCell)) hK.2 16 rfl) (hts (.initialized RX6) (by decide +kernel)) (by decide +kernel) ⟨Nat.le_of_ble_eq_true rfl, Nat.le_of_ble_eq_true rfl⟩, hts (.static yX6_isCell) (by decide +kernel), trivial⟩ (jpr_s hK (hP.sub (ws' := []) [] rfl)) rfl rfl hl.1 rfl (lv_room (Nat.le_of_ble_eq_true rfl)) dX4_isBlock_2 ⟨Nat.zero_le _, Nat.zero_le _⟩) ?_
  refine lv_if_eq (tgt := 26) hx hb dX4_isBlock_5 (by decide) (fun c_1 => ?_) (fun c_1 => ?_)
  · replace hR := Eq.trans (Eq.symm (if_pos c_1)) hR
    exact J26 _ (lv_sub hl [] rfl) hR
  · replace hR := Eq.trans (Eq.symm (if_neg c_1)) hR
    refine lv_aload_n hx hb dX4_isBlock_8 rfl (lv_at hl 0 rfl) ?_
    refine va_get (D := g.1) (ci := 4) (v := .long v_blocks) (C := RX4) (T := TX4) (N := 2) hx hb hts w_X4 hown hK.1 hP 0 rfl rfl 1 (by decide) w_f18 (fun _ h9 => h9) rfl dX4_isBlock_9 ?_
    refine lv_iload_n hx hb dX4_isBlock_12 rfl (lv_at hl 1 rfl) ?_
    refine lv_bipush (v := 8) hx hb dX4_isBlock_13 (by decide) ?_
    refine lv_iload_n hx hb dX4_isBlock_15 rfl (lv_at hl 2 rfl) ?_
    refine lv_imul hx hb dX4_isBlock_16 ?_
    refine lv_iadd hx hb dX4_isBlock_17 ?_
    refine lv_lushr (v := jlushr v_blocks (x1 + (8 * x2))) hx hb dX4_isBlock_18 rfl ?_
    refine lv_lconst (v := 1) hx hb dX4_isBlock_19 (by decide) ?_
    refine lv_land hx hb dX4_isBlock_20 ?_
    refine lv_lconst (v := 0) hx hb dX4_isBlock_21 (by decide) ?_
    refine W.lcmp hx hb dX4_isBlock_22 ?_
    refine lv_if_eq (tgt := 30) hx hb dX4_isBlock_23 (by decide) (fun c_2 => ?_) (fun c_2 => ?_)
    · replace hR := Eq.trans (Eq.symm (if_pos c_2)) hR
      refine lv_iconst (v := 0) hx hb dX4_isBlock_30 (by decide) ?_
      exact fin _ _ _ (Eq.trans (by decide) hR) dX4_isBlock_31
    · replace hR := Eq.trans (Eq.symm (if_neg c_2)) hR
      exact J26 _ (lv_sub hl [] rfl) hR
def jf_Ro_lay_b36 (v_blocks : Int64) (s1 : Int64) : Int64 :=
  s1
def jf_Ro_lay (v_blocks : Int64) (x1 : Int32) (x2 : Int32) (x3 : Int32) : Int64 :=
  jlet (jlshl 1 (x1 + (8 * x2))) (fun y4_1 => if x3 = 0 then (jf_Ro_lay_b36 v_blocks (v_blocks &&& (y4_1 ^^^ (-1)))) else (jf_Ro_lay_b36 v_blocks (v_blocks ||| y4_1)))
abbrev jr_Ro_lay : Room := { frames := 0, cells := 0, slots := 0, locals := 0 }
set_option maxRecDepth 100000 in
set_option maxHeartbeats 4000000 in
theorem jc_Ro_lay (l : Launch) (g : jG) (a_this a_this_met a_this_met_bits : Nat) (v_blocks : Int64) (v_met_bits : Nat → Int64) (x1 : Int32) (x2 : Int32) (x3 : Int32) (R : Int64) (hR : jf_Ro_lay v_blocks x1 x2 x3 = R) (sz : Nat) : Met l yX4_lay wsX4_lay jr_Ro_lay (jPw g [.ref a_this, .int x1, .int x2, .int x3] (jw_Ro g a_this a_this_met a_this_met_bits v_blocks v_met_bits) sz) (jQv g (jw_Ro g a_this a_this_met a_this_met_bits R v_met_bits) (va_A (jw_Ro g a_this a_this_met a_this_met_bits v_blocks v_met_bits) sz)) 0 0 (va_A (jw_Ro g a_this a_this_met a_this_met_bits v_blocks v_met_bits) sz) := by
  refine jm_wv (cc := cX4_lay) (maxL := 6) (by decide +kernel) rfl (Nat.le_of_ble_eq_true rfl) ?_
  intro p e s m below meth c A Q hx hb hml hown hts hK hP hD hA hS fin ls hl
  have hl : lv_has ls 6 [(0, .ref a_this), (1, .int x1), (2, .int x2), (3, .int x3)] := hl
  have hown : s.vm.findClass RX4 = some m.cls := hown
  have w_X4 : ∀ w ∈ u_ws RX4 TX4 2, w ∈ wsX4_lay := by decide +kernel
  have w_f18 := hts (.fieldLink RX4 18 "Billiardry$Room" "blocks" "J") (by decide +kernel)
  have J36 : ∀ (v_blocks : Int64) (s1 : Int64) (H : Heap) (locs : List Loc), va_P g.1 vwCl (jw_Ro g a_this a_this_met a_this_met_bits v_blocks v_met_bits) H → va_S A s.heap H locs → ∀ (ls : Array Slot), lv_has ls 6 [] → jf_Ro_lay_b36 v_blocks s1 = R → W p l e jr_Ro_lay s m ([.ref a_this, .int x1, .int x2, .int x3] : List Value).toArray below meth c H locs 0 0 Q (F0 m 36 ls [.long s1, .ref a_this]) := by
    intro v_blocks s1 H locs hP hS ls hl hR
    rw [jf_Ro_lay_b36] at hR
    refine va_put (D := g.1) (ci := 4) (v := .long s1) (ty := .long) (C := RX4) (T := TX4) (N := 2) hx hb hts w_X4 tyX4 tyX4_ok nmX4 hown hK.1 hP (jD_to hD rfl) hS 0 rfl rfl 1 (by decide) w_f18 (fun _ h9 => h9) rfl (by decide +kernel) rfl rfl (Nat.le_of_ble_eq_true rfl) dX4_lay_36 (fun H locs hP _ hS => ?_)
    have hP : va_P g.1 vwCl (jw_Ro g a_this a_this_met a_this_met_bits s1 v_met_bits) H := hP
    subst hR
    exact fin _ _ _ _ hP hS dX4_lay_39
  rw [jf_Ro_lay] at hR
  refine lv_lconst (v := 1) hx hb dX4_lay_0 (by decide) ?_
  refine lv_iload_n hx hb dX4_lay_1 rfl (lv_at hl 1 rfl) ?_
  refine lv_bipush (v := 8) hx hb dX4_lay_2 (by decide) ?_
  refine lv_iload_n hx hb dX4_lay_4 rfl (lv_at hl 2 rfl) ?_
  refine lv_imul hx hb dX4_lay_5 ?_
  refine lv_iadd hx hb dX4_lay_6 ?_
  refine lv_lshl (v := jlshl 1 (x1 + (8 * x2))) hx hb dX4_lay_7 rfl ?_
  refine jlet_l hR (fun y4_1 hR => ?_)
  try dsimp only at hR
  refine lv_lstore (lv' := [(4, .long y4_1), (0, .ref a_this), (1, .int x1), (2, .int x2), (3, .int x3)]) hx hb dX4_lay_8 hl (by decide) rfl (fun ls hl => ?_)
  refine lv_aload_n hx hb dX4_lay_10 rfl (lv_at hl 1 rfl) ?_
  refine lv_iload_n hx hb dX4_lay_11 rfl (lv_at hl 4 rfl) ?_
  refine lv_if_eq (tgt := 25) hx hb dX4_lay_12 (by decide) (fun c_1 => ?_) (fun c_1 => ?_)
  · replace hR := Eq.trans (Eq.symm (if_pos c_1)) hR
    refine lv_aload_n hx hb dX4_lay_25 rfl (lv_at hl 1 rfl) ?_
    refine va_get (D := g.1) (ci := 4) (v := .long v_blocks) (C := RX4) (T := TX4) (N := 2) hx hb hts w_X4 hown hK.1 hP 0 rfl rfl 1 (by decide) w_f18 (fun _ h9 => h9) rfl dX4_lay_26 ?_
    refine lv_lload hx hb dX4_lay_29 (lv_at hl 0 rfl) ?_
    refine lv_ldc2 (v := (-1)) hx hb hown (hts (.constantLong RX4 26 (-1)) (by decide +kernel)) dX4_lay_31 ?_
    refine lv_lxor hx hb dX4_lay_34 ?_
    refine lv_land hx hb dX4_lay_35 ?_
    exact J36 v_blocks (v_blocks &&& (y4_1 ^^^ (-1))) _ _ hP hS _ (lv_sub hl [] rfl) hR
  · replace hR := Eq.trans (Eq.symm (if_neg c_1)) hR
    refine lv_aload_n hx hb dX4_lay_15 rfl (lv_at hl 1 rfl) ?_
    refine va_get (D := g.1) (ci := 4) (v := .long v_blocks) (C := RX4) (T := TX4) (N := 2) hx hb hts w_X4 hown hK.1 hP 0 rfl rfl 1 (by decide) w_f18 (fun _ h9 => h9) rfl dX4_lay_16 ?_
    refine lv_lload hx hb dX4_lay_19 (lv_at hl 0 rfl) ?_
    refine lv_lor hx hb dX4_lay_21 ?_
    refine lv_goto (tgt := 36) hx hb dX4_lay_22 (by decide) ?_
    exact J36 v_blocks (v_blocks ||| y4_1) _ _ hP hS _ (lv_sub hl [] rfl) hR
def jf_Ro_floors (v_blocks : Int64) : Int32 :=
  64 - (jf_Lo_bitCount v_blocks)
abbrev jr_Ro_floors : Room := { frames := 1, cells := 0, slots := 0, locals := 21 }
set_option maxRecDepth 100000 in
set_option maxHeartbeats 4000000 in
theorem jc_Ro_floors (l : Launch) (g : jG) (a_this a_this_met a_this_met_bits : Nat) (v_blocks : Int64) (v_met_bits : Nat → Int64) (R : Int32) (hR : jf_Ro_floors v_blocks = R) : Met l yX4_floors wsX4_floors jr_Ro_floors (jPr g [.ref a_this] (jw_Ro g a_this a_this_met a_this_met_bits v_blocks v_met_bits)) (vp_Si (fun r => r = R)) 0 0 (fun _ => False) := by
  refine jm_ri (cc := cX4_floors) (maxL := 1) (by decide +kernel) rfl (Nat.le_of_ble_eq_true rfl) ?_
  intro p e s m below meth c Q hx hb hml hown hts hK hP fin ls hl
  have hl : lv_has ls 1 [(0, .ref a_this)] := hl
  have hown : s.vm.findClass RX4 = some m.cls := hown
  have w_X4 : ∀ w ∈ u_ws RX4 TX4 2, w ∈ wsX4_floors := by decide +kernel
  have w_f18 := hts (.fieldLink RX4 18 "Billiardry$Room" "blocks" "J") (by decide +kernel)
  rw [jf_Ro_floors] at hR
  refine lv_bipush (v := 64) hx hb dX4_floors_0 (by decide) ?_
  refine lv_aload_n hx hb dX4_floors_2 rfl (lv_at hl 0 rfl) ?_
  refine va_get (D := g.1) (ci := 4) (v := .long v_blocks) (C := RX4) (T := TX4) (N := 2) hx hb hts w_X4 hown hK.1 hP 0 rfl rfl 1 (by decide) w_f18 (fun _ h9 => h9) rfl dX4_floors_3 ?_
  refine jcall_ri (va_runS (As := [.long v_blocks]) (rest := [.int 64]) ⟨hx, hb, hml, hown, hts⟩ (jc_Lo_bitCount l g  v_blocks _ rfl) (va_cwS 1 hts gX4_floors_J13_bitCount_95d88 rfl rfl rfl (by decide +kernel) ⟨Nat.le_of_ble_eq_true rfl, Nat.le_of_ble_eq_true rfl⟩) (jpr_s hK (hP.sub (ws' := []) [] rfl)) rfl rfl hl.1 rfl (lv_room (Nat.le_of_ble_eq_true rfl)) dX4_floors_6 ⟨Nat.zero_le _, Nat.zero_le _⟩) ?_
  refine lv_isub hx hb dX4_floors_9 ?_
  exact fin _ _ _ hR dX4_floors_10
def jf_Ro_stateOf_b22 (s0 : Int32) (s1 : Int32) : Int32 :=
  s0 + s1
def jf_Ro_stateOf (x0 : Int32) (x1 : Int32) (x2 : Int32) (x3 : Int32) : Int32 :=
  if x3 = 0 then (jf_Ro_stateOf_b22 ((x0 + (8 * x1)) + (64 * x2)) 0) else (jf_Ro_stateOf_b22 ((x0 + (8 * x1)) + (64 * x2)) 256)
abbrev jr_Ro_stateOf : Room := { frames := 0, cells := 0, slots := 0, locals := 0 }
set_option maxRecDepth 100000 in
set_option maxHeartbeats 4000000 in
theorem jc_Ro_stateOf (l : Launch) (g : jG) (x0 : Int32) (x1 : Int32) (x2 : Int32) (x3 : Int32) (R : Int32) (hR : jf_Ro_stateOf x0 x1 x2 x3 = R) : Met l yX4_stateOf wsX4_stateOf jr_Ro_stateOf (jPr g [.int x0, .int x1, .int x2, .int x3] ([])) (vp_Si (fun r => r = R)) 0 0 (fun _ => False) := by
  refine jm_ri (cc := cX4_stateOf) (maxL := 4) (by decide +kernel) rfl (Nat.le_of_ble_eq_true rfl) ?_
  intro p e s m below meth c Q hx hb hml hown hts hK hP fin ls hl
  have hl : lv_has ls 4 [(0, .int x0), (1, .int x1), (2, .int x2), (3, .int x3)] := hl
  have hown : s.vm.findClass RX4 = some m.cls := hown
  have J22 : ∀ (s0 : Int32) (s1 : Int32) (ls : Array Slot), lv_has ls 4 [] → jf_Ro_stateOf_b22 s0 s1 = R → W p l e jr_Ro_stateOf s m ([.int x0, .int x1, .int x2, .int x3] : List Value).toArray below meth c s.heap [] 0 0 Q (F0 m 22 ls [.int s1, .int s0]) := by
    intro s0 s1 ls hl hR
    rw [jf_Ro_stateOf_b22] at hR
    refine lv_iadd hx hb dX4_stateOf_22 ?_
    exact fin _ _ _ hR dX4_stateOf_23
  rw [jf_Ro_stateOf] at hR
  refine lv_iload_n hx hb dX4_stateOf_0 rfl (lv_at hl 0 rfl) ?_
  refine lv_bipush (v := 8) hx hb dX4_stateOf_1 (by decide) ?_
  refine lv_iload_n hx hb dX4_stateOf_3 rfl (lv_at hl 1 rfl) ?_
  refine lv_imul hx hb dX4_stateOf_4 ?_
  refine lv_iadd hx hb dX4_stateOf_5 ?_
  refine lv_bipush (v := 64) hx hb dX4_stateOf_6 (by decide) ?_
  refine lv_iload_n hx hb dX4_stateOf_8 rfl (lv_at hl 2 rfl) ?_
  refine lv_imul hx hb dX4_stateOf_9 ?_
  refine lv_iadd hx hb dX4_stateOf_10 ?_
  refine lv_iload_n hx hb dX4_stateOf_11 rfl (lv_at hl 3 rfl) ?_
  refine lv_if_eq (tgt := 21) hx hb dX4_stateOf_12 (by decide) (fun c_1 => ?_) (fun c_1 => ?_)
  · replace hR := Eq.trans (Eq.symm (if_pos c_1)) hR
    refine lv_iconst (v := 0) hx hb dX4_stateOf_21 (by decide) ?_
    exact J22 ((x0 + (8 * x1)) + (64 * x2)) 0 _ (lv_sub hl [] rfl) hR
  · replace hR := Eq.trans (Eq.symm (if_neg c_1)) hR
    refine lv_sipush (v := 256) hx hb dX4_stateOf_15 (by decide) ?_
    refine lv_goto (tgt := 22) hx hb dX4_stateOf_18 (by decide) ?_
    exact J22 ((x0 + (8 * x1)) + (64 * x2)) 256 _ (lv_sub hl [] rfl) hR
def jf_Ro_xOf (x0 : Int32) : Int32 :=
  x0 &&& 7
abbrev jr_Ro_xOf : Room := { frames := 0, cells := 0, slots := 0, locals := 0 }
set_option maxRecDepth 100000 in
set_option maxHeartbeats 4000000 in
theorem jc_Ro_xOf (l : Launch) (g : jG) (x0 : Int32) (R : Int32) (hR : jf_Ro_xOf x0 = R) : Met l yX4_xOf wsX4_xOf jr_Ro_xOf (jPr g [.int x0] ([])) (vp_Si (fun r => r = R)) 0 0 (fun _ => False) := by
  refine jm_ri (cc := cX4_xOf) (maxL := 1) (by decide +kernel) rfl (Nat.le_of_ble_eq_true rfl) ?_
  intro p e s m below meth c Q hx hb hml hown hts hK hP fin ls hl
  have hl : lv_has ls 1 [(0, .int x0)] := hl
  have hown : s.vm.findClass RX4 = some m.cls := hown
  rw [jf_Ro_xOf] at hR
  refine lv_iload_n hx hb dX4_xOf_0 rfl (lv_at hl 0 rfl) ?_
  refine lv_bipush (v := 7) hx hb dX4_xOf_1 (by decide) ?_
  refine lv_iand hx hb dX4_xOf_3 ?_
  exact fin _ _ _ hR dX4_xOf_4
def jf_Ro_yOf (x0 : Int32) : Int32 :=
  (x0 >>> (3 &&& 31)) &&& 7
abbrev jr_Ro_yOf : Room := { frames := 0, cells := 0, slots := 0, locals := 0 }
set_option maxRecDepth 100000 in
set_option maxHeartbeats 4000000 in
theorem jc_Ro_yOf (l : Launch) (g : jG) (x0 : Int32) (R : Int32) (hR : jf_Ro_yOf x0 = R) : Met l yX4_yOf wsX4_yOf jr_Ro_yOf (jPr g [.int x0] ([])) (vp_Si (fun r => r = R)) 0 0 (fun _ => False) := by
  refine jm_ri (cc := cX4_yOf) (maxL := 1) (by decide +kernel) rfl (Nat.le_of_ble_eq_true rfl) ?_
  intro p e s m below meth c Q hx hb hml hown hts hK hP fin ls hl
  have hl : lv_has ls 1 [(0, .int x0)] := hl
  have hown : s.vm.findClass RX4 = some m.cls := hown
  rw [jf_Ro_yOf] at hR
  refine lv_iload_n hx hb dX4_yOf_0 rfl (lv_at hl 0 rfl) ?_
  refine lv_iconst (v := 3) hx hb dX4_yOf_1 (by decide) ?_
  refine lv_ishr hx hb dX4_yOf_2 ?_
  refine lv_bipush (v := 7) hx hb dX4_yOf_3 (by decide) ?_
  refine lv_iand hx hb dX4_yOf_5 ?_
  exact fin _ _ _ hR dX4_yOf_6
def jf_Ro_sideOf (x0 : Int32) : Int32 :=
  (x0 >>> (6 &&& 31)) &&& 3
abbrev jr_Ro_sideOf : Room := { frames := 0, cells := 0, slots := 0, locals := 0 }
set_option maxRecDepth 100000 in
set_option maxHeartbeats 4000000 in
theorem jc_Ro_sideOf (l : Launch) (g : jG) (x0 : Int32) (R : Int32) (hR : jf_Ro_sideOf x0 = R) : Met l yX4_sideOf wsX4_sideOf jr_Ro_sideOf (jPr g [.int x0] ([])) (vp_Si (fun r => r = R)) 0 0 (fun _ => False) := by
  refine jm_ri (cc := cX4_sideOf) (maxL := 1) (by decide +kernel) rfl (Nat.le_of_ble_eq_true rfl) ?_
  intro p e s m below meth c Q hx hb hml hown hts hK hP fin ls hl
  have hl : lv_has ls 1 [(0, .int x0)] := hl
  have hown : s.vm.findClass RX4 = some m.cls := hown
  rw [jf_Ro_sideOf] at hR
  refine lv_iload_n hx hb dX4_sideOf_0 rfl (lv_at hl 0 rfl) ?_
  refine lv_bipush (v := 6) hx hb dX4_sideOf_1 (by decide) ?_
  refine lv_ishr hx hb dX4_sideOf_3 ?_
  refine lv_iconst (v := 3) hx hb dX4_sideOf_4 (by decide) ?_
  refine lv_iand hx hb dX4_sideOf_5 ?_
  exact fin _ _ _ hR dX4_sideOf_6
def jf_Ro_isUpOf (x0 : Int32) : Int32 :=
  if x0 &&& 256 = 0 then 0 else 1
abbrev jr_Ro_isUpOf : Room := { frames := 0, cells := 0, slots := 0, locals := 0 }
set_option maxRecDepth 100000 in
set_option maxHeartbeats 4000000 in
theorem jc_Ro_isUpOf (l : Launch) (g : jG) (x0 : Int32) (R : Int32) (hR : jf_Ro_isUpOf x0 = R) : Met l yX4_isUpOf wsX4_isUpOf jr_Ro_isUpOf (jPr g [.int x0] ([])) (vp_Si (fun r => r = R)) 0 0 (fun _ => False) := by
  refine jm_rz (cc := cX4_isUpOf) (maxL := 1) (by decide +kernel) rfl (Nat.le_of_ble_eq_true rfl) ?_
  intro p e s m below meth c Q hx hb hml hown hts hK hP fin ls hl
  have hl : lv_has ls 1 [(0, .int x0)] := hl
  have hown : s.vm.findClass RX4 = some m.cls := hown
  rw [jf_Ro_isUpOf] at hR
  refine lv_iload_n hx hb dX4_isUpOf_0 rfl (lv_at hl 0 rfl) ?_
  refine lv_sipush (v := 256) hx hb dX4_isUpOf_1 (by decide) ?_
  refine lv_iand hx hb dX4_isUpOf_4 ?_
  refine lv_if_eq (tgt := 12) hx hb dX4_isUpOf_5 (by decide) (fun c_1 => ?_) (fun c_1 => ?_)
  · replace hR := Eq.trans (Eq.symm (if_pos c_1)) hR
    refine lv_iconst (v := 0) hx hb dX4_isUpOf_12 (by decide) ?_
    exact fin _ _ _ (Eq.trans (by decide) hR) dX4_isUpOf_13
  · replace hR := Eq.trans (Eq.symm (if_neg c_1)) hR
    refine lv_iconst (v := 1) hx hb dX4_isUpOf_8 (by decide) ?_
    refine lv_goto (tgt := 13) hx hb dX4_isUpOf_9 (by decide) ?_
    exact fin _ _ _ (Eq.trans (by decide) hR) dX4_isUpOf_13
def jf_Ro_isLow_b9 : Int32 :=
  1
def jf_Ro_isLow (x0 : Int32) : Int32 :=
  if x0 = 0 then jf_Ro_isLow_b9 else (if x0 = 1 then jf_Ro_isLow_b9 else 0)
abbrev jr_Ro_isLow : Room := { frames := 0, cells := 0, slots := 0, locals := 0 }
set_option maxRecDepth 100000 in
set_option maxHeartbeats 4000000 in
theorem jc_Ro_isLow (l : Launch) (g : jG) (x0 : Int32) (R : Int32) (hR : jf_Ro_isLow x0 = R) : Met l yX4_isLow wsX4_isLow jr_Ro_isLow (jPr g [.int x0] ([])) (vp_Si (fun r => r = R)) 0 0 (fun _ => False) := by
  refine jm_rz (cc := cX4_isLow) (maxL := 1) (by decide +kernel) rfl (Nat.le_of_ble_eq_true rfl) ?_
  intro p e s m below meth c Q hx hb hml hown hts hK hP fin ls hl
  have hl : lv_has ls 1 [(0, .int x0)] := hl
  have hown : s.vm.findClass RX4 = some m.cls := hown
  have J9 : ∀ (ls : Array Slot), lv_has ls 1 [] → jf_Ro_isLow_b9 = R → W p l e jr_Ro_isLow s m ([.int x0] : List Value).toArray below meth c s.heap [] 0 0 Q (F0 m 9 ls []) := by
    intro ls hl hR
    rw [jf_Ro_isLow_b9] at hR
    refine lv_iconst (v := 1) hx hb dX4_isLow_9 (by decide) ?_
    refine lv_goto (tgt := 14) hx hb dX4_isLow_10 (by decide) ?_
    exact fin _ _ _ (Eq.trans (by decide) hR) dX4_isLow_14
  rw [jf_Ro_isLow] at hR
  refine lv_iload_n hx hb dX4_isLow_0 rfl (lv_at hl 0 rfl) ?_
  refine lv_if_eq (tgt := 9) hx hb dX4_isLow_1 (by decide) (fun c_1 => ?_) (fun c_1 => ?_)
  · replace hR := Eq.trans (Eq.symm (if_pos c_1)) hR
    exact J9 _ (lv_sub hl [] rfl) hR
  · replace hR := Eq.trans (Eq.symm (if_neg c_1)) hR
    refine lv_iload_n hx hb dX4_isLow_4 rfl (lv_at hl 0 rfl) ?_
    refine lv_iconst (v := 1) hx hb dX4_isLow_5 (by decide) ?_
    refine lv_icmp_ne (tgt := 13) hx hb dX4_isLow_6 (by decide) (fun c_2 => ?_) (fun c_2 => ?_)
    · replace hR := Eq.trans (Eq.symm (if_neg c_2)) hR
      refine lv_iconst (v := 0) hx hb dX4_isLow_13 (by decide) ?_
      exact fin _ _ _ (Eq.trans (by decide) hR) dX4_isLow_14
    · replace hR := Eq.trans (Eq.symm (if_pos c_2)) hR
      exact J9 _ (lv_sub hl [] rfl) hR
def jf_Ro_isAcrossX_b9 : Int32 :=
  1
def jf_Ro_isAcrossX (x0 : Int32) : Int32 :=
  if x0 = 0 then jf_Ro_isAcrossX_b9 else (if x0 = 2 then jf_Ro_isAcrossX_b9 else 0)
abbrev jr_Ro_isAcrossX : Room := { frames := 0, cells := 0, slots := 0, locals := 0 }
set_option maxRecDepth 100000 in
set_option maxHeartbeats 4000000 in
theorem jc_Ro_isAcrossX (l : Launch) (g : jG) (x0 : Int32) (R : Int32) (hR : jf_Ro_isAcrossX x0 = R) : Met l yX4_isAcrossX wsX4_isAcrossX jr_Ro_isAcrossX (jPr g [.int x0] ([])) (vp_Si (fun r => r = R)) 0 0 (fun _ => False) := by
  refine jm_rz (cc := cX4_isAcrossX) (maxL := 1) (by decide +kernel) rfl (Nat.le_of_ble_eq_true rfl) ?_
  intro p e s m below meth c Q hx hb hml hown hts hK hP fin ls hl
  have hl : lv_has ls 1 [(0, .int x0)] := hl
  have hown : s.vm.findClass RX4 = some m.cls := hown
  have J9 : ∀ (ls : Array Slot), lv_has ls 1 [] → jf_Ro_isAcrossX_b9 = R → W p l e jr_Ro_isAcrossX s m ([.int x0] : List Value).toArray below meth c s.heap [] 0 0 Q (F0 m 9 ls []) := by
    intro ls hl hR
    rw [jf_Ro_isAcrossX_b9] at hR
    refine lv_iconst (v := 1) hx hb dX4_isAcrossX_9 (by decide) ?_
    refine lv_goto (tgt := 14) hx hb dX4_isAcrossX_10 (by decide) ?_
    exact fin _ _ _ (Eq.trans (by decide) hR) dX4_isAcrossX_14
  rw [jf_Ro_isAcrossX] at hR
  refine lv_iload_n hx hb dX4_isAcrossX_0 rfl (lv_at hl 0 rfl) ?_
  refine lv_if_eq (tgt := 9) hx hb dX4_isAcrossX_1 (by decide) (fun c_1 => ?_) (fun c_1 => ?_)
  · replace hR := Eq.trans (Eq.symm (if_pos c_1)) hR
    exact J9 _ (lv_sub hl [] rfl) hR
  · replace hR := Eq.trans (Eq.symm (if_neg c_1)) hR
    refine lv_iload_n hx hb dX4_isAcrossX_4 rfl (lv_at hl 0 rfl) ?_
    refine lv_iconst (v := 2) hx hb dX4_isAcrossX_5 (by decide) ?_
    refine lv_icmp_ne (tgt := 13) hx hb dX4_isAcrossX_6 (by decide) (fun c_2 => ?_) (fun c_2 => ?_)
    · replace hR := Eq.trans (Eq.symm (if_neg c_2)) hR
      refine lv_iconst (v := 0) hx hb dX4_isAcrossX_13 (by decide) ?_
      exact fin _ _ _ (Eq.trans (by decide) hR) dX4_isAcrossX_14
    · replace hR := Eq.trans (Eq.symm (if_pos c_2)) hR
      exact J9 _ (lv_sub hl [] rfl) hR
def jf_Ro_opposite (x0 : Int32) : Int32 :=
  (x0 + 2) &&& 3
abbrev jr_Ro_opposite : Room := { frames := 0, cells := 0, slots := 0, locals := 0 }
set_option maxRecDepth 100000 in
set_option maxHeartbeats 4000000 in
theorem jc_Ro_opposite (l : Launch) (g : jG) (x0 : Int32) (R : Int32) (hR : jf_Ro_opposite x0 = R) : Met l yX4_opposite wsX4_opposite jr_Ro_opposite (jPr g [.int x0] ([])) (vp_Si (fun r => r = R)) 0 0 (fun _ => False) := by
  refine jm_ri (cc := cX4_opposite) (maxL := 1) (by decide +kernel) rfl (Nat.le_of_ble_eq_true rfl) ?_
  intro p e s m below meth c Q hx hb hml hown hts hK hP fin ls hl
  have hl : lv_has ls 1 [(0, .int x0)] := hl
  have hown : s.vm.findClass RX4 = some m.cls := hown
  rw [jf_Ro_opposite] at hR
  refine lv_iload_n hx hb dX4_opposite_0 rfl (lv_at hl 0 rfl) ?_
  refine lv_iconst (v := 2) hx hb dX4_opposite_1 (by decide) ?_
  refine lv_iadd hx hb dX4_opposite_2 ?_
  refine lv_iconst (v := 3) hx hb dX4_opposite_3 (by decide) ?_
  refine lv_iand hx hb dX4_opposite_4 ?_
  exact fin _ _ _ hR dX4_opposite_5
def jf_Ro_xBehind_b22 (s0 : Int32) (s1 : Int32) : Int32 :=
  s0 + s1
def jf_Ro_xBehind (x0 : Int32) (x1 : Int32) : Int32 :=
  if x1 = 2 then (jf_Ro_xBehind_b22 (jf_Ro_xOf x0) 1) else (if x1 = 0 then (jf_Ro_xBehind_b22 (jf_Ro_xOf x0) (-1)) else (jf_Ro_xBehind_b22 (jf_Ro_xOf x0) 0))
abbrev jr_Ro_xBehind : Room := { frames := 1, cells := 0, slots := 0, locals := 20 }
set_option maxRecDepth 100000 in
set_option maxHeartbeats 4000000 in
theorem jc_Ro_xBehind (l : Launch) (g : jG) (x0 : Int32) (x1 : Int32) (R : Int32) (hR : jf_Ro_xBehind x0 x1 = R) : Met l yX4_xBehind wsX4_xBehind jr_Ro_xBehind (jPr g [.int x0, .int x1] ([])) (vp_Si (fun r => r = R)) 0 0 (fun _ => False) := by
  refine jm_ri (cc := cX4_xBehind) (maxL := 2) (by decide +kernel) rfl (Nat.le_of_ble_eq_true rfl) ?_
  intro p e s m below meth c Q hx hb hml hown hts hK hP fin ls hl
  have hl : lv_has ls 2 [(0, .int x0), (1, .int x1)] := hl
  have hown : s.vm.findClass RX4 = some m.cls := hown
  have J22 : ∀ (s0 : Int32) (s1 : Int32) (ls : Array Slot), lv_has ls 2 [] → jf_Ro_xBehind_b22 s0 s1 = R → W p l e jr_Ro_xBehind s m ([.int x0, .int x1] : List Value).toArray below meth c s.heap [] 0 0 Q (F0 m 22 ls [.int s1, .int s0]) := by
    intro s0 s1 ls hl hR
    rw [jf_Ro_xBehind_b22] at hR
    refine lv_iadd hx hb dX4_xBehind_22 ?_
    exact fin _ _ _ hR dX4_xBehind_23
  rw [jf_Ro_xBehind] at hR
  refine lv_iload_n hx hb dX4_xBehind_0 rfl (lv_at hl 0 rfl) ?_
  refine jcall_ri (va_runS (As := [.int x0]) (rest := []) ⟨hx, hb, hml, hown, hts⟩ (jc_Ro_xOf l g  x0 _ rfl) (va_cwS 1 hts gX4_xBehind_X4_xOf rfl rfl rfl (by decide +kernel) ⟨Nat.le_of_ble_eq_true rfl, Nat.le_of_ble_eq_true rfl⟩) (jpr_s hK hP) rfl rfl hl.1 rfl (lv_room (Nat.le_of_ble_eq_true rfl)) dX4_xBehind_1 ⟨Nat.zero_le _, Nat.zero_le _⟩) ?_
  refine lv_iload_n hx hb dX4_xBehind_4 rfl (lv_at hl 1 rfl) ?_
  refine lv_iconst (v := 2) hx hb dX4_xBehind_5 (by decide) ?_
  refine lv_icmp_ne (tgt := 13) hx hb dX4_xBehind_6 (by decide) (fun c_1 => ?_) (fun c_1 => ?_)
  · replace hR := Eq.trans (Eq.symm (if_neg c_1)) hR
    refine lv_iload_n hx hb dX4_xBehind_13 rfl (lv_at hl 1 rfl) ?_
    refine lv_if_ne (tgt := 21) hx hb dX4_xBehind_14 (by decide) (fun c_2 => ?_) (fun c_2 => ?_)
    · replace hR := Eq.trans (Eq.symm (if_neg c_2)) hR
      refine lv_iconst (v := 0) hx hb dX4_xBehind_21 (by decide) ?_
      exact J22 (jf_Ro_xOf x0) 0 _ (lv_sub hl [] rfl) hR
    · replace hR := Eq.trans (Eq.symm (if_pos c_2)) hR
      refine lv_iconst (v := (-1)) hx hb dX4_xBehind_17 (by decide) ?_
      refine lv_goto (tgt := 22) hx hb dX4_xBehind_18 (by decide) ?_
      exact J22 (jf_Ro_xOf x0) (-1) _ (lv_sub hl [] rfl) hR
  · replace hR := Eq.trans (Eq.symm (if_pos c_1)) hR
    refine lv_iconst (v := 1) hx hb dX4_xBehind_9 (by decide) ?_
    refine lv_goto (tgt := 22) hx hb dX4_xBehind_10 (by decide) ?_
    exact J22 (jf_Ro_xOf x0) 1 _ (lv_sub hl [] rfl) hR
def jf_Ro_yBehind_b23 (s0 : Int32) (s1 : Int32) : Int32 :=
  s0 + s1
def jf_Ro_yBehind (x0 : Int32) (x1 : Int32) : Int32 :=
  if x1 = 3 then (jf_Ro_yBehind_b23 (jf_Ro_yOf x0) 1) else (if x1 = 1 then (jf_Ro_yBehind_b23 (jf_Ro_yOf x0) (-1)) else (jf_Ro_yBehind_b23 (jf_Ro_yOf x0) 0))
abbrev jr_Ro_yBehind : Room := { frames := 1, cells := 0, slots := 0, locals := 20 }
set_option maxRecDepth 100000 in
set_option maxHeartbeats 4000000 in
theorem jc_Ro_yBehind (l : Launch) (g : jG) (x0 : Int32) (x1 : Int32) (R : Int32) (hR : jf_Ro_yBehind x0 x1 = R) : Met l yX4_yBehind wsX4_yBehind jr_Ro_yBehind (jPr g [.int x0, .int x1] ([])) (vp_Si (fun r => r = R)) 0 0 (fun _ => False) := by
  refine jm_ri (cc := cX4_yBehind) (maxL := 2) (by decide +kernel) rfl (Nat.le_of_ble_eq_true rfl) ?_
  intro p e s m below meth c Q hx hb hml hown hts hK hP fin ls hl
  have hl : lv_has ls 2 [(0, .int x0), (1, .int x1)] := hl
  have hown : s.vm.findClass RX4 = some m.cls := hown
  have J23 : ∀ (s0 : Int32) (s1 : Int32) (ls : Array Slot), lv_has ls 2 [] → jf_Ro_yBehind_b23 s0 s1 = R → W p l e jr_Ro_yBehind s m ([.int x0, .int x1] : List Value).toArray below meth c s.heap [] 0 0 Q (F0 m 23 ls [.int s1, .int s0]) := by
    intro s0 s1 ls hl hR
    rw [jf_Ro_yBehind_b23] at hR
    refine lv_iadd hx hb dX4_yBehind_23 ?_
    exact fin _ _ _ hR dX4_yBehind_24
  rw [jf_Ro_yBehind] at hR
  refine lv_iload_n hx hb dX4_yBehind_0 rfl (lv_at hl 0 rfl) ?_
  refine jcall_ri (va_runS (As := [.int x0]) (rest := []) ⟨hx, hb, hml, hown, hts⟩ (jc_Ro_yOf l g  x0 _ rfl) (va_cwS 1 hts gX4_yBehind_X4_yOf rfl rfl rfl (by decide +kernel) ⟨Nat.le_of_ble_eq_true rfl, Nat.le_of_ble_eq_true rfl⟩) (jpr_s hK hP) rfl rfl hl.1 rfl (lv_room (Nat.le_of_ble_eq_true rfl)) dX4_yBehind_1 ⟨Nat.zero_le _, Nat.zero_le _⟩) ?_
  refine lv_iload_n hx hb dX4_yBehind_4 rfl (lv_at hl 1 rfl) ?_
  refine lv_iconst (v := 3) hx hb dX4_yBehind_5 (by decide) ?_
  refine lv_icmp_ne (tgt := 13) hx hb dX4_yBehind_6 (by decide) (fun c_1 => ?_) (fun c_1 => ?_)
  · replace hR := Eq.trans (Eq.symm (if_neg c_1)) hR
    refine lv_iload_n hx hb dX4_yBehind_13 rfl (lv_at hl 1 rfl) ?_
    refine lv_iconst (v := 1) hx hb dX4_yBehind_14 (by decide) ?_
    refine lv_icmp_ne (tgt := 22) hx hb dX4_yBehind_15 (by decide) (fun c_2 => ?_) (fun c_2 => ?_)
    · replace hR := Eq.trans (Eq.symm (if_neg c_2)) hR
      refine lv_iconst (v := 0) hx hb dX4_yBehind_22 (by decide) ?_
      exact J23 (jf_Ro_yOf x0) 0 _ (lv_sub hl [] rfl) hR
    · replace hR := Eq.trans (Eq.symm (if_pos c_2)) hR
      refine lv_iconst (v := (-1)) hx hb dX4_yBehind_18 (by decide) ?_
      refine lv_goto (tgt := 23) hx hb dX4_yBehind_19 (by decide) ?_
      exact J23 (jf_Ro_yOf x0) (-1) _ (lv_sub hl [] rfl) hR
  · replace hR := Eq.trans (Eq.symm (if_pos c_1)) hR
    refine lv_iconst (v := 1) hx hb dX4_yBehind_9 (by decide) ?_
    refine lv_goto (tgt := 23) hx hb dX4_yBehind_10 (by decide) ?_
    exact J23 (jf_Ro_yOf x0) 1 _ (lv_sub hl [] rfl) hR
def jf_Ro_isBlockBehind (v_blocks : Int64) (x1 : Int32) (x2 : Int32) : Int32 :=
  (jf_Ro_isBlock v_blocks (jf_Ro_xBehind x1 x2) (jf_Ro_yBehind x1 x2)) &&& 1
abbrev jr_Ro_isBlockBehind : Room := { frames := 2, cells := 0, slots := 0, locals := 43 }
set_option maxRecDepth 100000 in
set_option maxHeartbeats 4000000 in
theorem jc_Ro_isBlockBehind (l : Launch) (g : jG) (a_this a_this_met a_this_met_bits : Nat) (v_blocks : Int64) (v_met_bits : Nat → Int64) (x1 : Int32) (x2 : Int32) (R : Int32) (hR : jf_Ro_isBlockBehind v_blocks x1 x2 = R) : Met l yX4_isBlockBehind wsX4_isBlockBehind jr_Ro_isBlockBehind (jPr g [.ref a_this, .int x1, .int x2] (jw_Ro g a_this a_this_met a_this_met_bits v_blocks v_met_bits)) (vp_Si (fun r => r = R)) 0 0 (fun _ => False) := by
  refine jm_rz (cc := cX4_isBlockBehind) (maxL := 3) (by decide +kernel) rfl (Nat.le_of_ble_eq_true rfl) ?_
  intro p e s m below meth c Q hx hb hml hown hts hK hP fin ls hl
  have hl : lv_has ls 3 [(0, .ref a_this), (1, .int x1), (2, .int x2)] := hl
  have hown : s.vm.findClass RX4 = some m.cls := hown
  rw [jf_Ro_isBlockBehind] at hR
  refine lv_aload_n hx hb dX4_isBlockBehind_0 rfl (lv_at hl 0 rfl) ?_
  refine lv_iload_n hx hb dX4_isBlockBehind_1 rfl (lv_at hl 1 rfl) ?_
  refine lv_iload_n hx hb dX4_isBlockBehind_2 rfl (lv_at hl 2 rfl) ?_
  refine jcall_ri (va_runS (As := [.int x1, .int x2]) (rest := [.ref a_this]) ⟨hx, hb, hml, hown, hts⟩ (jc_Ro_xBehind l g  x1 x2 _ rfl) (va_cwS 2 hts gX4_isBlockBehind_X4_xBehind rfl rfl rfl (by decide +kernel) ⟨Nat.le_of_ble_eq_true rfl, Nat.le_of_ble_eq_true rfl⟩) (jpr_s hK (hP.sub (ws' := []) [] rfl)) rfl rfl hl.1 rfl (lv_room (Nat.le_of_ble_eq_true rfl)) dX4_isBlockBehind_3 ⟨Nat.zero_le _, Nat.zero_le _⟩) ?_
  refine lv_iload_n hx hb dX4_isBlockBehind_6 rfl (lv_at hl 1 rfl) ?_
  refine lv_iload_n hx hb dX4_isBlockBehind_7 rfl (lv_at hl 2 rfl) ?_
  refine jcall_ri (va_runS (As := [.int x1, .int x2]) (rest := [.int (jf_Ro_xBehind x1 x2), .ref a_this]) ⟨hx, hb, hml, hown, hts⟩ (jc_Ro_yBehind l g  x1 x2 _ rfl) (va_cwS 2 hts gX4_isBlockBehind_X4_yBehind rfl rfl rfl (by decide +kernel) ⟨Nat.le_of_ble_eq_true rfl, Nat.le_of_ble_eq_true rfl⟩) (jpr_s hK (hP.sub (ws' := []) [] rfl)) rfl rfl hl.1 rfl (lv_room (Nat.le_of_ble_eq_true rfl)) dX4_isBlockBehind_8 ⟨Nat.zero_le _, Nat.zero_le _⟩) ?_
  refine jcall_ri (va_runV (As := [.int (jf_Ro_xBehind x1 x2), .int (jf_Ro_yBehind x1 x2)]) (rest := []) ⟨hx, hb, hml, hown, hts⟩ (jc_Ro_isBlock l g a_this a_this_met a_this_met_bits v_blocks v_met_bits (jf_Ro_xBehind x1 x2) (jf_Ro_yBehind x1 x2) _ rfl) (cwV 2 hts gX4_isBlockBehind_X4_isBlock rfl rfl rfl (by decide +kernel) ⟨Nat.le_of_ble_eq_true rfl, Nat.le_of_ble_eq_true rfl⟩) (jpr_v hK hP (ci := 4) (q0 := 0) rfl rfl) rfl rfl hl.1 rfl (lv_room (Nat.le_of_ble_eq_true rfl)) dX4_isBlockBehind_11 ⟨Nat.zero_le _, Nat.zero_le _⟩) ?_
  exact fin _ _ _ hR dX4_isBlockBehind_14
def jf_Ro_goalOf (x0 : Int32) : Int32 :=
  if (jf_Ro_isAcrossX (jf_Ro_sideOf x0)) = 0 then (if (jf_Ro_isUpOf x0) = 0 then 0 else 2) else (if (jf_Ro_isUpOf x0) = 0 then 1 else 3)
abbrev jr_Ro_goalOf : Room := { frames := 1, cells := 0, slots := 0, locals := 20 }
set_option maxRecDepth 100000 in
set_option maxHeartbeats 4000000 in
theorem jc_Ro_goalOf (l : Launch) (g : jG) (x0 : Int32) (R : Int32) (hR : jf_Ro_goalOf x0 = R) : Met l yX4_goalOf wsX4_goalOf jr_Ro_goalOf (jPr g [.int x0] ([])) (vp_Si (fun r => r = R)) 0 0 (fun _ => False) := by
  refine jm_ri (cc := cX4_goalOf) (maxL := 1) (by decide +kernel) rfl (Nat.le_of_ble_eq_true rfl) ?_
  intro p e s m below meth c Q hx hb hml hown hts hK hP fin ls hl
  have hl : lv_has ls 1 [(0, .int x0)] := hl
  have hown : s.vm.findClass RX4 = some m.cls := hown
  rw [jf_Ro_goalOf] at hR
  refine lv_iload_n hx hb dX4_goalOf_0 rfl (lv_at hl 0 rfl) ?_
  refine jcall_ri (va_runS (As := [.int x0]) (rest := []) ⟨hx, hb, hml, hown, hts⟩ (jc_Ro_sideOf l g  x0 _ rfl) (va_cwS 1 hts gX4_goalOf_X4_sideOf rfl rfl rfl (by decide +kernel) ⟨Nat.le_of_ble_eq_true rfl, Nat.le_of_ble_eq_true rfl⟩) (jpr_s hK hP) rfl rfl hl.1 rfl (lv_room (Nat.le_of_ble_eq_true rfl)) dX4_goalOf_1 ⟨Nat.zero_le _, Nat.zero_le _⟩) ?_
  refine jcall_ri (va_runS (As := [.int (jf_Ro_sideOf x0)]) (rest := []) ⟨hx, hb, hml, hown, hts⟩ (jc_Ro_isAcrossX l g  (jf_Ro_sideOf x0) _ rfl) (va_cwS 1 hts gX4_goalOf_X4_isAcrossX rfl rfl rfl (by decide +kernel) ⟨Nat.le_of_ble_eq_true rfl, Nat.le_of_ble_eq_true rfl⟩) (jpr_s hK hP) rfl rfl hl.1 rfl (lv_room (Nat.le_of_ble_eq_true rfl)) dX4_goalOf_4 ⟨Nat.zero_le _, Nat.zero_le _⟩) ?_
  refine lv_if_eq (tgt := 23) hx hb dX4_goalOf_7 (by decide) (fun c_1 => ?_) (fun c_1 => ?_)
  · replace hR := Eq.trans (Eq.symm (if_pos c_1)) hR
    refine lv_iload_n hx hb dX4_goalOf_23 rfl (lv_at hl 0 rfl) ?_
    refine jcall_ri (va_runS (As := [.int x0]) (rest := []) ⟨hx, hb, hml, hown, hts⟩ (jc_Ro_isUpOf l g  x0 _ rfl) (va_cwS 1 hts gX4_goalOf_X4_isUpOf rfl rfl rfl (by decide +kernel) ⟨Nat.le_of_ble_eq_true rfl, Nat.le_of_ble_eq_true rfl⟩) (jpr_s hK hP) rfl rfl hl.1 rfl (lv_room (Nat.le_of_ble_eq_true rfl)) dX4_goalOf_24 ⟨Nat.zero_le _, Nat.zero_le _⟩) ?_
    refine lv_if_eq (tgt := 34) hx hb dX4_goalOf_27 (by decide) (fun c_2 => ?_) (fun c_2 => ?_)
    · replace hR := Eq.trans (Eq.symm (if_pos c_2)) hR
      refine lv_iconst (v := 0) hx hb dX4_goalOf_34 (by decide) ?_
      exact fin _ _ _ hR dX4_goalOf_35
    · replace hR := Eq.trans (Eq.symm (if_neg c_2)) hR
      refine lv_iconst (v := 2) hx hb dX4_goalOf_30 (by decide) ?_
      refine lv_goto (tgt := 35) hx hb dX4_goalOf_31 (by decide) ?_
      exact fin _ _ _ hR dX4_goalOf_35
  · replace hR := Eq.trans (Eq.symm (if_neg c_1)) hR
    refine lv_iload_n hx hb dX4_goalOf_10 rfl (lv_at hl 0 rfl) ?_
    refine jcall_ri (va_runS (As := [.int x0]) (rest := []) ⟨hx, hb, hml, hown, hts⟩ (jc_Ro_isUpOf l g  x0 _ rfl) (va_cwS 1 hts gX4_goalOf_X4_isUpOf rfl rfl rfl (by decide +kernel) ⟨Nat.le_of_ble_eq_true rfl, Nat.le_of_ble_eq_true rfl⟩) (jpr_s hK hP) rfl rfl hl.1 rfl (lv_room (Nat.le_of_ble_eq_true rfl)) dX4_goalOf_11 ⟨Nat.zero_le _, Nat.zero_le _⟩) ?_
    refine lv_if_eq (tgt := 21) hx hb dX4_goalOf_14 (by decide) (fun c_3 => ?_) (fun c_3 => ?_)
    · replace hR := Eq.trans (Eq.symm (if_pos c_3)) hR
      refine lv_iconst (v := 1) hx hb dX4_goalOf_21 (by decide) ?_
      exact fin _ _ _ hR dX4_goalOf_22
    · replace hR := Eq.trans (Eq.symm (if_neg c_3)) hR
      refine lv_iconst (v := 3) hx hb dX4_goalOf_17 (by decide) ?_
      refine lv_goto (tgt := 22) hx hb dX4_goalOf_18 (by decide) ?_
      exact fin _ _ _ hR dX4_goalOf_22
def jf_Ro_doesBounce (v_blocks : Int64) (x1 : Int32) : Int32 :=
  (jf_Ro_isBlockBehind v_blocks x1 (jf_Ro_goalOf x1)) &&& 1
abbrev jr_Ro_doesBounce : Room := { frames := 3, cells := 0, slots := 0, locals := 65 }
set_option maxRecDepth 100000 in
set_option maxHeartbeats 4000000 in
theorem jc_Ro_doesBounce (l : Launch) (g : jG) (a_this a_this_met a_this_met_bits : Nat) (v_blocks : Int64) (v_met_bits : Nat → Int64) (x1 : Int32) (R : Int32) (hR : jf_Ro_doesBounce v_blocks x1 = R) : Met l yX4_doesBounce wsX4_doesBounce jr_Ro_doesBounce (jPr g [.ref a_this, .int x1] (jw_Ro g a_this a_this_met a_this_met_bits v_blocks v_met_bits)) (vp_Si (fun r => r = R)) 0 0 (fun _ => False) := by
  refine jm_rz (cc := cX4_doesBounce) (maxL := 2) (by decide +kernel) rfl (Nat.le_of_ble_eq_true rfl) ?_
  intro p e s m below meth c Q hx hb hml hown hts hK hP fin ls hl
  have hl : lv_has ls 2 [(0, .ref a_this), (1, .int x1)] := hl
  have hown : s.vm.findClass RX4 = some m.cls := hown
  rw [jf_Ro_doesBounce] at hR
  refine lv_aload_n hx hb dX4_doesBounce_0 rfl (lv_at hl 0 rfl) ?_
  refine lv_iload_n hx hb dX4_doesBounce_1 rfl (lv_at hl 1 rfl) ?_
  refine lv_iload_n hx hb dX4_doesBounce_2 rfl (lv_at hl 1 rfl) ?_
  refine jcall_ri (va_runS (As := [.int x1]) (rest := [.int x1, .ref a_this]) ⟨hx, hb, hml, hown, hts⟩ (jc_Ro_goalOf l g  x1 _ rfl) (va_cwS 1 hts gX4_doesBounce_X4_goalOf rfl rfl rfl (by decide +kernel) ⟨Nat.le_of_ble_eq_true rfl, Nat.le_of_ble_eq_true rfl⟩) (jpr_s hK (hP.sub (ws' := []) [] rfl)) rfl rfl hl.1 rfl (lv_room (Nat.le_of_ble_eq_true rfl)) dX4_doesBounce_3 ⟨Nat.zero_le _, Nat.zero_le _⟩) ?_
  refine jcall_ri (va_runV (As := [.int x1, .int (jf_Ro_goalOf x1)]) (rest := []) ⟨hx, hb, hml, hown, hts⟩ (jc_Ro_isBlockBehind l g a_this a_this_met a_this_met_bits v_blocks v_met_bits x1 (jf_Ro_goalOf x1) _ rfl) (cwV 2 hts gX4_doesBounce_X4_isBlockBehind rfl rfl rfl (by decide +kernel) ⟨Nat.le_of_ble_eq_true rfl, Nat.le_of_ble_eq_true rfl⟩) (jpr_v hK hP (ci := 4) (q0 := 0) rfl rfl) rfl rfl hl.1 rfl (lv_room (Nat.le_of_ble_eq_true rfl)) dX4_doesBounce_6 ⟨Nat.zero_le _, Nat.zero_le _⟩) ?_
  exact fin _ _ _ hR dX4_doesBounce_9
def jf_Ro_after (v_blocks : Int64) (x1 : Int32) : Int32 :=
  jlet (jf_Ro_goalOf x1) (fun y2_1 => jlet (jf_Ro_isLow (jf_Ro_sideOf x1)) (fun y3_1 => if (jf_Ro_isBlockBehind v_blocks x1 y2_1) = 0 then (jf_Ro_stateOf (jf_Ro_xBehind x1 y2_1) (jf_Ro_yBehind x1 y2_1) (jf_Ro_opposite y2_1) y3_1) else (jf_Ro_stateOf (jf_Ro_xOf x1) (jf_Ro_yOf x1) y2_1 y3_1)))
abbrev jr_Ro_after : Room := { frames := 3, cells := 0, slots := 0, locals := 65 }
set_option maxRecDepth 100000 in
set_option maxHeartbeats 4000000 in
theorem jc_Ro_after (l : Launch) (g : jG) (a_this a_this_met a_this_met_bits : Nat) (v_blocks : Int64) (v_met_bits : Nat → Int64) (x1 : Int32) (R : Int32) (hR : jf_Ro_after v_blocks x1 = R) : Met l yX4_after wsX4_after jr_Ro_after (jPr g [.ref a_this, .int x1] (jw_Ro g a_this a_this_met a_this_met_bits v_blocks v_met_bits)) (vp_Si (fun r => r = R)) 0 0 (fun _ => False) := by
  refine jm_ri (cc := cX4_after) (maxL := 4) (by decide +kernel) rfl (Nat.le_of_ble_eq_true rfl) ?_
  intro p e s m below meth c Q hx hb hml hown hts hK hP fin ls hl
  have hl : lv_has ls 4 [(0, .ref a_this), (1, .int x1)] := hl
  have hown : s.vm.findClass RX4 = some m.cls := hown
  rw [jf_Ro_after] at hR
  refine lv_iload_n hx hb dX4_after_0 rfl (lv_at hl 1 rfl) ?_
  refine jcall_ri (va_runS (As := [.int x1]) (rest := []) ⟨hx, hb, hml, hown, hts⟩ (jc_Ro_goalOf l g  x1 _ rfl) (va_cwS 1 hts gX4_after_X4_goalOf rfl rfl rfl (by decide +kernel) ⟨Nat.le_of_ble_eq_true rfl, Nat.le_of_ble_eq_true rfl⟩) (jpr_s hK (hP.sub (ws' := []) [] rfl)) rfl rfl hl.1 rfl (lv_room (Nat.le_of_ble_eq_true rfl)) dX4_after_1 ⟨Nat.zero_le _, Nat.zero_le _⟩) ?_
  refine jlet_i hR (fun y2_1 hR => ?_)
  try dsimp only at hR
  refine lv_istore_n (lv' := [(2, .int y2_1), (0, .ref a_this), (1, .int x1)]) hx hb dX4_after_4 rfl hl (by decide) rfl (fun ls hl => ?_)
  refine lv_iload_n hx hb dX4_after_5 rfl (lv_at hl 2 rfl) ?_
  refine jcall_ri (va_runS (As := [.int x1]) (rest := []) ⟨hx, hb, hml, hown, hts⟩ (jc_Ro_sideOf l g  x1 _ rfl) (va_cwS 1 hts gX4_after_X4_sideOf rfl rfl rfl (by decide +kernel) ⟨Nat.le_of_ble_eq_true rfl, Nat.le_of_ble_eq_true rfl⟩) (jpr_s hK (hP.sub (ws' := []) [] rfl)) rfl rfl hl.1 rfl (lv_room (Nat.le_of_ble_eq_true rfl)) dX4_after_6 ⟨Nat.zero_le _, Nat.zero_le _⟩) ?_
  refine jcall_ri (va_runS (As := [.int (jf_Ro_sideOf x1)]) (rest := []) ⟨hx, hb, hml, hown, hts⟩ (jc_Ro_isLow l g  (jf_Ro_sideOf x1) _ rfl) (va_cwS 1 hts gX4_after_X4_isLow rfl rfl rfl (by decide +kernel) ⟨Nat.le_of_ble_eq_true rfl, Nat.le_of_ble_eq_true rfl⟩) (jpr_s hK (hP.sub (ws' := []) [] rfl)) rfl rfl hl.1 rfl (lv_room (Nat.le_of_ble_eq_true rfl)) dX4_after_9 ⟨Nat.zero_le _, Nat.zero_le _⟩) ?_
  refine jlet_i hR (fun y3_1 hR => ?_)
  try dsimp only at hR
  refine lv_istore_n (lv' := [(3, .int y3_1), (2, .int y2_1), (0, .ref a_this), (1, .int x1)]) hx hb dX4_after_12 rfl hl (by decide) rfl (fun ls hl => ?_)
  refine lv_aload_n hx hb dX4_after_13 rfl (lv_at hl 2 rfl) ?_
  refine lv_iload_n hx hb dX4_after_14 rfl (lv_at hl 3 rfl) ?_
  refine lv_iload_n hx hb dX4_after_15 rfl (lv_at hl 1 rfl) ?_
  refine jcall_ri (va_runV (As := [.int x1, .int y2_1]) (rest := []) ⟨hx, hb, hml, hown, hts⟩ (jc_Ro_isBlockBehind l g a_this a_this_met a_this_met_bits v_blocks v_met_bits x1 y2_1 _ rfl) (cwV 2 hts gX4_after_X4_isBlockBehind rfl rfl rfl (by decide +kernel) ⟨Nat.le_of_ble_eq_true rfl, Nat.le_of_ble_eq_true rfl⟩) (jpr_v hK hP (ci := 4) (q0 := 0) rfl rfl) rfl rfl hl.1 rfl (lv_room (Nat.le_of_ble_eq_true rfl)) dX4_after_16 ⟨Nat.zero_le _, Nat.zero_le _⟩) ?_
  refine lv_if_eq (tgt := 36) hx hb dX4_after_19 (by decide) (fun c_1 => ?_) (fun c_1 => ?_)
  · replace hR := Eq.trans (Eq.symm (if_pos c_1)) hR
    refine lv_iload_n hx hb dX4_after_36 rfl (lv_at hl 3 rfl) ?_
    refine lv_iload_n hx hb dX4_after_37 rfl (lv_at hl 1 rfl) ?_
    refine jcall_ri (va_runS (As := [.int x1, .int y2_1]) (rest := []) ⟨hx, hb, hml, hown, hts⟩ (jc_Ro_xBehind l g  x1 y2_1 _ rfl) (va_cwS 2 hts gX4_after_X4_xBehind rfl rfl rfl (by decide +kernel) ⟨Nat.le_of_ble_eq_true rfl, Nat.le_of_ble_eq_true rfl⟩) (jpr_s hK (hP.sub (ws' := []) [] rfl)) rfl rfl hl.1 rfl (lv_room (Nat.le_of_ble_eq_true rfl)) dX4_after_38 ⟨Nat.zero_le _, Nat.zero_le _⟩) ?_
    refine lv_iload_n hx hb dX4_after_41 rfl (lv_at hl 3 rfl) ?_
    refine lv_iload_n hx hb dX4_after_42 rfl (lv_at hl 1 rfl) ?_
    refine jcall_ri (va_runS (As := [.int x1, .int y2_1]) (rest := [.int (jf_Ro_xBehind x1 y2_1)]) ⟨hx, hb, hml, hown, hts⟩ (jc_Ro_yBehind l g  x1 y2_1 _ rfl) (va_cwS 2 hts gX4_after_X4_yBehind rfl rfl rfl (by decide +kernel) ⟨Nat.le_of_ble_eq_true rfl, Nat.le_of_ble_eq_true rfl⟩) (jpr_s hK (hP.sub (ws' := []) [] rfl)) rfl rfl hl.1 rfl (lv_room (Nat.le_of_ble_eq_true rfl)) dX4_after_43 ⟨Nat.zero_le _, Nat.zero_le _⟩) ?_
    refine lv_iload_n hx hb dX4_after_46 rfl (lv_at hl 1 rfl) ?_
    refine jcall_ri (va_runS (As := [.int y2_1]) (rest := [.int (jf_Ro_yBehind x1 y2_1), .int (jf_Ro_xBehind x1 y2_1)]) ⟨hx, hb, hml, hown, hts⟩ (jc_Ro_opposite l g  y2_1 _ rfl) (va_cwS 1 hts gX4_after_X4_opposite rfl rfl rfl (by decide +kernel) ⟨Nat.le_of_ble_eq_true rfl, Nat.le_of_ble_eq_true rfl⟩) (jpr_s hK (hP.sub (ws' := []) [] rfl)) rfl rfl hl.1 rfl (lv_room (Nat.le_of_ble_eq_true rfl)) dX4_after_47 ⟨Nat.zero_le _, Nat.zero_le _⟩) ?_
    refine lv_iload_n hx hb dX4_after_50 rfl (lv_at hl 0 rfl) ?_
    refine jcall_ri (va_runS (As := [.int (jf_Ro_xBehind x1 y2_1), .int (jf_Ro_yBehind x1 y2_1), .int (jf_Ro_opposite y2_1), .int y3_1]) (rest := []) ⟨hx, hb, hml, hown, hts⟩ (jc_Ro_stateOf l g  (jf_Ro_xBehind x1 y2_1) (jf_Ro_yBehind x1 y2_1) (jf_Ro_opposite y2_1) y3_1 _ rfl) (va_cwS 4 hts gX4_after_X4_stateOf rfl rfl rfl (by decide +kernel) ⟨Nat.le_of_ble_eq_true rfl, Nat.le_of_ble_eq_true rfl⟩) (jpr_s hK (hP.sub (ws' := []) [] rfl)) rfl rfl hl.1 rfl (lv_room (Nat.le_of_ble_eq_true rfl)) dX4_after_51 ⟨Nat.zero_le _, Nat.zero_le _⟩) ?_
    exact fin _ _ _ hR dX4_after_54
  · replace hR := Eq.trans (Eq.symm (if_neg c_1)) hR
    refine lv_iload_n hx hb dX4_after_22 rfl (lv_at hl 3 rfl) ?_
    refine jcall_ri (va_runS (As := [.int x1]) (rest := []) ⟨hx, hb, hml, hown, hts⟩ (jc_Ro_xOf l g  x1 _ rfl) (va_cwS 1 hts gX4_after_X4_xOf rfl rfl rfl (by decide +kernel) ⟨Nat.le_of_ble_eq_true rfl, Nat.le_of_ble_eq_true rfl⟩) (jpr_s hK (hP.sub (ws' := []) [] rfl)) rfl rfl hl.1 rfl (lv_room (Nat.le_of_ble_eq_true rfl)) dX4_after_23 ⟨Nat.zero_le _, Nat.zero_le _⟩) ?_
    refine lv_iload_n hx hb dX4_after_26 rfl (lv_at hl 3 rfl) ?_
    refine jcall_ri (va_runS (As := [.int x1]) (rest := [.int (jf_Ro_xOf x1)]) ⟨hx, hb, hml, hown, hts⟩ (jc_Ro_yOf l g  x1 _ rfl) (va_cwS 1 hts gX4_after_X4_yOf rfl rfl rfl (by decide +kernel) ⟨Nat.le_of_ble_eq_true rfl, Nat.le_of_ble_eq_true rfl⟩) (jpr_s hK (hP.sub (ws' := []) [] rfl)) rfl rfl hl.1 rfl (lv_room (Nat.le_of_ble_eq_true rfl)) dX4_after_27 ⟨Nat.zero_le _, Nat.zero_le _⟩) ?_
    refine lv_iload_n hx hb dX4_after_30 rfl (lv_at hl 1 rfl) ?_
    refine lv_iload_n hx hb dX4_after_31 rfl (lv_at hl 0 rfl) ?_
    refine jcall_ri (va_runS (As := [.int (jf_Ro_xOf x1), .int (jf_Ro_yOf x1), .int y2_1, .int y3_1]) (rest := []) ⟨hx, hb, hml, hown, hts⟩ (jc_Ro_stateOf l g  (jf_Ro_xOf x1) (jf_Ro_yOf x1) y2_1 y3_1 _ rfl) (va_cwS 4 hts gX4_after_X4_stateOf rfl rfl rfl (by decide +kernel) ⟨Nat.le_of_ble_eq_true rfl, Nat.le_of_ble_eq_true rfl⟩) (jpr_s hK (hP.sub (ws' := []) [] rfl)) rfl rfl hl.1 rfl (lv_room (Nat.le_of_ble_eq_true rfl)) dX4_after_32 ⟨Nat.zero_le _, Nat.zero_le _⟩) ?_
    exact fin _ _ _ hR dX4_after_35
def jf_Ro_before_b66 (s0 : Int32) (s1 : Int32) (s2 : Int32) (s3 : Int32) : Int32 :=
  (jf_Ro_stateOf s0 s1 s2 s3)
def jf_Ro_before_b33 (v_blocks : Int64) (z1 : Int32) (z2 : Int32) (s0 : Int32) : Int32 :=
  if (jf_Ro_isBlockBehind v_blocks z1 z2) = 0 then (jf_Ro_stateOf (jf_Ro_xBehind z1 z2) (jf_Ro_yBehind z1 z2) s0 (jf_Ro_isLow z2)) else (if (jf_Ro_isLow z2) = 0 then (jf_Ro_before_b66 (jf_Ro_xOf z1) (jf_Ro_yOf z1) s0 1) else (jf_Ro_before_b66 (jf_Ro_xOf z1) (jf_Ro_yOf z1) s0 0))
def jf_Ro_before_b17 (v_blocks : Int64) (z1 : Int32) (z2 : Int32) (s0 : Int32) : Int32 :=
  if (jf_Ro_isUpOf z1) = 0 then (jf_Ro_before_b33 v_blocks z1 z2 (jf_Ro_opposite s0)) else (jf_Ro_before_b33 v_blocks z1 z2 s0)
def jf_Ro_before (v_blocks : Int64) (x1 : Int32) : Int32 :=
  jlet (jf_Ro_sideOf x1) (fun y2_1 => if (jf_Ro_isAcrossX y2_1) = 0 then (jf_Ro_before_b17 v_blocks x1 y2_1 0) else (jf_Ro_before_b17 v_blocks x1 y2_1 1))
abbrev jr_Ro_before : Room := { frames := 3, cells := 0, slots := 0, locals := 65 }
set_option maxRecDepth 100000 in
set_option maxHeartbeats 4000000 in
theorem jc_Ro_before (l : Launch) (g : jG) (a_this a_this_met a_this_met_bits : Nat) (v_blocks : Int64) (v_met_bits : Nat → Int64) (x1 : Int32) (R : Int32) (hR : jf_Ro_before v_blocks x1 = R) : Met l yX4_before wsX4_before jr_Ro_before (jPr g [.ref a_this, .int x1] (jw_Ro g a_this a_this_met a_this_met_bits v_blocks v_met_bits)) (vp_Si (fun r => r = R)) 0 0 (fun _ => False) := by
  refine jm_ri (cc := cX4_before) (maxL := 5) (by decide +kernel) rfl (Nat.le_of_ble_eq_true rfl) ?_
  intro p e s m below meth c Q hx hb hml hown hts hK hP fin ls hl
  have hl : lv_has ls 5 [(0, .ref a_this), (1, .int x1)] := hl
  have hown : s.vm.findClass RX4 = some m.cls := hown
  have J66 : ∀ (s0 : Int32) (s1 : Int32) (s2 : Int32) (s3 : Int32) (ls : Array Slot), lv_has ls 5 [] → jf_Ro_before_b66 s0 s1 s2 s3 = R → W p l e jr_Ro_before s m ([.ref a_this, .int x1] : List Value).toArray below meth c s.heap [] 0 0 Q (F0 m 66 ls [.int s3, .int s2, .int s1, .int s0]) := by
    intro s0 s1 s2 s3 ls hl hR
    rw [jf_Ro_before_b66] at hR
    refine jcall_ri (va_runS (As := [.int s0, .int s1, .int s2, .int s3]) (rest := []) ⟨hx, hb, hml, hown, hts⟩ (jc_Ro_stateOf l g  s0 s1 s2 s3 _ rfl) (va_cwS 4 hts gX4_before_X4_stateOf rfl rfl rfl (by decide +kernel) ⟨Nat.le_of_ble_eq_true rfl, Nat.le_of_ble_eq_true rfl⟩) (jpr_s hK (hP.sub (ws' := []) [] rfl)) rfl rfl hl.1 rfl (lv_room (Nat.le_of_ble_eq_true rfl)) dX4_before_66 ⟨Nat.zero_le _, Nat.zero_le _⟩) ?_
    exact fin _ _ _ hR dX4_before_69
  have J33 : ∀ (z1 : Int32) (z2 : Int32) (s0 : Int32) (ls : Array Slot), lv_has ls 5 [(0, .ref a_this), (1, .int z1), (2, .int z2)] → jf_Ro_before_b33 v_blocks z1 z2 s0 = R → W p l e jr_Ro_before s m ([.ref a_this, .int x1] : List Value).toArray below meth c s.heap [] 0 0 Q (F0 m 33 ls [.int s0]) := by
    intro z1 z2 s0 ls hl hR
    rw [jf_Ro_before_b33] at hR
    refine lv_istore (lv' := [(4, .int s0), (0, .ref a_this), (1, .int z1), (2, .int z2)]) hx hb dX4_before_33 hl (by decide) rfl (fun ls hl => ?_)
    refine lv_aload_n hx hb dX4_before_35 rfl (lv_at hl 1 rfl) ?_
    refine lv_iload_n hx hb dX4_before_36 rfl (lv_at hl 2 rfl) ?_
    refine lv_iload_n hx hb dX4_before_37 rfl (lv_at hl 3 rfl) ?_
    refine jcall_ri (va_runV (As := [.int z1, .int z2]) (rest := []) ⟨hx, hb, hml, hown, hts⟩ (jc_Ro_isBlockBehind l g a_this a_this_met a_this_met_bits v_blocks v_met_bits z1 z2 _ rfl) (cwV 2 hts gX4_before_X4_isBlockBehind rfl rfl rfl (by decide +kernel) ⟨Nat.le_of_ble_eq_true rfl, Nat.le_of_ble_eq_true rfl⟩) (jpr_v hK hP (ci := 4) (q0 := 0) rfl rfl) rfl rfl hl.1 rfl (lv_room (Nat.le_of_ble_eq_true rfl)) dX4_before_38 ⟨Nat.zero_le _, Nat.zero_le _⟩) ?_
    refine lv_if_eq (tgt := 70) hx hb dX4_before_41 (by decide) (fun c_3 => ?_) (fun c_3 => ?_)
    · replace hR := Eq.trans (Eq.symm (if_pos c_3)) hR
      refine lv_iload_n hx hb dX4_before_70 rfl (lv_at hl 2 rfl) ?_
      refine lv_iload_n hx hb dX4_before_71 rfl (lv_at hl 3 rfl) ?_
      refine jcall_ri (va_runS (As := [.int z1, .int z2]) (rest := []) ⟨hx, hb, hml, hown, hts⟩ (jc_Ro_xBehind l g  z1 z2 _ rfl) (va_cwS 2 hts gX4_before_X4_xBehind rfl rfl rfl (by decide +kernel) ⟨Nat.le_of_ble_eq_true rfl, Nat.le_of_ble_eq_true rfl⟩) (jpr_s hK (hP.sub (ws' := []) [] rfl)) rfl rfl hl.1 rfl (lv_room (Nat.le_of_ble_eq_true rfl)) dX4_before_72 ⟨Nat.zero_le _, Nat.zero_le _⟩) ?_
      refine lv_iload_n hx hb dX4_before_75 rfl (lv_at hl 2 rfl) ?_
      refine lv_iload_n hx hb dX4_before_76 rfl (lv_at hl 3 rfl) ?_
      refine jcall_ri (va_runS (As := [.int z1, .int z2]) (rest := [.int (jf_Ro_xBehind z1 z2)]) ⟨hx, hb, hml, hown, hts⟩ (jc_Ro_yBehind l g  z1 z2 _ rfl) (va_cwS 2 hts gX4_before_X4_yBehind rfl rfl rfl (by decide +kernel) ⟨Nat.le_of_ble_eq_true rfl, Nat.le_of_ble_eq_true rfl⟩) (jpr_s hK (hP.sub (ws' := []) [] rfl)) rfl rfl hl.1 rfl (lv_room (Nat.le_of_ble_eq_true rfl)) dX4_before_77 ⟨Nat.zero_le _, Nat.zero_le _⟩) ?_
      refine lv_iload hx hb dX4_before_80 (lv_at hl 0 rfl) ?_
      refine lv_iload_n hx hb dX4_before_82 rfl (lv_at hl 3 rfl) ?_
      refine jcall_ri (va_runS (As := [.int z2]) (rest := [.int s0, .int (jf_Ro_yBehind z1 z2), .int (jf_Ro_xBehind z1 z2)]) ⟨hx, hb, hml, hown, hts⟩ (jc_Ro_isLow l g  z2 _ rfl) (va_cwS 1 hts gX4_before_X4_isLow rfl rfl rfl (by decide +kernel) ⟨Nat.le_of_ble_eq_true rfl, Nat.le_of_ble_eq_true rfl⟩) (jpr_s hK (hP.sub (ws' := []) [] rfl)) rfl rfl hl.1 rfl (lv_room (Nat.le_of_ble_eq_true rfl)) dX4_before_83 ⟨Nat.zero_le _, Nat.zero_le _⟩) ?_
      refine jcall_ri (va_runS (As := [.int (jf_Ro_xBehind z1 z2), .int (jf_Ro_yBehind z1 z2), .int s0, .int (jf_Ro_isLow z2)]) (rest := []) ⟨hx, hb, hml, hown, hts⟩ (jc_Ro_stateOf l g  (jf_Ro_xBehind z1 z2) (jf_Ro_yBehind z1 z2) s0 (jf_Ro_isLow z2) _ rfl) (va_cwS 4 hts gX4_before_X4_stateOf rfl rfl rfl (by decide +kernel) ⟨Nat.le_of_ble_eq_true rfl, Nat.le_of_ble_eq_true rfl⟩) (jpr_s hK (hP.sub (ws' := []) [] rfl)) rfl rfl hl.1 rfl (lv_room (Nat.le_of_ble_eq_true rfl)) dX4_before_86 ⟨Nat.zero_le _, Nat.zero_le _⟩) ?_
      exact fin _ _ _ hR dX4_before_89
    · replace hR := Eq.trans (Eq.symm (if_neg c_3)) hR
      refine lv_iload_n hx hb dX4_before_44 rfl (lv_at hl 2 rfl) ?_
      refine jcall_ri (va_runS (As := [.int z1]) (rest := []) ⟨hx, hb, hml, hown, hts⟩ (jc_Ro_xOf l g  z1 _ rfl) (va_cwS 1 hts gX4_before_X4_xOf rfl rfl rfl (by decide +kernel) ⟨Nat.le_of_ble_eq_true rfl, Nat.le_of_ble_eq_true rfl⟩) (jpr_s hK (hP.sub (ws' := []) [] rfl)) rfl rfl hl.1 rfl (lv_room (Nat.le_of_ble_eq_true rfl)) dX4_before_45 ⟨Nat.zero_le _, Nat.zero_le _⟩) ?_
      refine lv_iload_n hx hb dX4_before_48 rfl (lv_at hl 2 rfl) ?_
      refine jcall_ri (va_runS (As := [.int z1]) (rest := [.int (jf_Ro_xOf z1)]) ⟨hx, hb, hml, hown, hts⟩ (jc_Ro_yOf l g  z1 _ rfl) (va_cwS 1 hts gX4_before_X4_yOf rfl rfl rfl (by decide +kernel) ⟨Nat.le_of_ble_eq_true rfl, Nat.le_of_ble_eq_true rfl⟩) (jpr_s hK (hP.sub (ws' := []) [] rfl)) rfl rfl hl.1 rfl (lv_room (Nat.le_of_ble_eq_true rfl)) dX4_before_49 ⟨Nat.zero_le _, Nat.zero_le _⟩) ?_
      refine lv_iload hx hb dX4_before_52 (lv_at hl 0 rfl) ?_
      refine lv_iload_n hx hb dX4_before_54 rfl (lv_at hl 3 rfl) ?_
      refine jcall_ri (va_runS (As := [.int z2]) (rest := [.int s0, .int (jf_Ro_yOf z1), .int (jf_Ro_xOf z1)]) ⟨hx, hb, hml, hown, hts⟩ (jc_Ro_isLow l g  z2 _ rfl) (va_cwS 1 hts gX4_before_X4_isLow rfl rfl rfl (by decide +kernel) ⟨Nat.le_of_ble_eq_true rfl, Nat.le_of_ble_eq_true rfl⟩) (jpr_s hK (hP.sub (ws' := []) [] rfl)) rfl rfl hl.1 rfl (lv_room (Nat.le_of_ble_eq_true rfl)) dX4_before_55 ⟨Nat.zero_le _, Nat.zero_le _⟩) ?_
      refine lv_if_ne (tgt := 65) hx hb dX4_before_58 (by decide) (fun c_4 => ?_) (fun c_4 => ?_)
      · replace hR := Eq.trans (Eq.symm (if_neg c_4)) hR
        refine lv_iconst (v := 0) hx hb dX4_before_65 (by decide) ?_
        exact J66 (jf_Ro_xOf z1) (jf_Ro_yOf z1) s0 0 _ (lv_sub hl [] rfl) hR
      · replace hR := Eq.trans (Eq.symm (if_pos c_4)) hR
        refine lv_iconst (v := 1) hx hb dX4_before_61 (by decide) ?_
        refine lv_goto (tgt := 66) hx hb dX4_before_62 (by decide) ?_
        exact J66 (jf_Ro_xOf z1) (jf_Ro_yOf z1) s0 1 _ (lv_sub hl [] rfl) hR
  have J17 : ∀ (z1 : Int32) (z2 : Int32) (s0 : Int32) (ls : Array Slot), lv_has ls 5 [(0, .ref a_this), (1, .int z1), (2, .int z2)] → jf_Ro_before_b17 v_blocks z1 z2 s0 = R → W p l e jr_Ro_before s m ([.ref a_this, .int x1] : List Value).toArray below meth c s.heap [] 0 0 Q (F0 m 17 ls [.int s0]) := by
    intro z1 z2 s0 ls hl hR
    rw [jf_Ro_before_b17] at hR
    refine lv_istore_n (lv' := [(3, .int s0), (0, .ref a_this), (1, .int z1), (2, .int z2)]) hx hb dX4_before_17 rfl hl (by decide) rfl (fun ls hl => ?_)
    refine lv_iload_n hx hb dX4_before_18 rfl (lv_at hl 2 rfl) ?_
    refine jcall_ri (va_runS (As := [.int z1]) (rest := []) ⟨hx, hb, hml, hown, hts⟩ (jc_Ro_isUpOf l g  z1 _ rfl) (va_cwS 1 hts gX4_before_X4_isUpOf rfl rfl rfl (by decide +kernel) ⟨Nat.le_of_ble_eq_true rfl, Nat.le_of_ble_eq_true rfl⟩) (jpr_s hK (hP.sub (ws' := []) [] rfl)) rfl rfl hl.1 rfl (lv_room (Nat.le_of_ble_eq_true rfl)) dX4_before_19 ⟨Nat.zero_le _, Nat.zero_le _⟩) ?_
    refine lv_if_eq (tgt := 29) hx hb dX4_before_22 (by decide) (fun c_2 => ?_) (fun c_2 => ?_)
    · replace hR := Eq.trans (Eq.symm (if_pos c_2)) hR
      refine lv_iload_n hx hb dX4_before_29 rfl (lv_at hl 0 rfl) ?_
      refine jcall_ri (va_runS (As := [.int s0]) (rest := []) ⟨hx, hb, hml, hown, hts⟩ (jc_Ro_opposite l g  s0 _ rfl) (va_cwS 1 hts gX4_before_X4_opposite rfl rfl rfl (by decide +kernel) ⟨Nat.le_of_ble_eq_true rfl, Nat.le_of_ble_eq_true rfl⟩) (jpr_s hK (hP.sub (ws' := []) [] rfl)) rfl rfl hl.1 rfl (lv_room (Nat.le_of_ble_eq_true rfl)) dX4_before_30 ⟨Nat.zero_le _, Nat.zero_le _⟩) ?_
      exact J33 z1 z2 (jf_Ro_opposite s0) _ (lv_sub hl [1, 2, 3] rfl) hR
    · replace hR := Eq.trans (Eq.symm (if_neg c_2)) hR
      refine lv_iload_n hx hb dX4_before_25 rfl (lv_at hl 0 rfl) ?_
      refine lv_goto (tgt := 33) hx hb dX4_before_26 (by decide) ?_
      exact J33 z1 z2 s0 _ (lv_sub hl [1, 2, 3] rfl) hR
  rw [jf_Ro_before] at hR
  refine lv_iload_n hx hb dX4_before_0 rfl (lv_at hl 1 rfl) ?_
  refine jcall_ri (va_runS (As := [.int x1]) (rest := []) ⟨hx, hb, hml, hown, hts⟩ (jc_Ro_sideOf l g  x1 _ rfl) (va_cwS 1 hts gX4_before_X4_sideOf rfl rfl rfl (by decide +kernel) ⟨Nat.le_of_ble_eq_true rfl, Nat.le_of_ble_eq_true rfl⟩) (jpr_s hK (hP.sub (ws' := []) [] rfl)) rfl rfl hl.1 rfl (lv_room (Nat.le_of_ble_eq_true rfl)) dX4_before_1 ⟨Nat.zero_le _, Nat.zero_le _⟩) ?_
  refine jlet_i hR (fun y2_1 hR => ?_)
  try dsimp only at hR
  refine lv_istore_n (lv' := [(2, .int y2_1), (0, .ref a_this), (1, .int x1)]) hx hb dX4_before_4 rfl hl (by decide) rfl (fun ls hl => ?_)
  refine lv_iload_n hx hb dX4_before_5 rfl (lv_at hl 0 rfl) ?_
  refine jcall_ri (va_runS (As := [.int y2_1]) (rest := []) ⟨hx, hb, hml, hown, hts⟩ (jc_Ro_isAcrossX l g  y2_1 _ rfl) (va_cwS 1 hts gX4_before_X4_isAcrossX rfl rfl rfl (by decide +kernel) ⟨Nat.le_of_ble_eq_true rfl, Nat.le_of_ble_eq_true rfl⟩) (jpr_s hK (hP.sub (ws' := []) [] rfl)) rfl rfl hl.1 rfl (lv_room (Nat.le_of_ble_eq_true rfl)) dX4_before_6 ⟨Nat.zero_le _, Nat.zero_le _⟩) ?_
  refine lv_if_eq (tgt := 16) hx hb dX4_before_9 (by decide) (fun c_1 => ?_) (fun c_1 => ?_)
  · replace hR := Eq.trans (Eq.symm (if_pos c_1)) hR
    refine lv_iconst (v := 0) hx hb dX4_before_16 (by decide) ?_
    exact J17 x1 y2_1 0 _ (lv_sub hl [1, 2, 0] rfl) hR
  · replace hR := Eq.trans (Eq.symm (if_neg c_1)) hR
    refine lv_iconst (v := 1) hx hb dX4_before_12 (by decide) ?_
    refine lv_goto (tgt := 17) hx hb dX4_before_13 (by decide) ?_
    exact J17 x1 y2_1 1 _ (lv_sub hl [1, 2, 0] rfl) hR
def jf_Ro_stepsRound_L8 (v_blocks : Int64) (z1 : Int32) : Nat → Int32 → Int32 → Option Int32
  | 0, _, _ => none
  | n + 1, z2, z3 =>
    if z3 = z1 then (some z2) else (if 512 ≤ z2 then (some z2) else (jlet (jf_Ro_after v_blocks z3) (fun y3_2 => (jf_Ro_stepsRound_L8 v_blocks z1 n) (z2 + 1) y3_2)))
def jf_Ro_stepsRound (v_blocks : Int64) (x1 : Int32) : Option Int32 :=
  jlet (jf_Ro_after v_blocks x1) (fun y3_1 => Option.bind (jf_Ro_stepsRound_L8 v_blocks x1 jF 1 y3_1) (fun q_1 => some q_1))
abbrev jr_Ro_stepsRound : Room := { frames := 4, cells := 0, slots := 0, locals := 88 }
set_option maxRecDepth 100000 in
set_option maxHeartbeats 4000000 in
theorem jc_Ro_stepsRound (l : Launch) (g : jG) (a_this a_this_met a_this_met_bits : Nat) (v_blocks : Int64) (v_met_bits : Nat → Int64) (x1 : Int32) (R : Int32) (hR : jf_Ro_stepsRound v_blocks x1 = some R) : Met l yX4_stepsRound wsX4_stepsRound jr_Ro_stepsRound (jPr g [.ref a_this, .int x1] (jw_Ro g a_this a_this_met a_this_met_bits v_blocks v_met_bits)) (vp_Si (fun r => r = R)) 0 0 (fun _ => False) := by
  refine jm_ri (cc := cX4_stepsRound) (maxL := 4) (by decide +kernel) rfl (Nat.le_of_ble_eq_true rfl) ?_
  intro p e s m below meth c Q hx hb hml hown hts hK hP fin ls hl
  have hl : lv_has ls 4 [(0, .ref a_this), (1, .int x1)] := hl
  have hown : s.vm.findClass RX4 = some m.cls := hown
  have L8 : ∀ (n : Nat) (z1 : Int32) (z2 : Int32) (z3 : Int32) (ls : Array Slot), lv_has ls 4 [(0, .ref a_this), (1, .int z1), (2, .int z2), (3, .int z3)] → ∀ q, jf_Ro_stepsRound_L8 v_blocks z1 n z2 z3 = some q → (∀ ls : Array Slot, lv_has ls 4 [(2, .int q)] → W p l e jr_Ro_stepsRound s m ([.ref a_this, .int x1] : List Value).toArray below meth c s.heap [] 0 0 Q (F0 m 32 ls [])) → W p l e jr_Ro_stepsRound s m ([.ref a_this, .int x1] : List Value).toArray below meth c s.heap [] 0 0 Q (F0 m 8 ls []) := by
    intro n z1
    induction n with
    | zero =>
      intro z2 z3 ls hl q hR k
      cases hR
    | succ n ih =>
      intro z2 z3 ls hl q hR k
      rw [jf_Ro_stepsRound_L8] at hR
      refine lv_iload_n hx hb dX4_stepsRound_8 rfl (lv_at hl 3 rfl) ?_
      refine lv_iload_n hx hb dX4_stepsRound_9 rfl (lv_at hl 1 rfl) ?_
      refine lv_icmp_eq (tgt := 32) hx hb dX4_stepsRound_10 (by decide) (fun c_1 => ?_) (fun c_1 => ?_)
      · replace hR := Eq.trans (Eq.symm (if_pos c_1)) hR
        cases hR
        exact k _ (lv_sub hl [2] rfl)
      · replace hR := Eq.trans (Eq.symm (if_neg c_1)) hR
        refine lv_iload_n hx hb dX4_stepsRound_13 rfl (lv_at hl 2 rfl) ?_
        refine lv_sipush (v := 512) hx hb dX4_stepsRound_14 (by decide) ?_
        refine lv_icmp_ge (tgt := 32) hx hb dX4_stepsRound_17 (by decide) (fun c_2 => ?_) (fun c_2 => ?_)
        · replace hR := Eq.trans (Eq.symm (if_pos c_2)) hR
          cases hR
          exact k _ (lv_sub hl [2] rfl)
        · replace hR := Eq.trans (Eq.symm (if_neg c_2)) hR
          refine lv_iinc (v := z2 + 1) (lv' := [(2, .int (z2 + 1)), (0, .ref a_this), (1, .int z1), (3, .int z3)]) hx hb dX4_stepsRound_20 hl (k := 2) rfl (by first | rfl | decide) (by decide) rfl (fun ls hl => ?_)
          refine lv_aload_n hx hb dX4_stepsRound_23 rfl (lv_at hl 1 rfl) ?_
          refine lv_iload_n hx hb dX4_stepsRound_24 rfl (lv_at hl 3 rfl) ?_
          refine jcall_ri (va_runV (As := [.int z3]) (rest := []) ⟨hx, hb, hml, hown, hts⟩ (jc_Ro_after l g a_this a_this_met a_this_met_bits v_blocks v_met_bits z3 _ rfl) (cwV 1 hts gX4_stepsRound_X4_after rfl rfl rfl (by decide +kernel) ⟨Nat.le_of_ble_eq_true rfl, Nat.le_of_ble_eq_true rfl⟩) (jpr_v hK hP (ci := 4) (q0 := 0) rfl rfl) rfl rfl hl.1 rfl (lv_room (Nat.le_of_ble_eq_true rfl)) dX4_stepsRound_25 ⟨Nat.zero_le _, Nat.zero_le _⟩) ?_
          refine jlet_i hR (fun y3_2 hR => ?_)
          try dsimp only at hR
          refine lv_istore_n (lv' := [(3, .int y3_2), (2, .int (z2 + 1)), (0, .ref a_this), (1, .int z1)]) hx hb dX4_stepsRound_28 rfl hl (by decide) rfl (fun ls hl => ?_)
          refine lv_goto (tgt := 8) hx hb dX4_stepsRound_29 (by decide) ?_
          exact ih (z2 + 1) y3_2 _ (lv_sub hl [2, 3, 1, 0] rfl) _ hR k
  rw [jf_Ro_stepsRound] at hR
  refine lv_iconst (v := 1) hx hb dX4_stepsRound_0 (by decide) ?_
  refine lv_istore_n (lv' := [(2, .int 1), (0, .ref a_this), (1, .int x1)]) hx hb dX4_stepsRound_1 rfl hl (by decide) rfl (fun ls hl => ?_)
  refine lv_aload_n hx hb dX4_stepsRound_2 rfl (lv_at hl 1 rfl) ?_
  refine lv_iload_n hx hb dX4_stepsRound_3 rfl (lv_at hl 2 rfl) ?_
  refine jcall_ri (va_runV (As := [.int x1]) (rest := []) ⟨hx, hb, hml, hown, hts⟩ (jc_Ro_after l g a_this a_this_met a_this_met_bits v_blocks v_met_bits x1 _ rfl) (cwV 1 hts gX4_stepsRound_X4_after rfl rfl rfl (by decide +kernel) ⟨Nat.le_of_ble_eq_true rfl, Nat.le_of_ble_eq_true rfl⟩) (jpr_v hK hP (ci := 4) (q0 := 0) rfl rfl) rfl rfl hl.1 rfl (lv_room (Nat.le_of_ble_eq_true rfl)) dX4_stepsRound_4 ⟨Nat.zero_le _, Nat.zero_le _⟩) ?_
  refine jlet_i hR (fun y3_1 hR => ?_)
  try dsimp only at hR
  refine lv_istore_n (lv' := [(3, .int y3_1), (2, .int 1), (0, .ref a_this), (1, .int x1)]) hx hb dX4_stepsRound_7 rfl hl (by decide) rfl (fun ls hl => ?_)
  obtain ⟨q_1, hq_1, hR⟩ := jbind hR
  try dsimp only at hR
  refine L8 jF x1 1 y3_1 _ (lv_sub hl [2, 3, 1, 0] rfl) _ hq_1 (fun ls hl => ?_)
  refine lv_iload_n hx hb dX4_stepsRound_32 rfl (lv_at hl 0 rfl) ?_
  exact fin _ _ _ (Option.some.inj hR) dX4_stepsRound_33
def jf_Ro_stepsRoundBackwards_L8 (v_blocks : Int64) (z1 : Int32) : Nat → Int32 → Int32 → Option Int32
  | 0, _, _ => none
  | n + 1, z2, z3 =>
    if z3 = z1 then (some z2) else (if 512 ≤ z2 then (some z2) else (jlet (jf_Ro_before v_blocks z3) (fun y3_2 => (jf_Ro_stepsRoundBackwards_L8 v_blocks z1 n) (z2 + 1) y3_2)))
def jf_Ro_stepsRoundBackwards (v_blocks : Int64) (x1 : Int32) : Option Int32 :=
  jlet (jf_Ro_before v_blocks x1) (fun y3_1 => Option.bind (jf_Ro_stepsRoundBackwards_L8 v_blocks x1 jF 1 y3_1) (fun q_1 => some q_1))
abbrev jr_Ro_stepsRoundBackwards : Room := { frames := 4, cells := 0, slots := 0, locals := 89 }
set_option maxRecDepth 100000 in
set_option maxHeartbeats 4000000 in
theorem jc_Ro_stepsRoundBackwards (l : Launch) (g : jG) (a_this a_this_met a_this_met_bits : Nat) (v_blocks : Int64) (v_met_bits : Nat → Int64) (x1 : Int32) (R : Int32) (hR : jf_Ro_stepsRoundBackwards v_blocks x1 = some R) : Met l yX4_stepsRoundBackwards wsX4_stepsRoundBackwards jr_Ro_stepsRoundBackwards (jPr g [.ref a_this, .int x1] (jw_Ro g a_this a_this_met a_this_met_bits v_blocks v_met_bits)) (vp_Si (fun r => r = R)) 0 0 (fun _ => False) := by
  refine jm_ri (cc := cX4_stepsRoundBackwards) (maxL := 4) (by decide +kernel) rfl (Nat.le_of_ble_eq_true rfl) ?_
  intro p e s m below meth c Q hx hb hml hown hts hK hP fin ls hl
  have hl : lv_has ls 4 [(0, .ref a_this), (1, .int x1)] := hl
  have hown : s.vm.findClass RX4 = some m.cls := hown
  have L8 : ∀ (n : Nat) (z1 : Int32) (z2 : Int32) (z3 : Int32) (ls : Array Slot), lv_has ls 4 [(0, .ref a_this), (1, .int z1), (2, .int z2), (3, .int z3)] → ∀ q, jf_Ro_stepsRoundBackwards_L8 v_blocks z1 n z2 z3 = some q → (∀ ls : Array Slot, lv_has ls 4 [(2, .int q)] → W p l e jr_Ro_stepsRoundBackwards s m ([.ref a_this, .int x1] : List Value).toArray below meth c s.heap [] 0 0 Q (F0 m 32 ls [])) → W p l e jr_Ro_stepsRoundBackwards s m ([.ref a_this, .int x1] : List Value).toArray below meth c s.heap [] 0 0 Q (F0 m 8 ls []) := by
    intro n z1
    induction n with
    | zero =>
      intro z2 z3 ls hl q hR k
      cases hR
    | succ n ih =>
      intro z2 z3 ls hl q hR k
      rw [jf_Ro_stepsRoundBackwards_L8] at hR
      refine lv_iload_n hx hb dX4_stepsRoundBackwards_8 rfl (lv_at hl 3 rfl) ?_
      refine lv_iload_n hx hb dX4_stepsRoundBackwards_9 rfl (lv_at hl 1 rfl) ?_
      refine lv_icmp_eq (tgt := 32) hx hb dX4_stepsRoundBackwards_10 (by decide) (fun c_1 => ?_) (fun c_1 => ?_)
      · replace hR := Eq.trans (Eq.symm (if_pos c_1)) hR
        cases hR
        exact k _ (lv_sub hl [2] rfl)
      · replace hR := Eq.trans (Eq.symm (if_neg c_1)) hR
        refine lv_iload_n hx hb dX4_stepsRoundBackwards_13 rfl (lv_at hl 2 rfl) ?_
        refine lv_sipush (v := 512) hx hb dX4_stepsRoundBackwards_14 (by decide) ?_
        refine lv_icmp_ge (tgt := 32) hx hb dX4_stepsRoundBackwards_17 (by decide) (fun c_2 => ?_) (fun c_2 => ?_)
        · replace hR := Eq.trans (Eq.symm (if_pos c_2)) hR
          cases hR
          exact k _ (lv_sub hl [2] rfl)
        · replace hR := Eq.trans (Eq.symm (if_neg c_2)) hR
          refine lv_iinc (v := z2 + 1) (lv' := [(2, .int (z2 + 1)), (0, .ref a_this), (1, .int z1), (3, .int z3)]) hx hb dX4_stepsRoundBackwards_20 hl (k := 2) rfl (by first | rfl | decide) (by decide) rfl (fun ls hl => ?_)
          refine lv_aload_n hx hb dX4_stepsRoundBackwards_23 rfl (lv_at hl 1 rfl) ?_
          refine lv_iload_n hx hb dX4_stepsRoundBackwards_24 rfl (lv_at hl 3 rfl) ?_
          refine jcall_ri (va_runV (As := [.int z3]) (rest := []) ⟨hx, hb, hml, hown, hts⟩ (jc_Ro_before l g a_this a_this_met a_this_met_bits v_blocks v_met_bits z3 _ rfl) (cwV 1 hts gX4_stepsRoundBackwards_X4_before rfl rfl rfl (by decide +kernel) ⟨Nat.le_of_ble_eq_true rfl, Nat.le_of_ble_eq_true rfl⟩) (jpr_v hK hP (ci := 4) (q0 := 0) rfl rfl) rfl rfl hl.1 rfl (lv_room (Nat.le_of_ble_eq_true rfl)) dX4_stepsRoundBackwards_25 ⟨Nat.zero_le _, Nat.zero_le _⟩) ?_
          refine jlet_i hR (fun y3_2 hR => ?_)
          try dsimp only at hR
          refine lv_istore_n (lv' := [(3, .int y3_2), (2, .int (z2 + 1)), (0, .ref a_this), (1, .int z1)]) hx hb dX4_stepsRoundBackwards_28 rfl hl (by decide) rfl (fun ls hl => ?_)
          refine lv_goto (tgt := 8) hx hb dX4_stepsRoundBackwards_29 (by decide) ?_
          exact ih (z2 + 1) y3_2 _ (lv_sub hl [2, 3, 1, 0] rfl) _ hR k
  rw [jf_Ro_stepsRoundBackwards] at hR
  refine lv_iconst (v := 1) hx hb dX4_stepsRoundBackwards_0 (by decide) ?_
  refine lv_istore_n (lv' := [(2, .int 1), (0, .ref a_this), (1, .int x1)]) hx hb dX4_stepsRoundBackwards_1 rfl hl (by decide) rfl (fun ls hl => ?_)
  refine lv_aload_n hx hb dX4_stepsRoundBackwards_2 rfl (lv_at hl 1 rfl) ?_
  refine lv_iload_n hx hb dX4_stepsRoundBackwards_3 rfl (lv_at hl 2 rfl) ?_
  refine jcall_ri (va_runV (As := [.int x1]) (rest := []) ⟨hx, hb, hml, hown, hts⟩ (jc_Ro_before l g a_this a_this_met a_this_met_bits v_blocks v_met_bits x1 _ rfl) (cwV 1 hts gX4_stepsRoundBackwards_X4_before rfl rfl rfl (by decide +kernel) ⟨Nat.le_of_ble_eq_true rfl, Nat.le_of_ble_eq_true rfl⟩) (jpr_v hK hP (ci := 4) (q0 := 0) rfl rfl) rfl rfl hl.1 rfl (lv_room (Nat.le_of_ble_eq_true rfl)) dX4_stepsRoundBackwards_4 ⟨Nat.zero_le _, Nat.zero_le _⟩) ?_
  refine jlet_i hR (fun y3_1 hR => ?_)
  try dsimp only at hR
  refine lv_istore_n (lv' := [(3, .int y3_1), (2, .int 1), (0, .ref a_this), (1, .int x1)]) hx hb dX4_stepsRoundBackwards_7 rfl hl (by decide) rfl (fun ls hl => ?_)
  obtain ⟨q_1, hq_1, hR⟩ := jbind hR
  try dsimp only at hR
  refine L8 jF x1 1 y3_1 _ (lv_sub hl [2, 3, 1, 0] rfl) _ hq_1 (fun ls hl => ?_)
  refine lv_iload_n hx hb dX4_stepsRoundBackwards_32 rfl (lv_at hl 0 rfl) ?_
  exact fin _ _ _ (Option.some.inj hR) dX4_stepsRoundBackwards_33
def jf_Ro_bouncesRound_b36 (self : Int32 → Int32 → Int32 → Option Int32) (v_blocks : Int64) (z1 : Int32) (z2 : Int32) (z3 : Int32) (z4 : Int32) : Option Int32 :=
  jlet (jf_Ro_after v_blocks z3) (fun y3_1 => self z2 y3_1 (z4 + 1))
def jf_Ro_bouncesRound_b25 (self : Int32 → Int32 → Int32 → Option Int32) (v_blocks : Int64) (z1 : Int32) (z2 : Int32) (z3 : Int32) (z4 : Int32) : Option Int32 :=
  if (jf_Ro_doesBounce v_blocks z3) = 0 then (jf_Ro_bouncesRound_b36 self v_blocks z1 z2 z3 z4) else (jf_Ro_bouncesRound_b36 self v_blocks z1 (z2 + 1) z3 z4)
def jf_Ro_bouncesRound_L7 (v_blocks : Int64) (z1 : Int32) : Nat → Int32 → Int32 → Int32 → Option Int32
  | 0, _, _, _ => none
  | n + 1, z2, z3, z4 =>
    if 512 ≤ z4 then (some z2) else (if z4 = 0 then (jf_Ro_bouncesRound_b25 (jf_Ro_bouncesRound_L7 v_blocks z1 n) v_blocks z1 z2 z3 z4) else (if z3 = z1 then (some z2) else (jf_Ro_bouncesRound_b25 (jf_Ro_bouncesRound_L7 v_blocks z1 n) v_blocks z1 z2 z3 z4)))
def jf_Ro_bouncesRound (v_blocks : Int64) (x1 : Int32) : Option Int32 :=
  Option.bind (jf_Ro_bouncesRound_L7 v_blocks x1 jF 0 x1 0) (fun q_1 => some q_1)
abbrev jr_Ro_bouncesRound : Room := { frames := 4, cells := 0, slots := 0, locals := 88 }
set_option maxRecDepth 100000 in
set_option maxHeartbeats 4000000 in
theorem jc_Ro_bouncesRound (l : Launch) (g : jG) (a_this a_this_met a_this_met_bits : Nat) (v_blocks : Int64) (v_met_bits : Nat → Int64) (x1 : Int32) (R : Int32) (hR : jf_Ro_bouncesRound v_blocks x1 = some R) : Met l yX4_bouncesRound wsX4_bouncesRound jr_Ro_bouncesRound (jPr g [.ref a_this, .int x1] (jw_Ro g a_this a_this_met a_this_met_bits v_blocks v_met_bits)) (vp_Si (fun r => r = R)) 0 0 (fun _ => False) := by
  refine jm_ri (cc := cX4_bouncesRound) (maxL := 5) (by decide +kernel) rfl (Nat.le_of_ble_eq_true rfl) ?_
  intro p e s m below meth c Q hx hb hml hown hts hK hP fin ls hl
  have hl : lv_has ls 5 [(0, .ref a_this), (1, .int x1)] := hl
  have hown : s.vm.findClass RX4 = some m.cls := hown
  have L7 : ∀ (n : Nat) (z1 : Int32) (z2 : Int32) (z3 : Int32) (z4 : Int32) (ls : Array Slot), lv_has ls 5 [(0, .ref a_this), (1, .int z1), (2, .int z2), (3, .int z3), (4, .int z4)] → ∀ q, jf_Ro_bouncesRound_L7 v_blocks z1 n z2 z3 z4 = some q → (∀ ls : Array Slot, lv_has ls 5 [(2, .int q)] → W p l e jr_Ro_bouncesRound s m ([.ref a_this, .int x1] : List Value).toArray below meth c s.heap [] 0 0 Q (F0 m 48 ls [])) → W p l e jr_Ro_bouncesRound s m ([.ref a_this, .int x1] : List Value).toArray below meth c s.heap [] 0 0 Q (F0 m 7 ls []) := by
    intro n z1
    induction n with
    | zero =>
      intro z2 z3 z4 ls hl q hR k
      cases hR
    | succ n ih =>
      have J36 : ∀ (z2 : Int32) (z3 : Int32) (z4 : Int32) (ls : Array Slot), lv_has ls 5 [(0, .ref a_this), (1, .int z1), (2, .int z2), (3, .int z3), (4, .int z4)] → ∀ q, jf_Ro_bouncesRound_b36 (jf_Ro_bouncesRound_L7 v_blocks z1 n) v_blocks z1 z2 z3 z4 = some q → (∀ ls : Array Slot, lv_has ls 5 [(2, .int q)] → W p l e jr_Ro_bouncesRound s m ([.ref a_this, .int x1] : List Value).toArray below meth c s.heap [] 0 0 Q (F0 m 48 ls [])) → W p l e jr_Ro_bouncesRound s m ([.ref a_this, .int x1] : List Value).toArray below meth c s.heap [] 0 0 Q (F0 m 36 ls []) := by
        intro z2 z3 z4 ls hl q hR k
        rw [jf_Ro_bouncesRound_b36] at hR
        refine lv_aload_n hx hb dX4_bouncesRound_36 rfl (lv_at hl 0 rfl) ?_
        refine lv_iload_n hx hb dX4_bouncesRound_37 rfl (lv_at hl 3 rfl) ?_
        refine jcall_ri (va_runV (As := [.int z3]) (rest := []) ⟨hx, hb, hml, hown, hts⟩ (jc_Ro_after l g a_this a_this_met a_this_met_bits v_blocks v_met_bits z3 _ rfl) (cwV 1 hts gX4_bouncesRound_X4_after rfl rfl rfl (by decide +kernel) ⟨Nat.le_of_ble_eq_true rfl, Nat.le_of_ble_eq_true rfl⟩) (jpr_v hK hP (ci := 4) (q0 := 0) rfl rfl) rfl rfl hl.1 rfl (lv_room (Nat.le_of_ble_eq_true rfl)) dX4_bouncesRound_38 ⟨Nat.zero_le _, Nat.zero_le _⟩) ?_
        refine jlet_i hR (fun y3_1 hR => ?_)
        try dsimp only at hR
        refine lv_istore_n (lv' := [(3, .int y3_1), (0, .ref a_this), (1, .int z1), (2, .int z2), (4, .int z4)]) hx hb dX4_bouncesRound_41 rfl hl (by decide) rfl (fun ls hl => ?_)
        refine lv_iinc (v := z4 + 1) (lv' := [(4, .int (z4 + 1)), (3, .int y3_1), (0, .ref a_this), (1, .int z1), (2, .int z2)]) hx hb dX4_bouncesRound_42 hl (k := 4) rfl (by first | rfl | decide) (by decide) rfl (fun ls hl => ?_)
        refine lv_goto (tgt := 7) hx hb dX4_bouncesRound_45 (by decide) ?_
        exact ih z2 y3_1 (z4 + 1) _ (lv_sub hl [2, 3, 4, 1, 0] rfl) _ hR k
      have J25 : ∀ (z2 : Int32) (z3 : Int32) (z4 : Int32) (ls : Array Slot), lv_has ls 5 [(0, .ref a_this), (1, .int z1), (2, .int z2), (3, .int z3), (4, .int z4)] → ∀ q, jf_Ro_bouncesRound_b25 (jf_Ro_bouncesRound_L7 v_blocks z1 n) v_blocks z1 z2 z3 z4 = some q → (∀ ls : Array Slot, lv_has ls 5 [(2, .int q)] → W p l e jr_Ro_bouncesRound s m ([.ref a_this, .int x1] : List Value).toArray below meth c s.heap [] 0 0 Q (F0 m 48 ls [])) → W p l e jr_Ro_bouncesRound s m ([.ref a_this, .int x1] : List Value).toArray below meth c s.heap [] 0 0 Q (F0 m 25 ls []) := by
        intro z2 z3 z4 ls hl q hR k
        rw [jf_Ro_bouncesRound_b25] at hR
        refine lv_aload_n hx hb dX4_bouncesRound_25 rfl (lv_at hl 0 rfl) ?_
        refine lv_iload_n hx hb dX4_bouncesRound_26 rfl (lv_at hl 3 rfl) ?_
        refine jcall_ri (va_runV (As := [.int z3]) (rest := []) ⟨hx, hb, hml, hown, hts⟩ (jc_Ro_doesBounce l g a_this a_this_met a_this_met_bits v_blocks v_met_bits z3 _ rfl) (cwV 1 hts gX4_bouncesRound_X4_doesBounce rfl rfl rfl (by decide +kernel) ⟨Nat.le_of_ble_eq_true rfl, Nat.le_of_ble_eq_true rfl⟩) (jpr_v hK hP (ci := 4) (q0 := 0) rfl rfl) rfl rfl hl.1 rfl (lv_room (Nat.le_of_ble_eq_true rfl)) dX4_bouncesRound_27 ⟨Nat.zero_le _, Nat.zero_le _⟩) ?_
        refine lv_if_eq (tgt := 36) hx hb dX4_bouncesRound_30 (by decide) (fun c_3 => ?_) (fun c_3 => ?_)
        · replace hR := Eq.trans (Eq.symm (if_pos c_3)) hR
          exact J36 z2 z3 z4 _ (lv_sub hl [0, 1, 2, 3, 4] rfl) _ hR k
        · replace hR := Eq.trans (Eq.symm (if_neg c_3)) hR
          refine lv_iinc (v := z2 + 1) (lv' := [(2, .int (z2 + 1)), (0, .ref a_this), (1, .int z1), (3, .int z3), (4, .int z4)]) hx hb dX4_bouncesRound_33 hl (k := 2) rfl (by first | rfl | decide) (by decide) rfl (fun ls hl => ?_)
          exact J36 (z2 + 1) z3 z4 _ (lv_sub hl [1, 2, 0, 3, 4] rfl) _ hR k
      intro z2 z3 z4 ls hl q hR k
      rw [jf_Ro_bouncesRound_L7] at hR
      refine lv_iload hx hb dX4_bouncesRound_7 (lv_at hl 4 rfl) ?_
      refine lv_sipush (v := 512) hx hb dX4_bouncesRound_9 (by decide) ?_
      refine lv_icmp_ge (tgt := 48) hx hb dX4_bouncesRound_12 (by decide) (fun c_1 => ?_) (fun c_1 => ?_)
      · replace hR := Eq.trans (Eq.symm (if_pos c_1)) hR
        cases hR
        exact k _ (lv_sub hl [2] rfl)
      · replace hR := Eq.trans (Eq.symm (if_neg c_1)) hR
        refine lv_iload hx hb dX4_bouncesRound_15 (lv_at hl 4 rfl) ?_
        refine lv_if_eq (tgt := 25) hx hb dX4_bouncesRound_17 (by decide) (fun c_2 => ?_) (fun c_2 => ?_)
        · replace hR := Eq.trans (Eq.symm (if_pos c_2)) hR
          exact J25 z2 z3 z4 _ (lv_sub hl [0, 1, 2, 3, 4] rfl) _ hR k
        · replace hR := Eq.trans (Eq.symm (if_neg c_2)) hR
          refine lv_iload_n hx hb dX4_bouncesRound_20 rfl (lv_at hl 3 rfl) ?_
          refine lv_iload_n hx hb dX4_bouncesRound_21 rfl (lv_at hl 1 rfl) ?_
          refine lv_icmp_eq (tgt := 48) hx hb dX4_bouncesRound_22 (by decide) (fun c_4 => ?_) (fun c_4 => ?_)
          · replace hR := Eq.trans (Eq.symm (if_pos c_4)) hR
            cases hR
            exact k _ (lv_sub hl [2] rfl)
          · replace hR := Eq.trans (Eq.symm (if_neg c_4)) hR
            exact J25 z2 z3 z4 _ (lv_sub hl [0, 1, 2, 3, 4] rfl) _ hR k
  rw [jf_Ro_bouncesRound] at hR
  refine lv_iconst (v := 0) hx hb dX4_bouncesRound_0 (by decide) ?_
  refine lv_istore_n (lv' := [(2, .int 0), (0, .ref a_this), (1, .int x1)]) hx hb dX4_bouncesRound_1 rfl hl (by decide) rfl (fun ls hl => ?_)
  refine lv_iload_n hx hb dX4_bouncesRound_2 rfl (lv_at hl 2 rfl) ?_
  refine lv_istore_n (lv' := [(3, .int x1), (2, .int 0), (0, .ref a_this), (1, .int x1)]) hx hb dX4_bouncesRound_3 rfl hl (by decide) rfl (fun ls hl => ?_)
  refine lv_iconst (v := 0) hx hb dX4_bouncesRound_4 (by decide) ?_
  refine lv_istore (lv' := [(4, .int 0), (3, .int x1), (2, .int 0), (0, .ref a_this), (1, .int x1)]) hx hb dX4_bouncesRound_5 hl (by decide) rfl (fun ls hl => ?_)
  obtain ⟨q_1, hq_1, hR⟩ := jbind hR
  try dsimp only at hR
  refine L7 jF x1 0 x1 0 _ (lv_sub hl [3, 4, 2, 1, 0] rfl) _ hq_1 (fun ls hl => ?_)
  refine lv_iload_n hx hb dX4_bouncesRound_48 rfl (lv_at hl 0 rfl) ?_
  exact fin _ _ _ (Option.some.inj hR) dX4_bouncesRound_49
def jf_Ro_cellsRound_b27 (self : Int64 → Int32 → Int32 → Option Int64) (v_blocks : Int64) (z1 : Int32) (z2 : Int64) (z4 : Int32) (z5 : Int32) : Option Int64 :=
  jlet (z2 ||| (jlshl 1 ((jf_Ro_xOf z4) + (8 * (jf_Ro_yOf z4))))) (fun y2_1 => jlet (jf_Ro_after v_blocks z4) (fun y4_1 => self y2_1 y4_1 (z5 + 1)))
def jf_Ro_cellsRound_L8 (v_blocks : Int64) (z1 : Int32) : Nat → Int64 → Int32 → Int32 → Option Int64
  | 0, _, _, _ => none
  | n + 1, z2, z4, z5 =>
    if 512 ≤ z5 then (some z2) else (if z5 = 0 then (jf_Ro_cellsRound_b27 (jf_Ro_cellsRound_L8 v_blocks z1 n) v_blocks z1 z2 z4 z5) else (if z4 = z1 then (some z2) else (jf_Ro_cellsRound_b27 (jf_Ro_cellsRound_L8 v_blocks z1 n) v_blocks z1 z2 z4 z5)))
def jf_Ro_cellsRound_b60 (z2 : Int64) : Option Int32 :=
  some (jf_Lo_bitCount z2)
def jf_Ro_cellsRound (v_blocks : Int64) (x1 : Int32) : Option Int32 :=
  Option.bind (jf_Ro_cellsRound_L8 v_blocks x1 jF 0 x1 0) (fun q_1 => jf_Ro_cellsRound_b60 q_1)
abbrev jr_Ro_cellsRound : Room := { frames := 4, cells := 0, slots := 0, locals := 88 }
set_option maxRecDepth 100000 in
set_option maxHeartbeats 4000000 in
theorem jc_Ro_cellsRound (l : Launch) (g : jG) (a_this a_this_met a_this_met_bits : Nat) (v_blocks : Int64) (v_met_bits : Nat → Int64) (x1 : Int32) (R : Int32) (hR : jf_Ro_cellsRound v_blocks x1 = some R) : Met l yX4_cellsRound wsX4_cellsRound jr_Ro_cellsRound (jPr g [.ref a_this, .int x1] (jw_Ro g a_this a_this_met a_this_met_bits v_blocks v_met_bits)) (vp_Si (fun r => r = R)) 0 0 (fun _ => False) := by
  refine jm_ri (cc := cX4_cellsRound) (maxL := 6) (by decide +kernel) rfl (Nat.le_of_ble_eq_true rfl) ?_
  intro p e s m below meth c Q hx hb hml hown hts hK hP fin ls hl
  have hl : lv_has ls 6 [(0, .ref a_this), (1, .int x1)] := hl
  have hown : s.vm.findClass RX4 = some m.cls := hown
  have L8 : ∀ (n : Nat) (z1 : Int32) (z2 : Int64) (z4 : Int32) (z5 : Int32) (ls : Array Slot), lv_has ls 6 [(0, .ref a_this), (1, .int z1), (2, .long z2), (4, .int z4), (5, .int z5)] → ∀ q, jf_Ro_cellsRound_L8 v_blocks z1 n z2 z4 z5 = some q → (∀ ls : Array Slot, lv_has ls 6 [(2, .long q)] → W p l e jr_Ro_cellsRound s m ([.ref a_this, .int x1] : List Value).toArray below meth c s.heap [] 0 0 Q (F0 m 60 ls [])) → W p l e jr_Ro_cellsRound s m ([.ref a_this, .int x1] : List Value).toArray below meth c s.heap [] 0 0 Q (F0 m 8 ls []) := by
    intro n z1
    induction n with
    | zero =>
      intro z2 z4 z5 ls hl q hR k
      cases hR
    | succ n ih =>
      have J27 : ∀ (z2 : Int64) (z4 : Int32) (z5 : Int32) (ls : Array Slot), lv_has ls 6 [(0, .ref a_this), (1, .int z1), (2, .long z2), (4, .int z4), (5, .int z5)] → ∀ q, jf_Ro_cellsRound_b27 (jf_Ro_cellsRound_L8 v_blocks z1 n) v_blocks z1 z2 z4 z5 = some q → (∀ ls : Array Slot, lv_has ls 6 [(2, .long q)] → W p l e jr_Ro_cellsRound s m ([.ref a_this, .int x1] : List Value).toArray below meth c s.heap [] 0 0 Q (F0 m 60 ls [])) → W p l e jr_Ro_cellsRound s m ([.ref a_this, .int x1] : List Value).toArray below meth c s.heap [] 0 0 Q (F0 m 27 ls []) := by
        intro z2 z4 z5 ls hl q hR k
        rw [jf_Ro_cellsRound_b27] at hR
        refine lv_lload_n hx hb dX4_cellsRound_27 rfl (lv_at hl 2 rfl) ?_
        refine lv_lconst (v := 1) hx hb dX4_cellsRound_28 (by decide) ?_
        refine lv_iload hx hb dX4_cellsRound_29 (lv_at hl 3 rfl) ?_
        refine jcall_ri (va_runS (As := [.int z4]) (rest := [.long 1, .long z2]) ⟨hx, hb, hml, hown, hts⟩ (jc_Ro_xOf l g  z4 _ rfl) (va_cwS 1 hts gX4_cellsRound_X4_xOf rfl rfl rfl (by decide +kernel) ⟨Nat.le_of_ble_eq_true rfl, Nat.le_of_ble_eq_true rfl⟩) (jpr_s hK (hP.sub (ws' := []) [] rfl)) rfl rfl hl.1 rfl (lv_room (Nat.le_of_ble_eq_true rfl)) dX4_cellsRound_31 ⟨Nat.zero_le _, Nat.zero_le _⟩) ?_
        refine lv_bipush (v := 8) hx hb dX4_cellsRound_34 (by decide) ?_
        refine lv_iload hx hb dX4_cellsRound_36 (lv_at hl 3 rfl) ?_
        refine jcall_ri (va_runS (As := [.int z4]) (rest := [.int 8, .int (jf_Ro_xOf z4), .long 1, .long z2]) ⟨hx, hb, hml, hown, hts⟩ (jc_Ro_yOf l g  z4 _ rfl) (va_cwS 1 hts gX4_cellsRound_X4_yOf rfl rfl rfl (by decide +kernel) ⟨Nat.le_of_ble_eq_true rfl, Nat.le_of_ble_eq_true rfl⟩) (jpr_s hK (hP.sub (ws' := []) [] rfl)) rfl rfl hl.1 rfl (lv_room (Nat.le_of_ble_eq_true rfl)) dX4_cellsRound_38 ⟨Nat.zero_le _, Nat.zero_le _⟩) ?_
        refine lv_imul hx hb dX4_cellsRound_41 ?_
        refine lv_iadd hx hb dX4_cellsRound_42 ?_
        refine lv_lshl (v := jlshl 1 ((jf_Ro_xOf z4) + (8 * (jf_Ro_yOf z4)))) hx hb dX4_cellsRound_43 rfl ?_
        refine lv_lor hx hb dX4_cellsRound_44 ?_
        refine jlet_l hR (fun y2_1 hR => ?_)
        try dsimp only at hR
        refine lv_lstore_n (lv' := [(2, .long y2_1), (0, .ref a_this), (1, .int z1), (4, .int z4), (5, .int z5)]) hx hb dX4_cellsRound_45 rfl hl (by decide) rfl (fun ls hl => ?_)
        refine lv_aload_n hx hb dX4_cellsRound_46 rfl (lv_at hl 1 rfl) ?_
        refine lv_iload hx hb dX4_cellsRound_47 (lv_at hl 3 rfl) ?_
        refine jcall_ri (va_runV (As := [.int z4]) (rest := []) ⟨hx, hb, hml, hown, hts⟩ (jc_Ro_after l g a_this a_this_met a_this_met_bits v_blocks v_met_bits z4 _ rfl) (cwV 1 hts gX4_cellsRound_X4_after rfl rfl rfl (by decide +kernel) ⟨Nat.le_of_ble_eq_true rfl, Nat.le_of_ble_eq_true rfl⟩) (jpr_v hK hP (ci := 4) (q0 := 0) rfl rfl) rfl rfl hl.1 rfl (lv_room (Nat.le_of_ble_eq_true rfl)) dX4_cellsRound_49 ⟨Nat.zero_le _, Nat.zero_le _⟩) ?_
        refine jlet_i hR (fun y4_1 hR => ?_)
        try dsimp only at hR
        refine lv_istore (lv' := [(4, .int y4_1), (2, .long y2_1), (0, .ref a_this), (1, .int z1), (5, .int z5)]) hx hb dX4_cellsRound_52 hl (by decide) rfl (fun ls hl => ?_)
        refine lv_iinc (v := z5 + 1) (lv' := [(5, .int (z5 + 1)), (4, .int y4_1), (2, .long y2_1), (0, .ref a_this), (1, .int z1)]) hx hb dX4_cellsRound_54 hl (k := 4) rfl (by first | rfl | decide) (by decide) rfl (fun ls hl => ?_)
        refine lv_goto (tgt := 8) hx hb dX4_cellsRound_57 (by decide) ?_
        exact ih y2_1 y4_1 (z5 + 1) _ (lv_sub hl [3, 4, 2, 1, 0] rfl) _ hR k
      intro z2 z4 z5 ls hl q hR k
      rw [jf_Ro_cellsRound_L8] at hR
      refine lv_iload hx hb dX4_cellsRound_8 (lv_at hl 4 rfl) ?_
      refine lv_sipush (v := 512) hx hb dX4_cellsRound_10 (by decide) ?_
      refine lv_icmp_ge (tgt := 60) hx hb dX4_cellsRound_13 (by decide) (fun c_1 => ?_) (fun c_1 => ?_)
      · replace hR := Eq.trans (Eq.symm (if_pos c_1)) hR
        cases hR
        exact k _ (lv_sub hl [2] rfl)
      · replace hR := Eq.trans (Eq.symm (if_neg c_1)) hR
        refine lv_iload hx hb dX4_cellsRound_16 (lv_at hl 4 rfl) ?_
        refine lv_if_eq (tgt := 27) hx hb dX4_cellsRound_18 (by decide) (fun c_2 => ?_) (fun c_2 => ?_)
        · replace hR := Eq.trans (Eq.symm (if_pos c_2)) hR
          exact J27 z2 z4 z5 _ (lv_sub hl [0, 1, 2, 3, 4] rfl) _ hR k
        · replace hR := Eq.trans (Eq.symm (if_neg c_2)) hR
          refine lv_iload hx hb dX4_cellsRound_21 (lv_at hl 3 rfl) ?_
          refine lv_iload_n hx hb dX4_cellsRound_23 rfl (lv_at hl 1 rfl) ?_
          refine lv_icmp_eq (tgt := 60) hx hb dX4_cellsRound_24 (by decide) (fun c_3 => ?_) (fun c_3 => ?_)
          · replace hR := Eq.trans (Eq.symm (if_pos c_3)) hR
            cases hR
            exact k _ (lv_sub hl [2] rfl)
          · replace hR := Eq.trans (Eq.symm (if_neg c_3)) hR
            exact J27 z2 z4 z5 _ (lv_sub hl [0, 1, 2, 3, 4] rfl) _ hR k
  have J60 : ∀ (z2 : Int64) (ls : Array Slot), lv_has ls 6 [(2, .long z2)] → jf_Ro_cellsRound_b60 z2 = some R → W p l e jr_Ro_cellsRound s m ([.ref a_this, .int x1] : List Value).toArray below meth c s.heap [] 0 0 Q (F0 m 60 ls []) := by
    intro z2 ls hl hR
    rw [jf_Ro_cellsRound_b60] at hR
    refine lv_lload_n hx hb dX4_cellsRound_60 rfl (lv_at hl 0 rfl) ?_
    refine jcall_ri (va_runS (As := [.long z2]) (rest := []) ⟨hx, hb, hml, hown, hts⟩ (jc_Lo_bitCount l g  z2 _ rfl) (va_cwS 1 hts gX4_cellsRound_J13_bitCount_95d88 rfl rfl rfl (by decide +kernel) ⟨Nat.le_of_ble_eq_true rfl, Nat.le_of_ble_eq_true rfl⟩) (jpr_s hK (hP.sub (ws' := []) [] rfl)) rfl rfl hl.1 rfl (lv_room (Nat.le_of_ble_eq_true rfl)) dX4_cellsRound_61 ⟨Nat.zero_le _, Nat.zero_le _⟩) ?_
    exact fin _ _ _ (Option.some.inj hR) dX4_cellsRound_64
  rw [jf_Ro_cellsRound] at hR
  refine lv_lconst (v := 0) hx hb dX4_cellsRound_0 (by decide) ?_
  refine lv_lstore_n (lv' := [(2, .long 0), (0, .ref a_this), (1, .int x1)]) hx hb dX4_cellsRound_1 rfl hl (by decide) rfl (fun ls hl => ?_)
  refine lv_iload_n hx hb dX4_cellsRound_2 rfl (lv_at hl 2 rfl) ?_
  refine lv_istore (lv' := [(4, .int x1), (2, .long 0), (0, .ref a_this), (1, .int x1)]) hx hb dX4_cellsRound_3 hl (by decide) rfl (fun ls hl => ?_)
  refine lv_iconst (v := 0) hx hb dX4_cellsRound_5 (by decide) ?_
  refine lv_istore (lv' := [(5, .int 0), (4, .int x1), (2, .long 0), (0, .ref a_this), (1, .int x1)]) hx hb dX4_cellsRound_6 hl (by decide) rfl (fun ls hl => ?_)
  obtain ⟨q_1, hq_1, hR⟩ := jbind hR
  try dsimp only at hR
  refine L8 jF x1 0 x1 0 _ (lv_sub hl [3, 4, 2, 1, 0] rfl) _ hq_1 (fun ls hl => ?_)
  exact J60 q_1 _ (lv_sub hl [0] rfl) hR
def jf_Ro_sideOfBounce_b56 (self : Int32 → Int32 → Int32 → Option (Int32 ⊕ Int32)) (v_blocks : Int64) (z4 : Int32) (z5 : Int32) (z6 : Int32) : Option (Int32 ⊕ Int32) :=
  jlet (jf_Ro_after v_blocks z5) (fun y5_1 => self z4 y5_1 (z6 + 1))
def jf_Ro_sideOfBounce_L25 (v_blocks : Int64) : Nat → Int32 → Int32 → Int32 → Option (Int32 ⊕ Int32)
  | 0, _, _, _ => none
  | n + 1, z4, z5, z6 =>
    if 512 ≤ z6 then (some (.inr z5)) else (if (jf_Ro_doesBounce v_blocks z5) = 0 then (jf_Ro_sideOfBounce_b56 (jf_Ro_sideOfBounce_L25 v_blocks n) v_blocks z4 z5 z6) else (if z4 = 0 then (some (.inl z5)) else (jf_Ro_sideOfBounce_b56 (jf_Ro_sideOfBounce_L25 v_blocks n) v_blocks (z4 + (-1)) z5 z6)))
def jf_Ro_sideOfBounce_b17 (v_blocks : Int64) (z1 : Int32) (s0 : Int32) : Option Int32 :=
  Option.bind (jf_Ro_sideOfBounce_L25 v_blocks jF s0 z1 0) (fun q_2 => jsum (fun o_1 => some (jf_Ro_goalOf o_1)) (fun o_2 => some (jf_Ro_goalOf o_2)) q_2)
def jf_Ro_sideOfBounce (v_blocks : Int64) (x1 : Int32) (x2 : Int32) : Option Int32 :=
  Option.bind (jf_Ro_bouncesRound v_blocks x1) (fun q_1 => if q_1 ≤ 0 then (jf_Ro_sideOfBounce_b17 v_blocks x1 0) else (if q_1 = 0 then none else jf_Ro_sideOfBounce_b17 v_blocks x1 (x2 - x2 / q_1 * q_1)))
abbrev jr_Ro_sideOfBounce : Room := { frames := 5, cells := 0, slots := 0, locals := 112 }
set_option maxRecDepth 100000 in
set_option maxHeartbeats 4000000 in
theorem jc_Ro_sideOfBounce (l : Launch) (g : jG) (a_this a_this_met a_this_met_bits : Nat) (v_blocks : Int64) (v_met_bits : Nat → Int64) (x1 : Int32) (x2 : Int32) (R : Int32) (hR : jf_Ro_sideOfBounce v_blocks x1 x2 = some R) : Met l yX4_sideOfBounce wsX4_sideOfBounce jr_Ro_sideOfBounce (jPr g [.ref a_this, .int x1, .int x2] (jw_Ro g a_this a_this_met a_this_met_bits v_blocks v_met_bits)) (vp_Si (fun r => r = R)) 0 0 (fun _ => False) := by
  refine jm_ri (cc := cX4_sideOfBounce) (maxL := 7) (by decide +kernel) rfl (Nat.le_of_ble_eq_true rfl) ?_
  intro p e s m below meth c Q hx hb hml hown hts hK hP fin ls hl
  have hl : lv_has ls 7 [(0, .ref a_this), (1, .int x1), (2, .int x2)] := hl
  have hown : s.vm.findClass RX4 = some m.cls := hown
  have L25 : ∀ (n : Nat) (z4 : Int32) (z5 : Int32) (z6 : Int32) (ls : Array Slot), lv_has ls 7 [(0, .ref a_this), (4, .int z4), (5, .int z5), (6, .int z6)] → ∀ q, jf_Ro_sideOfBounce_L25 v_blocks n z4 z5 z6 = some q → ((∀ o, q = .inl o → ∀ ls : Array Slot, lv_has ls 7 [(5, .int o)] → W p l e jr_Ro_sideOfBounce s m ([.ref a_this, .int x1, .int x2] : List Value).toArray below meth c s.heap [] 0 0 Q (F0 m 47 ls [])) ∧ (∀ o, q = .inr o → ∀ ls : Array Slot, lv_has ls 7 [(5, .int o)] → W p l e jr_Ro_sideOfBounce s m ([.ref a_this, .int x1, .int x2] : List Value).toArray below meth c s.heap [] 0 0 Q (F0 m 70 ls []))) → W p l e jr_Ro_sideOfBounce s m ([.ref a_this, .int x1, .int x2] : List Value).toArray below meth c s.heap [] 0 0 Q (F0 m 25 ls []) := by
    intro n
    induction n with
    | zero =>
      intro z4 z5 z6 ls hl q hR k
      cases hR
    | succ n ih =>
      have J56 : ∀ (z4 : Int32) (z5 : Int32) (z6 : Int32) (ls : Array Slot), lv_has ls 7 [(0, .ref a_this), (4, .int z4), (5, .int z5), (6, .int z6)] → ∀ q, jf_Ro_sideOfBounce_b56 (jf_Ro_sideOfBounce_L25 v_blocks n) v_blocks z4 z5 z6 = some q → ((∀ o, q = .inl o → ∀ ls : Array Slot, lv_has ls 7 [(5, .int o)] → W p l e jr_Ro_sideOfBounce s m ([.ref a_this, .int x1, .int x2] : List Value).toArray below meth c s.heap [] 0 0 Q (F0 m 47 ls [])) ∧ (∀ o, q = .inr o → ∀ ls : Array Slot, lv_has ls 7 [(5, .int o)] → W p l e jr_Ro_sideOfBounce s m ([.ref a_this, .int x1, .int x2] : List Value).toArray below meth c s.heap [] 0 0 Q (F0 m 70 ls []))) → W p l e jr_Ro_sideOfBounce s m ([.ref a_this, .int x1, .int x2] : List Value).toArray below meth c s.heap [] 0 0 Q (F0 m 56 ls []) := by
        intro z4 z5 z6 ls hl q hR k
        rw [jf_Ro_sideOfBounce_b56] at hR
        refine lv_aload_n hx hb dX4_sideOfBounce_56 rfl (lv_at hl 0 rfl) ?_
        refine lv_iload hx hb dX4_sideOfBounce_57 (lv_at hl 2 rfl) ?_
        refine jcall_ri (va_runV (As := [.int z5]) (rest := []) ⟨hx, hb, hml, hown, hts⟩ (jc_Ro_after l g a_this a_this_met a_this_met_bits v_blocks v_met_bits z5 _ rfl) (cwV 1 hts gX4_sideOfBounce_X4_after rfl rfl rfl (by decide +kernel) ⟨Nat.le_of_ble_eq_true rfl, Nat.le_of_ble_eq_true rfl⟩) (jpr_v hK hP (ci := 4) (q0 := 0) rfl rfl) rfl rfl hl.1 rfl (lv_room (Nat.le_of_ble_eq_true rfl)) dX4_sideOfBounce_59 ⟨Nat.zero_le _, Nat.zero_le _⟩) ?_
        refine jlet_i hR (fun y5_1 hR => ?_)
        try dsimp only at hR
        refine lv_istore (lv' := [(5, .int y5_1), (0, .ref a_this), (4, .int z4), (6, .int z6)]) hx hb dX4_sideOfBounce_62 hl (by decide) rfl (fun ls hl => ?_)
        refine lv_iinc (v := z6 + 1) (lv' := [(6, .int (z6 + 1)), (5, .int y5_1), (0, .ref a_this), (4, .int z4)]) hx hb dX4_sideOfBounce_64 hl (k := 3) rfl (by first | rfl | decide) (by decide) rfl (fun ls hl => ?_)
        refine lv_goto (tgt := 25) hx hb dX4_sideOfBounce_67 (by decide) ?_
        exact ih z4 y5_1 (z6 + 1) _ (lv_sub hl [2, 3, 1, 0] rfl) _ hR k
      intro z4 z5 z6 ls hl q hR k
      rw [jf_Ro_sideOfBounce_L25] at hR
      refine lv_iload hx hb dX4_sideOfBounce_25 (lv_at hl 3 rfl) ?_
      refine lv_sipush (v := 512) hx hb dX4_sideOfBounce_27 (by decide) ?_
      refine lv_icmp_ge (tgt := 70) hx hb dX4_sideOfBounce_30 (by decide) (fun c_2 => ?_) (fun c_2 => ?_)
      · replace hR := Eq.trans (Eq.symm (if_pos c_2)) hR
        cases hR
        exact k.2 _ rfl _ (lv_sub hl [2] rfl)
      · replace hR := Eq.trans (Eq.symm (if_neg c_2)) hR
        refine lv_aload_n hx hb dX4_sideOfBounce_33 rfl (lv_at hl 0 rfl) ?_
        refine lv_iload hx hb dX4_sideOfBounce_34 (lv_at hl 2 rfl) ?_
        refine jcall_ri (va_runV (As := [.int z5]) (rest := []) ⟨hx, hb, hml, hown, hts⟩ (jc_Ro_doesBounce l g a_this a_this_met a_this_met_bits v_blocks v_met_bits z5 _ rfl) (cwV 1 hts gX4_sideOfBounce_X4_doesBounce rfl rfl rfl (by decide +kernel) ⟨Nat.le_of_ble_eq_true rfl, Nat.le_of_ble_eq_true rfl⟩) (jpr_v hK hP (ci := 4) (q0 := 0) rfl rfl) rfl rfl hl.1 rfl (lv_room (Nat.le_of_ble_eq_true rfl)) dX4_sideOfBounce_36 ⟨Nat.zero_le _, Nat.zero_le _⟩) ?_
        refine lv_if_eq (tgt := 56) hx hb dX4_sideOfBounce_39 (by decide) (fun c_3 => ?_) (fun c_3 => ?_)
        · replace hR := Eq.trans (Eq.symm (if_pos c_3)) hR
          exact J56 z4 z5 z6 _ (lv_sub hl [0, 1, 2, 3] rfl) _ hR k
        · replace hR := Eq.trans (Eq.symm (if_neg c_3)) hR
          refine lv_iload hx hb dX4_sideOfBounce_42 (lv_at hl 1 rfl) ?_
          refine lv_if_ne (tgt := 53) hx hb dX4_sideOfBounce_44 (by decide) (fun c_4 => ?_) (fun c_4 => ?_)
          · replace hR := Eq.trans (Eq.symm (if_neg c_4)) hR
            refine lv_iinc (v := z4 + (-1)) (lv' := [(4, .int (z4 + (-1))), (0, .ref a_this), (5, .int z5), (6, .int z6)]) hx hb dX4_sideOfBounce_53 hl (k := 1) rfl (by first | rfl | decide) (by decide) rfl (fun ls hl => ?_)
            exact J56 (z4 + (-1)) z5 z6 _ (lv_sub hl [1, 0, 2, 3] rfl) _ hR k
          · replace hR := Eq.trans (Eq.symm (if_pos c_4)) hR
            cases hR
            exact k.1 _ rfl _ (lv_sub hl [2] rfl)
  have J17 : ∀ (z1 : Int32) (s0 : Int32) (ls : Array Slot), lv_has ls 7 [(0, .ref a_this), (1, .int z1)] → jf_Ro_sideOfBounce_b17 v_blocks z1 s0 = some R → W p l e jr_Ro_sideOfBounce s m ([.ref a_this, .int x1, .int x2] : List Value).toArray below meth c s.heap [] 0 0 Q (F0 m 17 ls [.int s0]) := by
    intro z1 s0 ls hl hR
    rw [jf_Ro_sideOfBounce_b17] at hR
    refine lv_istore (lv' := [(4, .int s0), (0, .ref a_this), (1, .int z1)]) hx hb dX4_sideOfBounce_17 hl (by decide) rfl (fun ls hl => ?_)
    refine lv_iload_n hx hb dX4_sideOfBounce_19 rfl (lv_at hl 2 rfl) ?_
    refine lv_istore (lv' := [(5, .int z1), (4, .int s0), (0, .ref a_this), (1, .int z1)]) hx hb dX4_sideOfBounce_20 hl (by decide) rfl (fun ls hl => ?_)
    refine lv_iconst (v := 0) hx hb dX4_sideOfBounce_22 (by decide) ?_
    refine lv_istore (lv' := [(6, .int 0), (5, .int z1), (4, .int s0), (0, .ref a_this), (1, .int z1)]) hx hb dX4_sideOfBounce_23 hl (by decide) rfl (fun ls hl => ?_)
    obtain ⟨q_2, hq_2, hR⟩ := jbind hR
    refine L25 jF s0 z1 0 _ (lv_sub hl [3, 2, 1, 0] rfl) _ hq_2 ⟨fun o_1 ho ls hl => ?_, fun o_2 ho ls hl => ?_⟩
    · rw [ho] at hR
      try dsimp only [jsum] at hR
      refine lv_iload hx hb dX4_sideOfBounce_47 (lv_at hl 0 rfl) ?_
      refine jcall_ri (va_runS (As := [.int o_1]) (rest := []) ⟨hx, hb, hml, hown, hts⟩ (jc_Ro_goalOf l g  o_1 _ rfl) (va_cwS 1 hts gX4_sideOfBounce_X4_goalOf rfl rfl rfl (by decide +kernel) ⟨Nat.le_of_ble_eq_true rfl, Nat.le_of_ble_eq_true rfl⟩) (jpr_s hK (hP.sub (ws' := []) [] rfl)) rfl rfl hl.1 rfl (lv_room (Nat.le_of_ble_eq_true rfl)) dX4_sideOfBounce_49 ⟨Nat.zero_le _, Nat.zero_le _⟩) ?_
      exact fin _ _ _ (Option.some.inj hR) dX4_sideOfBounce_52
    · rw [ho] at hR
      try dsimp only [jsum] at hR
      refine lv_iload hx hb dX4_sideOfBounce_70 (lv_at hl 0 rfl) ?_
      refine jcall_ri (va_runS (As := [.int o_2]) (rest := []) ⟨hx, hb, hml, hown, hts⟩ (jc_Ro_goalOf l g  o_2 _ rfl) (va_cwS 1 hts gX4_sideOfBounce_X4_goalOf rfl rfl rfl (by decide +kernel) ⟨Nat.le_of_ble_eq_true rfl, Nat.le_of_ble_eq_true rfl⟩) (jpr_s hK (hP.sub (ws' := []) [] rfl)) rfl rfl hl.1 rfl (lv_room (Nat.le_of_ble_eq_true rfl)) dX4_sideOfBounce_72 ⟨Nat.zero_le _, Nat.zero_le _⟩) ?_
      exact fin _ _ _ (Option.some.inj hR) dX4_sideOfBounce_75
  rw [jf_Ro_sideOfBounce] at hR
  refine lv_aload_n hx hb dX4_sideOfBounce_0 rfl (lv_at hl 0 rfl) ?_
  refine lv_iload_n hx hb dX4_sideOfBounce_1 rfl (lv_at hl 1 rfl) ?_
  obtain ⟨q_1, hq_1, hR⟩ := jbind hR
  try dsimp only at hR
  refine jcall_ri (va_runV (As := [.int x1]) (rest := []) ⟨hx, hb, hml, hown, hts⟩ (jc_Ro_bouncesRound l g a_this a_this_met a_this_met_bits v_blocks v_met_bits x1 _ hq_1) (cwV 1 hts gX4_sideOfBounce_X4_bouncesRound rfl rfl rfl (by decide +kernel) ⟨Nat.le_of_ble_eq_true rfl, Nat.le_of_ble_eq_true rfl⟩) (jpr_v hK hP (ci := 4) (q0 := 0) rfl rfl) rfl rfl hl.1 rfl (lv_room (Nat.le_of_ble_eq_true rfl)) dX4_sideOfBounce_2 ⟨Nat.zero_le _, Nat.zero_le _⟩) ?_
  refine lv_istore_n (lv' := [(3, .int q_1), (0, .ref a_this), (1, .int x1), (2, .int x2)]) hx hb dX4_sideOfBounce_5 rfl hl (by decide) rfl (fun ls hl => ?_)
  refine lv_iload_n hx hb dX4_sideOfBounce_6 rfl (lv_at hl 0 rfl) ?_
  refine lv_if_le (tgt := 16) hx hb dX4_sideOfBounce_7 (by decide) (fun c_1 => ?_) (fun c_1 => ?_)
  · replace hR := Eq.trans (Eq.symm (if_pos c_1)) hR
    refine lv_iconst (v := 0) hx hb dX4_sideOfBounce_16 (by decide) ?_
    exact J17 x1 0 _ (lv_sub hl [1, 2] rfl) hR
  · replace hR := Eq.trans (Eq.symm (if_neg c_1)) hR
    refine lv_iload_n hx hb dX4_sideOfBounce_10 rfl (lv_at hl 3 rfl) ?_
    refine lv_iload_n hx hb dX4_sideOfBounce_11 rfl (lv_at hl 0 rfl) ?_
    by_cases c_5 : q_1 = 0
    · replace hR := Eq.trans (Eq.symm (if_pos c_5)) hR
      cases hR
    replace hR := Eq.trans (Eq.symm (if_neg c_5)) hR
    refine lv_irem hx hb dX4_sideOfBounce_12 c_5 ?_
    refine lv_goto (tgt := 17) hx hb dX4_sideOfBounce_13 (by decide) ?_
    exact J17 x1 (x2 - x2 / q_1 * q_1) _ (lv_sub hl [1, 2] rfl) hR
def jf_Ro_stateBehind_L25 (v_blocks : Int64) (z4 : Int32) : Nat → Int32 → Int32 → Option Int32
  | 0, _, _ => none
  | n + 1, z5, z6 =>
    if z4 ≤ z6 then (some z5) else (jlet (jf_Ro_after v_blocks z5) (fun y5_1 => (jf_Ro_stateBehind_L25 v_blocks z4 n) y5_1 (z6 + 1)))
def jf_Ro_stateBehind_b17 (v_blocks : Int64) (z1 : Int32) (s0 : Int32) : Option Int32 :=
  Option.bind (jf_Ro_stateBehind_L25 v_blocks s0 jF z1 0) (fun q_2 => some q_2)
def jf_Ro_stateBehind (v_blocks : Int64) (x1 : Int32) (x2 : Int32) : Option Int32 :=
  Option.bind (jf_Ro_stepsRound v_blocks x1) (fun q_1 => if q_1 ≤ 0 then (jf_Ro_stateBehind_b17 v_blocks x1 0) else (if q_1 = 0 then none else jf_Ro_stateBehind_b17 v_blocks x1 (x2 - x2 / q_1 * q_1)))
abbrev jr_Ro_stateBehind : Room := { frames := 5, cells := 0, slots := 0, locals := 111 }
set_option maxRecDepth 100000 in
set_option maxHeartbeats 4000000 in
theorem jc_Ro_stateBehind (l : Launch) (g : jG) (a_this a_this_met a_this_met_bits : Nat) (v_blocks : Int64) (v_met_bits : Nat → Int64) (x1 : Int32) (x2 : Int32) (R : Int32) (hR : jf_Ro_stateBehind v_blocks x1 x2 = some R) : Met l yX4_stateBehind wsX4_stateBehind jr_Ro_stateBehind (jPr g [.ref a_this, .int x1, .int x2] (jw_Ro g a_this a_this_met a_this_met_bits v_blocks v_met_bits)) (vp_Si (fun r => r = R)) 0 0 (fun _ => False) := by
  refine jm_ri (cc := cX4_stateBehind) (maxL := 7) (by decide +kernel) rfl (Nat.le_of_ble_eq_true rfl) ?_
  intro p e s m below meth c Q hx hb hml hown hts hK hP fin ls hl
  have hl : lv_has ls 7 [(0, .ref a_this), (1, .int x1), (2, .int x2)] := hl
  have hown : s.vm.findClass RX4 = some m.cls := hown
  have L25 : ∀ (n : Nat) (z4 : Int32) (z5 : Int32) (z6 : Int32) (ls : Array Slot), lv_has ls 7 [(0, .ref a_this), (4, .int z4), (5, .int z5), (6, .int z6)] → ∀ q, jf_Ro_stateBehind_L25 v_blocks z4 n z5 z6 = some q → (∀ ls : Array Slot, lv_has ls 7 [(5, .int q)] → W p l e jr_Ro_stateBehind s m ([.ref a_this, .int x1, .int x2] : List Value).toArray below meth c s.heap [] 0 0 Q (F0 m 46 ls [])) → W p l e jr_Ro_stateBehind s m ([.ref a_this, .int x1, .int x2] : List Value).toArray below meth c s.heap [] 0 0 Q (F0 m 25 ls []) := by
    intro n z4
    induction n with
    | zero =>
      intro z5 z6 ls hl q hR k
      cases hR
    | succ n ih =>
      intro z5 z6 ls hl q hR k
      rw [jf_Ro_stateBehind_L25] at hR
      refine lv_iload hx hb dX4_stateBehind_25 (lv_at hl 3 rfl) ?_
      refine lv_iload hx hb dX4_stateBehind_27 (lv_at hl 1 rfl) ?_
      refine lv_icmp_ge (tgt := 46) hx hb dX4_stateBehind_29 (by decide) (fun c_2 => ?_) (fun c_2 => ?_)
      · replace hR := Eq.trans (Eq.symm (if_pos c_2)) hR
        cases hR
        exact k _ (lv_sub hl [2] rfl)
      · replace hR := Eq.trans (Eq.symm (if_neg c_2)) hR
        refine lv_aload_n hx hb dX4_stateBehind_32 rfl (lv_at hl 0 rfl) ?_
        refine lv_iload hx hb dX4_stateBehind_33 (lv_at hl 2 rfl) ?_
        refine jcall_ri (va_runV (As := [.int z5]) (rest := []) ⟨hx, hb, hml, hown, hts⟩ (jc_Ro_after l g a_this a_this_met a_this_met_bits v_blocks v_met_bits z5 _ rfl) (cwV 1 hts gX4_stateBehind_X4_after rfl rfl rfl (by decide +kernel) ⟨Nat.le_of_ble_eq_true rfl, Nat.le_of_ble_eq_true rfl⟩) (jpr_v hK hP (ci := 4) (q0 := 0) rfl rfl) rfl rfl hl.1 rfl (lv_room (Nat.le_of_ble_eq_true rfl)) dX4_stateBehind_35 ⟨Nat.zero_le _, Nat.zero_le _⟩) ?_
        refine jlet_i hR (fun y5_1 hR => ?_)
        try dsimp only at hR
        refine lv_istore (lv' := [(5, .int y5_1), (0, .ref a_this), (4, .int z4), (6, .int z6)]) hx hb dX4_stateBehind_38 hl (by decide) rfl (fun ls hl => ?_)
        refine lv_iinc (v := z6 + 1) (lv' := [(6, .int (z6 + 1)), (5, .int y5_1), (0, .ref a_this), (4, .int z4)]) hx hb dX4_stateBehind_40 hl (k := 3) rfl (by first | rfl | decide) (by decide) rfl (fun ls hl => ?_)
        refine lv_goto (tgt := 25) hx hb dX4_stateBehind_43 (by decide) ?_
        exact ih y5_1 (z6 + 1) _ (lv_sub hl [2, 3, 1, 0] rfl) _ hR k
  have J17 : ∀ (z1 : Int32) (s0 : Int32) (ls : Array Slot), lv_has ls 7 [(0, .ref a_this), (1, .int z1)] → jf_Ro_stateBehind_b17 v_blocks z1 s0 = some R → W p l e jr_Ro_stateBehind s m ([.ref a_this, .int x1, .int x2] : List Value).toArray below meth c s.heap [] 0 0 Q (F0 m 17 ls [.int s0]) := by
    intro z1 s0 ls hl hR
    rw [jf_Ro_stateBehind_b17] at hR
    refine lv_istore (lv' := [(4, .int s0), (0, .ref a_this), (1, .int z1)]) hx hb dX4_stateBehind_17 hl (by decide) rfl (fun ls hl => ?_)
    refine lv_iload_n hx hb dX4_stateBehind_19 rfl (lv_at hl 2 rfl) ?_
    refine lv_istore (lv' := [(5, .int z1), (4, .int s0), (0, .ref a_this), (1, .int z1)]) hx hb dX4_stateBehind_20 hl (by decide) rfl (fun ls hl => ?_)
    refine lv_iconst (v := 0) hx hb dX4_stateBehind_22 (by decide) ?_
    refine lv_istore (lv' := [(6, .int 0), (5, .int z1), (4, .int s0), (0, .ref a_this), (1, .int z1)]) hx hb dX4_stateBehind_23 hl (by decide) rfl (fun ls hl => ?_)
    obtain ⟨q_2, hq_2, hR⟩ := jbind hR
    try dsimp only at hR
    refine L25 jF s0 z1 0 _ (lv_sub hl [3, 2, 1, 0] rfl) _ hq_2 (fun ls hl => ?_)
    refine lv_iload hx hb dX4_stateBehind_46 (lv_at hl 0 rfl) ?_
    exact fin _ _ _ (Option.some.inj hR) dX4_stateBehind_48
  rw [jf_Ro_stateBehind] at hR
  refine lv_aload_n hx hb dX4_stateBehind_0 rfl (lv_at hl 0 rfl) ?_
  refine lv_iload_n hx hb dX4_stateBehind_1 rfl (lv_at hl 1 rfl) ?_
  obtain ⟨q_1, hq_1, hR⟩ := jbind hR
  try dsimp only at hR
  refine jcall_ri (va_runV (As := [.int x1]) (rest := []) ⟨hx, hb, hml, hown, hts⟩ (jc_Ro_stepsRound l g a_this a_this_met a_this_met_bits v_blocks v_met_bits x1 _ hq_1) (cwV 1 hts gX4_stateBehind_X4_stepsRound rfl rfl rfl (by decide +kernel) ⟨Nat.le_of_ble_eq_true rfl, Nat.le_of_ble_eq_true rfl⟩) (jpr_v hK hP (ci := 4) (q0 := 0) rfl rfl) rfl rfl hl.1 rfl (lv_room (Nat.le_of_ble_eq_true rfl)) dX4_stateBehind_2 ⟨Nat.zero_le _, Nat.zero_le _⟩) ?_
  refine lv_istore_n (lv' := [(3, .int q_1), (0, .ref a_this), (1, .int x1), (2, .int x2)]) hx hb dX4_stateBehind_5 rfl hl (by decide) rfl (fun ls hl => ?_)
  refine lv_iload_n hx hb dX4_stateBehind_6 rfl (lv_at hl 0 rfl) ?_
  refine lv_if_le (tgt := 16) hx hb dX4_stateBehind_7 (by decide) (fun c_1 => ?_) (fun c_1 => ?_)
  · replace hR := Eq.trans (Eq.symm (if_pos c_1)) hR
    refine lv_iconst (v := 0) hx hb dX4_stateBehind_16 (by decide) ?_
    exact J17 x1 0 _ (lv_sub hl [1, 2] rfl) hR
  · replace hR := Eq.trans (Eq.symm (if_neg c_1)) hR
    refine lv_iload_n hx hb dX4_stateBehind_10 rfl (lv_at hl 3 rfl) ?_
    refine lv_iload_n hx hb dX4_stateBehind_11 rfl (lv_at hl 0 rfl) ?_
    by_cases c_3 : q_1 = 0
    · replace hR := Eq.trans (Eq.symm (if_pos c_3)) hR
      cases hR
    replace hR := Eq.trans (Eq.symm (if_neg c_3)) hR
    refine lv_irem hx hb dX4_stateBehind_12 c_3 ?_
    refine lv_goto (tgt := 17) hx hb dX4_stateBehind_13 (by decide) ?_
    exact J17 x1 (x2 - x2 / q_1 * q_1) _ (lv_sub hl [1, 2] rfl) hR
