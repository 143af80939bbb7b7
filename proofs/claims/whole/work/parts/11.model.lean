/-! walks laid by wip/gen/gen.py: jf_.. what a method answers, jc_.. its contract -/
abbrev jw_Mo (g : jG) (a_this a_this_isBlock a_this_isSeen a_this_lampX a_this_lampY a_this_right a_this_up a_this_keptRight a_this_keptUp a_this_name a_this_part a_this_codes a_this_above a_this_below a_this_length a_this_isMet : Nat) (v_thrown : Int32) (v_isBounce : Int32) (v_lamps : Int32) (v_squares : Int32) (v_intervals : Int32) (v_isBlock : Nat → Int32) (v_isSeen : Nat → Int32) (v_lampX : Nat → Int32) (v_lampY : Nat → Int32) (v_right : Nat → Int32) (v_up : Nat → Int32) (v_keptRight : Nat → Int32) (v_keptUp : Nat → Int32) (v_name : Nat → Int32) (v_part : Nat → Int32) (v_codes : Nat → Int32) (v_above : Nat → Int32) (v_below : Nat → Int32) (v_length : Nat → Int32) (v_isMet : Nat → Int32) : va_W := [(a_this, .inr (7, [.int v_thrown, .ref a_this_isBlock, .int v_isBounce, .ref a_this_isSeen, .int v_lamps, .ref a_this_lampX, .ref a_this_lampY, .int v_squares, .ref a_this_right, .ref a_this_up, .ref a_this_keptRight, .ref a_this_keptUp, .ref a_this_name, .ref a_this_part, .ref a_this_codes, .int v_intervals, .ref a_this_above, .ref a_this_below, .ref a_this_length, .ref a_this_isMet])), (a_this_isBlock, .inl (g.2.2.2, 64, .inl v_isBlock)), (a_this_isSeen, .inl (g.2.2.2, 512, .inl v_isSeen)), (a_this_lampX, .inl (g.2.1, 6, .inl v_lampX)), (a_this_lampY, .inl (g.2.1, 6, .inl v_lampY)), (a_this_right, .inl (g.2.1, 5, .inl v_right)), (a_this_up, .inl (g.2.1, 5, .inl v_up)), (a_this_keptRight, .inl (g.2.1, 5, .inl v_keptRight)), (a_this_keptUp, .inl (g.2.1, 5, .inl v_keptUp)), (a_this_name, .inl (g.2.1, 5, .inl v_name)), (a_this_part, .inl (g.2.1, 5, .inl v_part)), (a_this_codes, .inl (g.2.1, 200, .inl v_codes)), (a_this_above, .inl (g.2.1, 6, .inl v_above)), (a_this_below, .inl (g.2.1, 6, .inl v_below)), (a_this_length, .inl (g.2.1, 6, .inl v_length)), (a_this_isMet, .inl (g.2.2.2, 300, .inl v_isMet))]
def jf_Mo_thrown (v_thrown : Int32) : Int32 :=
  v_thrown
abbrev jr_Mo_thrown : Room := { frames := 0, cells := 0, slots := 0, locals := 0 }
set_option maxRecDepth 100000 in
set_option maxHeartbeats 4000000 in
theorem jc_Mo_thrown (l : Launch) (g : jG) (a_this a_this_isBlock a_this_isSeen a_this_lampX a_this_lampY a_this_right a_this_up a_this_keptRight a_this_keptUp a_this_name a_this_part a_this_codes a_this_above a_this_below a_this_length a_this_isMet : Nat) (v_thrown : Int32) (v_isBounce : Int32) (v_lamps : Int32) (v_squares : Int32) (v_intervals : Int32) (v_isBlock : Nat → Int32) (v_isSeen : Nat → Int32) (v_lampX : Nat → Int32) (v_lampY : Nat → Int32) (v_right : Nat → Int32) (v_up : Nat → Int32) (v_keptRight : Nat → Int32) (v_keptUp : Nat → Int32) (v_name : Nat → Int32) (v_part : Nat → Int32) (v_codes : Nat → Int32) (v_above : Nat → Int32) (v_below : Nat → Int32) (v_length : Nat → Int32) (v_isMet : Nat → Int32) (R : Int32) (hR : jf_Mo_thrown v_thrown = R) : Met l yX7_thrown wsX7_thrown jr_Mo_thrown (jPr g [.ref a_this] (jw_Mo g a_this a_this_isBlock a_this_isSeen a_this_lampX a_this_lampY a_this_right a_this_up a_this_keptRight a_this_keptUp a_this_name a_this_part a_this_codes a_this_above a_this_below a_this_length a_this_isMet v_thrown v_isBounce v_lamps v_squares v_intervals v_isBlock v_isSeen v_lampX v_lampY v_right v_up v_keptRight v_keptUp v_name v_part v_codes v_above v_below v_length v_isMet)) (vp_Si (fun r => r = R)) 0 0 (fun _ => False) := by
  refine jm_ri (cc := cX7_thrown) (maxL := 1) (by decide +kernel) rfl (Nat.le_of_ble_eq_true rfl) ?_
  intro p e s m below meth c Q hx hb hml hown hts hK hP fin ls hl
  have hl : lv_has ls 1 [(0, .ref a_this)] := hl
  have hown : s.vm.findClass RX7 = some m.cls := hown
  have w_X7 : ∀ w ∈ u_ws RX7 TX7 20, w ∈ wsX7_thrown := by decide +kernel
  have w_f60 := hts (.fieldLink RX7 60 "BilliardryModel" "thrown" "I") (by decide +kernel)
  rw [jf_Mo_thrown] at hR
  refine lv_aload_n hx hb dX7_thrown_0 rfl (lv_at hl 0 rfl) ?_
  refine va_get (D := g.1) (ci := 7) (v := .int v_thrown) (C := RX7) (T := TX7) (N := 20) hx hb hts w_X7 hown hK.1 hP 0 rfl rfl 0 (by decide) w_f60 (fun _ h9 => h9) rfl dX7_thrown_1 ?_
  exact fin _ _ _ hR dX7_thrown_4
def jf_Mo_in (x0 : Int32) (x1 : Int32) (x2 : Int32) : Int32 :=
  if x0 < x1 then 0 else (if x2 < x0 then 0 else 1)
abbrev jr_Mo_in : Room := { frames := 0, cells := 0, slots := 0, locals := 0 }
set_option maxRecDepth 100000 in
set_option maxHeartbeats 4000000 in
theorem jc_Mo_in (l : Launch) (g : jG) (x0 : Int32) (x1 : Int32) (x2 : Int32) (R : Int32) (hR : jf_Mo_in x0 x1 x2 = R) : Met l yX7_in wsX7_in jr_Mo_in (jPr g [.int x0, .int x1, .int x2] ([])) (vp_Si (fun r => r = R)) 0 0 (fun _ => False) := by
  refine jm_rz (cc := cX7_in) (maxL := 3) (by decide +kernel) rfl (Nat.le_of_ble_eq_true rfl) ?_
  intro p e s m below meth c Q hx hb hml hown hts hK hP fin ls hl
  have hl : lv_has ls 3 [(0, .int x0), (1, .int x1), (2, .int x2)] := hl
  have hown : s.vm.findClass RX7 = some m.cls := hown
  rw [jf_Mo_in] at hR
  refine lv_iload_n hx hb dX7_in_0 rfl (lv_at hl 0 rfl) ?_
  refine lv_iload_n hx hb dX7_in_1 rfl (lv_at hl 1 rfl) ?_
  refine lv_icmp_lt (tgt := 14) hx hb dX7_in_2 (by decide) (fun c_1 => ?_) (fun c_1 => ?_)
  · replace hR := Eq.trans (Eq.symm (if_pos c_1)) hR
    refine lv_iconst (v := 0) hx hb dX7_in_14 (by decide) ?_
    exact fin _ _ _ (Eq.trans (by decide) hR) dX7_in_15
  · replace hR := Eq.trans (Eq.symm (if_neg c_1)) hR
    refine lv_iload_n hx hb dX7_in_5 rfl (lv_at hl 0 rfl) ?_
    refine lv_iload_n hx hb dX7_in_6 rfl (lv_at hl 2 rfl) ?_
    refine lv_icmp_gt (tgt := 14) hx hb dX7_in_7 (by decide) (fun c_2 => ?_) (fun c_2 => ?_)
    · replace hR := Eq.trans (Eq.symm (if_pos c_2)) hR
      refine lv_iconst (v := 0) hx hb dX7_in_14 (by decide) ?_
      exact fin _ _ _ (Eq.trans (by decide) hR) dX7_in_15
    · replace hR := Eq.trans (Eq.symm (if_neg c_2)) hR
      refine lv_iconst (v := 1) hx hb dX7_in_10 (by decide) ?_
      refine lv_goto (tgt := 15) hx hb dX7_in_11 (by decide) ?_
      exact fin _ _ _ (Eq.trans (by decide) hR) dX7_in_15
def jf_Mo_isCell (x0 : Int32) (x1 : Int32) : Int32 :=
  if (jf_Mo_in x0 0 7) = 0 then 0 else (if (jf_Mo_in x1 0 7) = 0 then 0 else 1)
abbrev jr_Mo_isCell : Room := { frames := 1, cells := 0, slots := 0, locals := 22 }
set_option maxRecDepth 100000 in
set_option maxHeartbeats 4000000 in
theorem jc_Mo_isCell (l : Launch) (g : jG) (x0 : Int32) (x1 : Int32) (R : Int32) (hR : jf_Mo_isCell x0 x1 = R) : Met l yX7_isCell wsX7_isCell jr_Mo_isCell (jPr g [.int x0, .int x1] ([])) (vp_Si (fun r => r = R)) 0 0 (fun _ => False) := by
  refine jm_rz (cc := cX7_isCell) (maxL := 2) (by decide +kernel) rfl (Nat.le_of_ble_eq_true rfl) ?_
  intro p e s m below meth c Q hx hb hml hown hts hK hP fin ls hl
  have hl : lv_has ls 2 [(0, .int x0), (1, .int x1)] := hl
  have hown : s.vm.findClass RX7 = some m.cls := hown
  rw [jf_Mo_isCell] at hR
  refine lv_iload_n hx hb dX7_isCell_0 rfl (lv_at hl 0 rfl) ?_
  refine lv_iconst (v := 0) hx hb dX7_isCell_1 (by decide) ?_
  refine lv_bipush (v := 7) hx hb dX7_isCell_2 (by decide) ?_
  refine jcall_ri (va_runS (As := [.int x0, .int 0, .int 7]) (rest := []) ⟨hx, hb, hml, hown, hts⟩ (jc_Mo_in l g  x0 0 7 _ rfl) (va_cwS 3 hts gX7_isCell_X7_in rfl rfl rfl (by decide +kernel) ⟨Nat.le_of_ble_eq_true rfl, Nat.le_of_ble_eq_true rfl⟩) (jpr_s hK hP) rfl rfl hl.1 rfl (lv_room (Nat.le_of_ble_eq_true rfl)) dX7_isCell_4 ⟨Nat.zero_le _, Nat.zero_le _⟩) ?_
  refine lv_if_eq (tgt := 24) hx hb dX7_isCell_7 (by decide) (fun c_1 => ?_) (fun c_1 => ?_)
  · replace hR := Eq.trans (Eq.symm (if_pos c_1)) hR
    refine lv_iconst (v := 0) hx hb dX7_isCell_24 (by decide) ?_
    exact fin _ _ _ (Eq.trans (by decide) hR) dX7_isCell_25
  · replace hR := Eq.trans (Eq.symm (if_neg c_1)) hR
    refine lv_iload_n hx hb dX7_isCell_10 rfl (lv_at hl 1 rfl) ?_
    refine lv_iconst (v := 0) hx hb dX7_isCell_11 (by decide) ?_
    refine lv_bipush (v := 7) hx hb dX7_isCell_12 (by decide) ?_
    refine jcall_ri (va_runS (As := [.int x1, .int 0, .int 7]) (rest := []) ⟨hx, hb, hml, hown, hts⟩ (jc_Mo_in l g  x1 0 7 _ rfl) (va_cwS 3 hts gX7_isCell_X7_in rfl rfl rfl (by decide +kernel) ⟨Nat.le_of_ble_eq_true rfl, Nat.le_of_ble_eq_true rfl⟩) (jpr_s hK hP) rfl rfl hl.1 rfl (lv_room (Nat.le_of_ble_eq_true rfl)) dX7_isCell_14 ⟨Nat.zero_le _, Nat.zero_le _⟩) ?_
    refine lv_if_eq (tgt := 24) hx hb dX7_isCell_17 (by decide) (fun c_2 => ?_) (fun c_2 => ?_)
    · replace hR := Eq.trans (Eq.symm (if_pos c_2)) hR
      refine lv_iconst (v := 0) hx hb dX7_isCell_24 (by decide) ?_
      exact fin _ _ _ (Eq.trans (by decide) hR) dX7_isCell_25
    · replace hR := Eq.trans (Eq.symm (if_neg c_2)) hR
      refine lv_iconst (v := 1) hx hb dX7_isCell_20 (by decide) ?_
      refine lv_goto (tgt := 25) hx hb dX7_isCell_21 (by decide) ?_
      exact fin _ _ _ (Eq.trans (by decide) hR) dX7_isCell_25
def jf_Mo_isFloor (v_isBlock : Nat → Int32) (x1 : Int32) (x2 : Int32) : Option Int32 :=
  if (jf_Mo_isCell x1 x2) = 0 then (some 0) else (if jin ((8 * x2) + x1) 64 = true then (if v_isBlock ((8 * x2) + x1).toNatClampNeg = 0 then (some 1) else (some 0)) else none)
abbrev jr_Mo_isFloor : Room := { frames := 2, cells := 0, slots := 0, locals := 43 }
set_option maxRecDepth 100000 in
set_option maxHeartbeats 4000000 in
theorem jc_Mo_isFloor (l : Launch) (g : jG) (a_this a_this_isBlock a_this_isSeen a_this_lampX a_this_lampY a_this_right a_this_up a_this_keptRight a_this_keptUp a_this_name a_this_part a_this_codes a_this_above a_this_below a_this_length a_this_isMet : Nat) (v_thrown : Int32) (v_isBounce : Int32) (v_lamps : Int32) (v_squares : Int32) (v_intervals : Int32) (v_isBlock : Nat → Int32) (v_isSeen : Nat → Int32) (v_lampX : Nat → Int32) (v_lampY : Nat → Int32) (v_right : Nat → Int32) (v_up : Nat → Int32) (v_keptRight : Nat → Int32) (v_keptUp : Nat → Int32) (v_name : Nat → Int32) (v_part : Nat → Int32) (v_codes : Nat → Int32) (v_above : Nat → Int32) (v_below : Nat → Int32) (v_length : Nat → Int32) (v_isMet : Nat → Int32) (x1 : Int32) (x2 : Int32) (R : Int32) (hR : jf_Mo_isFloor v_isBlock x1 x2 = some R) : Met l yX7_isFloor wsX7_isFloor jr_Mo_isFloor (jPr g [.ref a_this, .int x1, .int x2] (jw_Mo g a_this a_this_isBlock a_this_isSeen a_this_lampX a_this_lampY a_this_right a_this_up a_this_keptRight a_this_keptUp a_this_name a_this_part a_this_codes a_this_above a_this_below a_this_length a_this_isMet v_thrown v_isBounce v_lamps v_squares v_intervals v_isBlock v_isSeen v_lampX v_lampY v_right v_up v_keptRight v_keptUp v_name v_part v_codes v_above v_below v_length v_isMet)) (vp_Si (fun r => r = R)) 0 0 (fun _ => False) := by
  refine jm_rz (cc := cX7_isFloor) (maxL := 3) (by decide +kernel) rfl (Nat.le_of_ble_eq_true rfl) ?_
  intro p e s m below meth c Q hx hb hml hown hts hK hP fin ls hl
  have hl : lv_has ls 3 [(0, .ref a_this), (1, .int x1), (2, .int x2)] := hl
  have hown : s.vm.findClass RX7 = some m.cls := hown
  have w_X7 : ∀ w ∈ u_ws RX7 TX7 20, w ∈ wsX7_isFloor := by decide +kernel
  have w_f7 := hts (.fieldLink RX7 7 "BilliardryModel" "isBlock" "[Z") (by decide +kernel)
  rw [jf_Mo_isFloor] at hR
  refine lv_iload_n hx hb dX7_isFloor_0 rfl (lv_at hl 1 rfl) ?_
  refine lv_iload_n hx hb dX7_isFloor_1 rfl (lv_at hl 2 rfl) ?_
  refine jcall_ri (va_runS (As := [.int x1, .int x2]) (rest := []) ⟨hx, hb, hml, hown, hts⟩ (jc_Mo_isCell l g  x1 x2 _ rfl) (va_cwS 2 hts gX7_isFloor_X7_isCell rfl rfl rfl (by decide +kernel) ⟨Nat.le_of_ble_eq_true rfl, Nat.le_of_ble_eq_true rfl⟩) (jpr_s hK (hP.sub (ws' := []) [] rfl)) rfl rfl hl.1 rfl (lv_room (Nat.le_of_ble_eq_true rfl)) dX7_isFloor_2 ⟨Nat.zero_le _, Nat.zero_le _⟩) ?_
  refine lv_if_eq (tgt := 26) hx hb dX7_isFloor_5 (by decide) (fun c_1 => ?_) (fun c_1 => ?_)
  · replace hR := Eq.trans (Eq.symm (if_pos c_1)) hR
    refine lv_iconst (v := 0) hx hb dX7_isFloor_26 (by decide) ?_
    exact fin _ _ _ (Eq.trans (by decide) (Option.some.inj hR)) dX7_isFloor_27
  · replace hR := Eq.trans (Eq.symm (if_neg c_1)) hR
    refine lv_aload_n hx hb dX7_isFloor_8 rfl (lv_at hl 0 rfl) ?_
    refine va_get (D := g.1) (ci := 7) (v := .ref a_this_isBlock) (C := RX7) (T := TX7) (N := 20) hx hb hts w_X7 hown hK.1 hP 0 rfl rfl 1 (by decide) w_f7 (fun _ h9 => h9) rfl dX7_isFloor_9 ?_
    refine lv_bipush (v := 8) hx hb dX7_isFloor_12 (by decide) ?_
    refine lv_iload_n hx hb dX7_isFloor_14 rfl (lv_at hl 2 rfl) ?_
    refine lv_imul hx hb dX7_isFloor_15 ?_
    refine lv_iload_n hx hb dX7_isFloor_16 rfl (lv_at hl 1 rfl) ?_
    refine lv_iadd hx hb dX7_isFloor_17 ?_
    by_cases c_2 : jin ((8 * x2) + x1) 64 = true
    case neg => replace hR := Eq.trans (Eq.symm (if_neg c_2)) hR; cases hR
    replace hR := Eq.trans (Eq.symm (if_pos c_2)) hR
    refine va_zald hx hb hK.1 hP 1 2 rfl rfl (jin_in c_2) dX7_isFloor_18 ?_
    refine lv_if_ne (tgt := 26) hx hb dX7_isFloor_19 (by decide) (fun c_3 => ?_) (fun c_3 => ?_)
    · replace hR := Eq.trans (Eq.symm (if_neg c_3)) hR
      refine lv_iconst (v := 0) hx hb dX7_isFloor_26 (by decide) ?_
      exact fin _ _ _ (Eq.trans (by decide) (Option.some.inj hR)) dX7_isFloor_27
    · replace hR := Eq.trans (Eq.symm (if_pos c_3)) hR
      refine lv_iconst (v := 1) hx hb dX7_isFloor_22 (by decide) ?_
      refine lv_goto (tgt := 27) hx hb dX7_isFloor_23 (by decide) ?_
      exact fin _ _ _ (Eq.trans (by decide) (Option.some.inj hR)) dX7_isFloor_27
def jf_Mo_block_b14 (v_thrown : Int32) (v_isBlock : Nat → Int32) (z1 : Int32) (z2 : Int32) (z3 : Int32) (s1 : Int32) : Option (Int32 × Int32 × (Nat → Int32)) :=
  if s1 ≤ 0 then (if jin ((8 * z2) + z1) 64 = true then (jlet (v_isBlock ((8 * z2) + z1).toNatClampNeg) (fun y4_1 => if jin ((8 * z2) + z1) 64 = true then (some (y4_1 &&& 1, s1, upd v_isBlock ((8 * z2) + z1).toNatClampNeg (z3 &&& 1))) else none)) else none) else (some (0, s1, v_isBlock))
def jf_Mo_block (v_thrown : Int32) (v_isBlock : Nat → Int32) (x1 : Int32) (x2 : Int32) (x3 : Int32) : Option (Int32 × Int32 × (Nat → Int32)) :=
  if (jf_Mo_isCell x1 x2) = 0 then (jf_Mo_block_b14 v_thrown v_isBlock x1 x2 x3 1) else (jf_Mo_block_b14 v_thrown v_isBlock x1 x2 x3 0)
abbrev jr_Mo_block : Room := { frames := 2, cells := 0, slots := 0, locals := 43 }
set_option maxRecDepth 100000 in
set_option maxHeartbeats 4000000 in
theorem jc_Mo_block (l : Launch) (g : jG) (a_this a_this_isBlock a_this_isSeen a_this_lampX a_this_lampY a_this_right a_this_up a_this_keptRight a_this_keptUp a_this_name a_this_part a_this_codes a_this_above a_this_below a_this_length a_this_isMet : Nat) (v_thrown : Int32) (v_isBounce : Int32) (v_lamps : Int32) (v_squares : Int32) (v_intervals : Int32) (v_isBlock : Nat → Int32) (v_isSeen : Nat → Int32) (v_lampX : Nat → Int32) (v_lampY : Nat → Int32) (v_right : Nat → Int32) (v_up : Nat → Int32) (v_keptRight : Nat → Int32) (v_keptUp : Nat → Int32) (v_name : Nat → Int32) (v_part : Nat → Int32) (v_codes : Nat → Int32) (v_above : Nat → Int32) (v_below : Nat → Int32) (v_length : Nat → Int32) (v_isMet : Nat → Int32) (x1 : Int32) (x2 : Int32) (x3 : Int32) (R : Int32 × Int32 × (Nat → Int32)) (hR : jf_Mo_block v_thrown v_isBlock x1 x2 x3 = some R) (sz : Nat) : Met l yX7_block wsX7_block jr_Mo_block (jPw g [.ref a_this, .int x1, .int x2, .int x3] (jw_Mo g a_this a_this_isBlock a_this_isSeen a_this_lampX a_this_lampY a_this_right a_this_up a_this_keptRight a_this_keptUp a_this_name a_this_part a_this_codes a_this_above a_this_below a_this_length a_this_isMet v_thrown v_isBounce v_lamps v_squares v_intervals v_isBlock v_isSeen v_lampX v_lampY v_right v_up v_keptRight v_keptUp v_name v_part v_codes v_above v_below v_length v_isMet) sz) (jQi g R.1 (jw_Mo g a_this a_this_isBlock a_this_isSeen a_this_lampX a_this_lampY a_this_right a_this_up a_this_keptRight a_this_keptUp a_this_name a_this_part a_this_codes a_this_above a_this_below a_this_length a_this_isMet R.2.1 v_isBounce v_lamps v_squares v_intervals R.2.2 v_isSeen v_lampX v_lampY v_right v_up v_keptRight v_keptUp v_name v_part v_codes v_above v_below v_length v_isMet) (va_A (jw_Mo g a_this a_this_isBlock a_this_isSeen a_this_lampX a_this_lampY a_this_right a_this_up a_this_keptRight a_this_keptUp a_this_name a_this_part a_this_codes a_this_above a_this_below a_this_length a_this_isMet v_thrown v_isBounce v_lamps v_squares v_intervals v_isBlock v_isSeen v_lampX v_lampY v_right v_up v_keptRight v_keptUp v_name v_part v_codes v_above v_below v_length v_isMet) sz)) 0 0 (va_A (jw_Mo g a_this a_this_isBlock a_this_isSeen a_this_lampX a_this_lampY a_this_right a_this_up a_this_keptRight a_this_keptUp a_this_name a_this_part a_this_codes a_this_above a_this_below a_this_length a_this_isMet v_thrown v_isBounce v_lamps v_squares v_intervals v_isBlock v_isSeen v_lampX v_lampY v_right v_up v_keptRight v_keptUp v_name v_part v_codes v_above v_below v_length v_isMet) sz) := by
  refine jm_wz (cc := cX7_block) (maxL := 5) (by decide +kernel) rfl (Nat.le_of_ble_eq_true rfl) ?_
  intro p e s m below meth c A Q hx hb hml hown hts hK hP hD hA hS fin ls hl
  have hl : lv_has ls 5 [(0, .ref a_this), (1, .int x1), (2, .int x2), (3, .int x3)] := hl
  have hown : s.vm.findClass RX7 = some m.cls := hown
  have w_X7 : ∀ w ∈ u_ws RX7 TX7 20, w ∈ wsX7_block := by decide +kernel
  have w_f60 := hts (.fieldLink RX7 60 "BilliardryModel" "thrown" "I") (by decide +kernel)
  have w_f7 := hts (.fieldLink RX7 7 "BilliardryModel" "isBlock" "[Z") (by decide +kernel)
  have J14 : ∀ (v_thrown : Int32) (v_isBlock : Nat → Int32) (z1 : Int32) (z2 : Int32) (z3 : Int32) (s1 : Int32) (H : Heap) (locs : List Loc), va_P g.1 vwCl (jw_Mo g a_this a_this_isBlock a_this_isSeen a_this_lampX a_this_lampY a_this_right a_this_up a_this_keptRight a_this_keptUp a_this_name a_this_part a_this_codes a_this_above a_this_below a_this_length a_this_isMet v_thrown v_isBounce v_lamps v_squares v_intervals v_isBlock v_isSeen v_lampX v_lampY v_right v_up v_keptRight v_keptUp v_name v_part v_codes v_above v_below v_length v_isMet) H → va_S A s.heap H locs → ∀ (ls : Array Slot), lv_has ls 5 [(0, .ref a_this), (1, .int z1), (2, .int z2), (3, .int z3)] → jf_Mo_block_b14 v_thrown v_isBlock z1 z2 z3 s1 = some R → W p l e jr_Mo_block s m ([.ref a_this, .int x1, .int x2, .int x3] : List Value).toArray below meth c H locs 0 0 Q (F0 m 14 ls [.int s1, .ref a_this]) := by
    intro v_thrown v_isBlock z1 z2 z3 s1 H locs hP hS ls hl hR
    rw [jf_Mo_block_b14] at hR
    refine va_put (D := g.1) (ci := 7) (v := .int s1) (ty := .int) (C := RX7) (T := TX7) (N := 20) hx hb hts w_X7 tyX7 tyX7_ok nmX7 hown hK.1 hP (jD_to hD rfl) hS 0 rfl rfl 0 (by decide) w_f60 (fun _ h9 => h9) rfl (by decide +kernel) rfl rfl (Nat.le_of_ble_eq_true rfl) dX7_block_14 (fun H locs hP _ hS => ?_)
    have hP : va_P g.1 vwCl (jw_Mo g a_this a_this_isBlock a_this_isSeen a_this_lampX a_this_lampY a_this_right a_this_up a_this_keptRight a_this_keptUp a_this_name a_this_part a_this_codes a_this_above a_this_below a_this_length a_this_isMet s1 v_isBounce v_lamps v_squares v_intervals v_isBlock v_isSeen v_lampX v_lampY v_right v_up v_keptRight v_keptUp v_name v_part v_codes v_above v_below v_length v_isMet) H := hP
    refine lv_aload_n hx hb dX7_block_17 rfl (lv_at hl 0 rfl) ?_
    refine va_get (D := g.1) (ci := 7) (v := .int s1) (C := RX7) (T := TX7) (N := 20) hx hb hts w_X7 hown hK.1 hP 0 rfl rfl 0 (by decide) w_f60 (fun _ h9 => h9) rfl dX7_block_18 ?_
    refine lv_if_le (tgt := 26) hx hb dX7_block_21 (by decide) (fun c_2 => ?_) (fun c_2 => ?_)
    · replace hR := Eq.trans (Eq.symm (if_pos c_2)) hR
      refine lv_aload_n hx hb dX7_block_26 rfl (lv_at hl 0 rfl) ?_
      refine va_get (D := g.1) (ci := 7) (v := .ref a_this_isBlock) (C := RX7) (T := TX7) (N := 20) hx hb hts w_X7 hown hK.1 hP 0 rfl rfl 1 (by decide) w_f7 (fun _ h9 => h9) rfl dX7_block_27 ?_
      refine lv_bipush (v := 8) hx hb dX7_block_30 (by decide) ?_
      refine lv_iload_n hx hb dX7_block_32 rfl (lv_at hl 2 rfl) ?_
      refine lv_imul hx hb dX7_block_33 ?_
      refine lv_iload_n hx hb dX7_block_34 rfl (lv_at hl 1 rfl) ?_
      refine lv_iadd hx hb dX7_block_35 ?_
      by_cases c_3 : jin ((8 * z2) + z1) 64 = true
      case neg => replace hR := Eq.trans (Eq.symm (if_neg c_3)) hR; cases hR
      replace hR := Eq.trans (Eq.symm (if_pos c_3)) hR
      refine va_zald hx hb hK.1 hP 1 2 rfl rfl (jin_in c_3) dX7_block_36 ?_
      refine jlet_i hR (fun y4_1 hR => ?_)
      try dsimp only at hR
      refine lv_istore (lv' := [(4, .int y4_1), (0, .ref a_this), (1, .int z1), (2, .int z2), (3, .int z3)]) hx hb dX7_block_37 hl (by decide) rfl (fun ls hl => ?_)
      refine lv_aload_n hx hb dX7_block_39 rfl (lv_at hl 1 rfl) ?_
      refine va_get (D := g.1) (ci := 7) (v := .ref a_this_isBlock) (C := RX7) (T := TX7) (N := 20) hx hb hts w_X7 hown hK.1 hP 0 rfl rfl 1 (by decide) w_f7 (fun _ h9 => h9) rfl dX7_block_40 ?_
      refine lv_bipush (v := 8) hx hb dX7_block_43 (by decide) ?_
      refine lv_iload_n hx hb dX7_block_45 rfl (lv_at hl 3 rfl) ?_
      refine lv_imul hx hb dX7_block_46 ?_
      refine lv_iload_n hx hb dX7_block_47 rfl (lv_at hl 2 rfl) ?_
      refine lv_iadd hx hb dX7_block_48 ?_
      refine lv_iload_n hx hb dX7_block_49 rfl (lv_at hl 4 rfl) ?_
      by_cases c_4 : jin ((8 * z2) + z1) 64 = true
      case neg => replace hR := Eq.trans (Eq.symm (if_neg c_4)) hR; cases hR
      replace hR := Eq.trans (Eq.symm (if_pos c_4)) hR
      refine va_zast hx hb hK.1 hP (jD_to hD rfl) hS 1 2 rfl rfl (jin_in c_4) dX7_block_50 (fun H locs hP _ hS => ?_)
      have hP : va_P g.1 vwCl (jw_Mo g a_this a_this_isBlock a_this_isSeen a_this_lampX a_this_lampY a_this_right a_this_up a_this_keptRight a_this_keptUp a_this_name a_this_part a_this_codes a_this_above a_this_below a_this_length a_this_isMet s1 v_isBounce v_lamps v_squares v_intervals (upd v_isBlock ((8 * z2) + z1).toNatClampNeg (z3 &&& 1)) v_isSeen v_lampX v_lampY v_right v_up v_keptRight v_keptUp v_name v_part v_codes v_above v_below v_length v_isMet) H := hP
      refine lv_iload hx hb dX7_block_51 (lv_at hl 0 rfl) ?_
      obtain rfl := (Option.some.inj hR)
      exact fin _ _ _ _ _ (by first | rfl | decide) hP hS dX7_block_53
    · replace hR := Eq.trans (Eq.symm (if_neg c_2)) hR
      refine lv_iconst (v := 0) hx hb dX7_block_24 (by decide) ?_
      obtain rfl := (Option.some.inj hR)
      exact fin _ _ _ _ _ (by first | rfl | decide) hP hS dX7_block_25
  rw [jf_Mo_block] at hR
  refine lv_aload_n hx hb dX7_block_0 rfl (lv_at hl 0 rfl) ?_
  refine lv_iload_n hx hb dX7_block_1 rfl (lv_at hl 1 rfl) ?_
  refine lv_iload_n hx hb dX7_block_2 rfl (lv_at hl 2 rfl) ?_
  refine jcall_ri (va_runS (As := [.int x1, .int x2]) (rest := [.ref a_this]) ⟨hx, hb, hml, hown, hts⟩ (jc_Mo_isCell l g  x1 x2 _ rfl) (va_cwS 2 hts gX7_block_X7_isCell rfl rfl rfl (by decide +kernel) ⟨Nat.le_of_ble_eq_true rfl, Nat.le_of_ble_eq_true rfl⟩) (jpr_s hK (hP.sub (ws' := []) [] rfl)) rfl rfl hl.1 rfl (lv_room (Nat.le_of_ble_eq_true rfl)) dX7_block_3 ⟨Nat.zero_le _, Nat.zero_le _⟩) ?_
  refine lv_if_eq (tgt := 13) hx hb dX7_block_6 (by decide) (fun c_1 => ?_) (fun c_1 => ?_)
  · replace hR := Eq.trans (Eq.symm (if_pos c_1)) hR
    refine lv_iconst (v := 1) hx hb dX7_block_13 (by decide) ?_
    exact J14 v_thrown v_isBlock x1 x2 x3 1 _ _ hP hS _ (lv_sub hl [0, 1, 2, 3] rfl) hR
  · replace hR := Eq.trans (Eq.symm (if_neg c_1)) hR
    refine lv_iconst (v := 0) hx hb dX7_block_9 (by decide) ?_
    refine lv_goto (tgt := 14) hx hb dX7_block_10 (by decide) ?_
    exact J14 v_thrown v_isBlock x1 x2 x3 0 _ _ hP hS _ (lv_sub hl [0, 1, 2, 3] rfl) hR
def jf_Mo_stateOf_b22 (s0 : Int32) (s1 : Int32) : Int32 :=
  s0 + s1
def jf_Mo_stateOf (x0 : Int32) (x1 : Int32) (x2 : Int32) (x3 : Int32) : Int32 :=
  if x3 = 0 then (jf_Mo_stateOf_b22 ((x0 + (8 * x1)) + (64 * x2)) 0) else (jf_Mo_stateOf_b22 ((x0 + (8 * x1)) + (64 * x2)) 256)
abbrev jr_Mo_stateOf : Room := { frames := 0, cells := 0, slots := 0, locals := 0 }
set_option maxRecDepth 100000 in
set_option maxHeartbeats 4000000 in
theorem jc_Mo_stateOf (l : Launch) (g : jG) (x0 : Int32) (x1 : Int32) (x2 : Int32) (x3 : Int32) (R : Int32) (hR : jf_Mo_stateOf x0 x1 x2 x3 = R) : Met l yX7_stateOf wsX7_stateOf jr_Mo_stateOf (jPr g [.int x0, .int x1, .int x2, .int x3] ([])) (vp_Si (fun r => r = R)) 0 0 (fun _ => False) := by
  refine jm_ri (cc := cX7_stateOf) (maxL := 4) (by decide +kernel) rfl (Nat.le_of_ble_eq_true rfl) ?_
  intro p e s m below meth c Q hx hb hml hown hts hK hP fin ls hl
  have hl : lv_has ls 4 [(0, .int x0), (1, .int x1), (2, .int x2), (3, .int x3)] := hl
  have hown : s.vm.findClass RX7 = some m.cls := hown
  have J22 : ∀ (s0 : Int32) (s1 : Int32) (ls : Array Slot), lv_has ls 4 [] → jf_Mo_stateOf_b22 s0 s1 = R → W p l e jr_Mo_stateOf s m ([.int x0, .int x1, .int x2, .int x3] : List Value).toArray below meth c s.heap [] 0 0 Q (F0 m 22 ls [.int s1, .int s0]) := by
    intro s0 s1 ls hl hR
    rw [jf_Mo_stateOf_b22] at hR
    refine lv_iadd hx hb dX7_stateOf_22 ?_
    exact fin _ _ _ hR dX7_stateOf_23
  rw [jf_Mo_stateOf] at hR
  refine lv_iload_n hx hb dX7_stateOf_0 rfl (lv_at hl 0 rfl) ?_
  refine lv_bipush (v := 8) hx hb dX7_stateOf_1 (by decide) ?_
  refine lv_iload_n hx hb dX7_stateOf_3 rfl (lv_at hl 1 rfl) ?_
  refine lv_imul hx hb dX7_stateOf_4 ?_
  refine lv_iadd hx hb dX7_stateOf_5 ?_
  refine lv_bipush (v := 64) hx hb dX7_stateOf_6 (by decide) ?_
  refine lv_iload_n hx hb dX7_stateOf_8 rfl (lv_at hl 2 rfl) ?_
  refine lv_imul hx hb dX7_stateOf_9 ?_
  refine lv_iadd hx hb dX7_stateOf_10 ?_
  refine lv_iload_n hx hb dX7_stateOf_11 rfl (lv_at hl 3 rfl) ?_
  refine lv_if_eq (tgt := 21) hx hb dX7_stateOf_12 (by decide) (fun c_1 => ?_) (fun c_1 => ?_)
  · replace hR := Eq.trans (Eq.symm (if_pos c_1)) hR
    refine lv_iconst (v := 0) hx hb dX7_stateOf_21 (by decide) ?_
    exact J22 ((x0 + (8 * x1)) + (64 * x2)) 0 _ (lv_sub hl [] rfl) hR
  · replace hR := Eq.trans (Eq.symm (if_neg c_1)) hR
    refine lv_sipush (v := 256) hx hb dX7_stateOf_15 (by decide) ?_
    refine lv_goto (tgt := 22) hx hb dX7_stateOf_18 (by decide) ?_
    exact J22 ((x0 + (8 * x1)) + (64 * x2)) 256 _ (lv_sub hl [] rfl) hR
def jf_Mo_step_b142 (v_isBounce : Int32) (v_isBlock : Nat → Int32) (z2 : Int32) (z3 : Int32) (z7 : Int32) (z9 : Int32) (z10 : Int32) (s0 : Int32) : Option (Int32 × Int32) :=
  Option.bind (jf_Mo_isFloor v_isBlock z9 z10) (fun q_1 => if q_1 = 0 then (if (1 : Int32) = 0 then (some ((jf_Mo_stateOf z9 z10 ((s0 + 2) - (s0 + 2) / 4 * 4) z7), 1)) else (some ((jf_Mo_stateOf z2 z3 s0 z7), 1))) else (if (0 : Int32) = 0 then (some ((jf_Mo_stateOf z9 z10 ((s0 + 2) - (s0 + 2) / 4 * 4) z7), 0)) else (some ((jf_Mo_stateOf z2 z3 s0 z7), 0))))
def jf_Mo_step_b112 (v_isBounce : Int32) (v_isBlock : Nat → Int32) (z2 : Int32) (z3 : Int32) (z5 : Int32) (z6 : Int32) (z7 : Int32) (z9 : Int32) (s0 : Int32) : Option (Int32 × Int32) :=
  if z6 = 0 then (if z5 = 0 then (jf_Mo_step_b142 v_isBounce v_isBlock z2 z3 z7 z9 s0 1) else (jf_Mo_step_b142 v_isBounce v_isBlock z2 z3 z7 z9 s0 3)) else (if z5 = 0 then (jf_Mo_step_b142 v_isBounce v_isBlock z2 z3 z7 z9 s0 0) else (jf_Mo_step_b142 v_isBounce v_isBlock z2 z3 z7 z9 s0 2))
def jf_Mo_step_b97 (v_isBounce : Int32) (v_isBlock : Nat → Int32) (z2 : Int32) (z3 : Int32) (z5 : Int32) (z6 : Int32) (z7 : Int32) (z8 : Int32) (s0 : Int32) : Option (Int32 × Int32) :=
  if z6 = 0 then (jf_Mo_step_b112 v_isBounce v_isBlock z2 z3 z5 z6 z7 s0 (z3 + z8)) else (jf_Mo_step_b112 v_isBounce v_isBlock z2 z3 z5 z6 z7 s0 z3)
def jf_Mo_step_b82 (v_isBounce : Int32) (v_isBlock : Nat → Int32) (z2 : Int32) (z3 : Int32) (z5 : Int32) (z6 : Int32) (z7 : Int32) (s0 : Int32) : Option (Int32 × Int32) :=
  if z6 = 0 then (jf_Mo_step_b97 v_isBounce v_isBlock z2 z3 z5 z6 z7 s0 z2) else (jf_Mo_step_b97 v_isBounce v_isBlock z2 z3 z5 z6 z7 s0 (z2 + s0))
def jf_Mo_step_b70 (v_isBounce : Int32) (v_isBlock : Nat → Int32) (z2 : Int32) (z3 : Int32) (z5 : Int32) (z6 : Int32) (s0 : Int32) : Option (Int32 × Int32) :=
  if z5 = 0 then (jf_Mo_step_b82 v_isBounce v_isBlock z2 z3 z5 z6 s0 (-1)) else (jf_Mo_step_b82 v_isBounce v_isBlock z2 z3 z5 z6 s0 1)
def jf_Mo_step_b65 (v_isBounce : Int32) (v_isBlock : Nat → Int32) (z2 : Int32) (z3 : Int32) (z5 : Int32) (z6 : Int32) : Option (Int32 × Int32) :=
  jf_Mo_step_b70 v_isBounce v_isBlock z2 z3 z5 z6 1
def jf_Mo_step_b52 (v_isBounce : Int32) (v_isBlock : Nat → Int32) (z2 : Int32) (z3 : Int32) (z4 : Int32) (z5 : Int32) (s0 : Int32) : Option (Int32 × Int32) :=
  if z4 = 0 then (jf_Mo_step_b65 v_isBounce v_isBlock z2 z3 z5 s0) else (if z4 = 1 then (jf_Mo_step_b65 v_isBounce v_isBlock z2 z3 z5 s0) else (jf_Mo_step_b70 v_isBounce v_isBlock z2 z3 z5 s0 0))
def jf_Mo_step_b47 (v_isBounce : Int32) (v_isBlock : Nat → Int32) (z2 : Int32) (z3 : Int32) (z4 : Int32) (z5 : Int32) : Option (Int32 × Int32) :=
  jf_Mo_step_b52 v_isBounce v_isBlock z2 z3 z4 z5 1
def jf_Mo_step_b33 (v_isBounce : Int32) (v_isBlock : Nat → Int32) (z2 : Int32) (z3 : Int32) (z4 : Int32) (s0 : Int32) : Option (Int32 × Int32) :=
  if z4 = 1 then (jf_Mo_step_b47 v_isBounce v_isBlock z2 z3 z4 s0) else (if z4 = 3 then (jf_Mo_step_b47 v_isBounce v_isBlock z2 z3 z4 s0) else (jf_Mo_step_b52 v_isBounce v_isBlock z2 z3 z4 s0 0))
def jf_Mo_step (v_isBounce : Int32) (v_isBlock : Nat → Int32) (x1 : Int32) : Option (Int32 × Int32) :=
  jlet (x1 - x1 / 8 * 8) (fun y2_1 => jlet ((x1 / 8) - (x1 / 8) / 8 * 8) (fun y3_1 => jlet ((x1 / 64) - (x1 / 64) / 4 * 4) (fun y4_1 => if x1 < 256 then (jf_Mo_step_b33 v_isBounce v_isBlock y2_1 y3_1 y4_1 0) else (jf_Mo_step_b33 v_isBounce v_isBlock y2_1 y3_1 y4_1 1))))
abbrev jr_Mo_step : Room := { frames := 3, cells := 0, slots := 0, locals := 65 }
set_option maxRecDepth 100000 in
set_option maxHeartbeats 4000000 in
theorem jc_Mo_step (l : Launch) (g : jG) (a_this a_this_isBlock a_this_isSeen a_this_lampX a_this_lampY a_this_right a_this_up a_this_keptRight a_this_keptUp a_this_name a_this_part a_this_codes a_this_above a_this_below a_this_length a_this_isMet : Nat) (v_thrown : Int32) (v_isBounce : Int32) (v_lamps : Int32) (v_squares : Int32) (v_intervals : Int32) (v_isBlock : Nat → Int32) (v_isSeen : Nat → Int32) (v_lampX : Nat → Int32) (v_lampY : Nat → Int32) (v_right : Nat → Int32) (v_up : Nat → Int32) (v_keptRight : Nat → Int32) (v_keptUp : Nat → Int32) (v_name : Nat → Int32) (v_part : Nat → Int32) (v_codes : Nat → Int32) (v_above : Nat → Int32) (v_below : Nat → Int32) (v_length : Nat → Int32) (v_isMet : Nat → Int32) (x1 : Int32) (R : Int32 × Int32) (hR : jf_Mo_step v_isBounce v_isBlock x1 = some R) (sz : Nat) : Met l yX7_step wsX7_step jr_Mo_step (jPw g [.ref a_this, .int x1] (jw_Mo g a_this a_this_isBlock a_this_isSeen a_this_lampX a_this_lampY a_this_right a_this_up a_this_keptRight a_this_keptUp a_this_name a_this_part a_this_codes a_this_above a_this_below a_this_length a_this_isMet v_thrown v_isBounce v_lamps v_squares v_intervals v_isBlock v_isSeen v_lampX v_lampY v_right v_up v_keptRight v_keptUp v_name v_part v_codes v_above v_below v_length v_isMet) sz) (jQi g R.1 (jw_Mo g a_this a_this_isBlock a_this_isSeen a_this_lampX a_this_lampY a_this_right a_this_up a_this_keptRight a_this_keptUp a_this_name a_this_part a_this_codes a_this_above a_this_below a_this_length a_this_isMet v_thrown R.2 v_lamps v_squares v_intervals v_isBlock v_isSeen v_lampX v_lampY v_right v_up v_keptRight v_keptUp v_name v_part v_codes v_above v_below v_length v_isMet) (va_A (jw_Mo g a_this a_this_isBlock a_this_isSeen a_this_lampX a_this_lampY a_this_right a_this_up a_this_keptRight a_this_keptUp a_this_name a_this_part a_this_codes a_this_above a_this_below a_this_length a_this_isMet v_thrown v_isBounce v_lamps v_squares v_intervals v_isBlock v_isSeen v_lampX v_lampY v_right v_up v_keptRight v_keptUp v_name v_part v_codes v_above v_below v_length v_isMet) sz)) 0 0 (va_A (jw_Mo g a_this a_this_isBlock a_this_isSeen a_this_lampX a_this_lampY a_this_right a_this_up a_this_keptRight a_this_keptUp a_this_name a_this_part a_this_codes a_this_above a_this_below a_this_length a_this_isMet v_thrown v_isBounce v_lamps v_squares v_intervals v_isBlock v_isSeen v_lampX v_lampY v_right v_up v_keptRight v_keptUp v_name v_part v_codes v_above v_below v_length v_isMet) sz) := by
  refine jm_wi (cc := cX7_step) (maxL := 12) (by decide +kernel) rfl (Nat.le_of_ble_eq_true rfl) ?_
  intro p e s m below meth c A Q hx hb hml hown hts hK hP hD hA hS fin ls hl
  have hl : lv_has ls 12 [(0, .ref a_this), (1, .int x1)] := hl
  have hown : s.vm.findClass RX7 = some m.cls := hown
  have w_X7 : ∀ w ∈ u_ws RX7 TX7 20, w ∈ wsX7_step := by decide +kernel
  have w_f74 := hts (.fieldLink RX7 74 "BilliardryModel" "isBounce" "Z") (by decide +kernel)
  have J142 : ∀ (v_isBounce : Int32) (z2 : Int32) (z3 : Int32) (z7 : Int32) (z9 : Int32) (z10 : Int32) (s0 : Int32) (H : Heap) (locs : List Loc), va_P g.1 vwCl (jw_Mo g a_this a_this_isBlock a_this_isSeen a_this_lampX a_this_lampY a_this_right a_this_up a_this_keptRight a_this_keptUp a_this_name a_this_part a_this_codes a_this_above a_this_below a_this_length a_this_isMet v_thrown v_isBounce v_lamps v_squares v_intervals v_isBlock v_isSeen v_lampX v_lampY v_right v_up v_keptRight v_keptUp v_name v_part v_codes v_above v_below v_length v_isMet) H → va_S A s.heap H locs → ∀ (ls : Array Slot), lv_has ls 12 [(0, .ref a_this), (2, .int z2), (3, .int z3), (7, .int z7), (9, .int z9), (10, .int z10)] → jf_Mo_step_b142 v_isBounce v_isBlock z2 z3 z7 z9 z10 s0 = some R → W p l e jr_Mo_step s m ([.ref a_this, .int x1] : List Value).toArray below meth c H locs 0 0 Q (F0 m 142 ls [.int s0]) := by
    intro v_isBounce z2 z3 z7 z9 z10 s0 H locs hP hS ls hl hR
    rw [jf_Mo_step_b142] at hR
    refine lv_istore (lv' := [(11, .int s0), (0, .ref a_this), (2, .int z2), (3, .int z3), (7, .int z7), (9, .int z9), (10, .int z10)]) hx hb dX7_step_142 hl (by decide) rfl (fun ls hl => ?_)
    refine lv_aload_n hx hb dX7_step_144 rfl (lv_at hl 1 rfl) ?_
    refine lv_aload_n hx hb dX7_step_145 rfl (lv_at hl 1 rfl) ?_
    refine lv_iload hx hb dX7_step_146 (lv_at hl 5 rfl) ?_
    refine lv_iload hx hb dX7_step_148 (lv_at hl 6 rfl) ?_
    obtain ⟨q_1, hq_1, hR⟩ := jbind hR
    try dsimp only at hR
    refine jcall_ri (va_runV (As := [.int z9, .int z10]) (rest := [.ref a_this]) ⟨hx, hb, hml, hown, hts⟩ (jc_Mo_isFloor l g a_this a_this_isBlock a_this_isSeen a_this_lampX a_this_lampY a_this_right a_this_up a_this_keptRight a_this_keptUp a_this_name a_this_part a_this_codes a_this_above a_this_below a_this_length a_this_isMet v_thrown v_isBounce v_lamps v_squares v_intervals v_isBlock v_isSeen v_lampX v_lampY v_right v_up v_keptRight v_keptUp v_name v_part v_codes v_above v_below v_length v_isMet z9 z10 _ hq_1) (cwV 2 hts gX7_step_X7_isFloor rfl rfl rfl (by decide +kernel) ⟨Nat.le_of_ble_eq_true rfl, Nat.le_of_ble_eq_true rfl⟩) (jpr_v hK hP (ci := 7) (q0 := 0) rfl rfl) rfl rfl hl.1 rfl (lv_room (Nat.le_of_ble_eq_true rfl)) dX7_step_150 ⟨Nat.zero_le _, Nat.zero_le _⟩) ?_
    refine lv_if_ne (tgt := 160) hx hb dX7_step_153 (by decide) (fun c_9 => ?_) (fun c_9 => ?_)
    · replace hR := Eq.trans (Eq.symm (if_neg c_9)) hR
      refine lv_iconst (v := 0) hx hb dX7_step_160 (by decide) ?_
      refine va_put (D := g.1) (ci := 7) (v := .int 0) (ty := .boolean) (C := RX7) (T := TX7) (N := 20) hx hb hts w_X7 tyX7 tyX7_ok nmX7 hown hK.1 hP (jD_to hD rfl) hS 0 rfl rfl 2 (by decide) w_f74 (fun _ h9 => h9) rfl (by decide +kernel) rfl rfl (Nat.le_of_ble_eq_true rfl) dX7_step_161 (fun H locs hP _ hS => ?_)
      have hP : va_P g.1 vwCl (jw_Mo g a_this a_this_isBlock a_this_isSeen a_this_lampX a_this_lampY a_this_right a_this_up a_this_keptRight a_this_keptUp a_this_name a_this_part a_this_codes a_this_above a_this_below a_this_length a_this_isMet v_thrown 0 v_lamps v_squares v_intervals v_isBlock v_isSeen v_lampX v_lampY v_right v_up v_keptRight v_keptUp v_name v_part v_codes v_above v_below v_length v_isMet) H := hP
      refine lv_aload_n hx hb dX7_step_164 rfl (lv_at hl 1 rfl) ?_
      refine va_get (D := g.1) (ci := 7) (v := .int 0) (C := RX7) (T := TX7) (N := 20) hx hb hts w_X7 hown hK.1 hP 0 rfl rfl 2 (by decide) w_f74 (fun _ h9 => h9) rfl dX7_step_165 ?_
      refine lv_if_eq (tgt := 183) hx hb dX7_step_168 (by decide) (fun c_10 => ?_) (fun c_10 => ?_)
      · replace hR := Eq.trans (Eq.symm (if_pos c_10)) hR
        refine lv_iload hx hb dX7_step_183 (lv_at hl 5 rfl) ?_
        refine lv_iload hx hb dX7_step_185 (lv_at hl 6 rfl) ?_
        refine lv_iload hx hb dX7_step_187 (lv_at hl 0 rfl) ?_
        refine lv_iconst (v := 2) hx hb dX7_step_189 (by decide) ?_
        refine lv_iadd hx hb dX7_step_190 ?_
        refine lv_iconst (v := 4) hx hb dX7_step_191 (by decide) ?_
        refine lv_irem hx hb dX7_step_192 (by decide) ?_
        refine lv_iload hx hb dX7_step_193 (lv_at hl 4 rfl) ?_
        refine jcall_ri (va_runS (As := [.int z9, .int z10, .int ((s0 + 2) - (s0 + 2) / 4 * 4), .int z7]) (rest := []) ⟨hx, hb, hml, hown, hts⟩ (jc_Mo_stateOf l g  z9 z10 ((s0 + 2) - (s0 + 2) / 4 * 4) z7 _ rfl) (va_cwS 4 hts gX7_step_X7_stateOf rfl rfl rfl (by decide +kernel) ⟨Nat.le_of_ble_eq_true rfl, Nat.le_of_ble_eq_true rfl⟩) (jpr_s hK (hP.sub (ws' := []) [] rfl)) rfl rfl hl.1 rfl (lv_room (Nat.le_of_ble_eq_true rfl)) dX7_step_195 ⟨Nat.zero_le _, Nat.zero_le _⟩) ?_
        obtain rfl := (Option.some.inj hR)
        exact fin _ _ _ _ _ rfl hP hS dX7_step_198
      · replace hR := Eq.trans (Eq.symm (if_neg c_10)) hR
        refine lv_iload_n hx hb dX7_step_171 rfl (lv_at hl 2 rfl) ?_
        refine lv_iload_n hx hb dX7_step_172 rfl (lv_at hl 3 rfl) ?_
        refine lv_iload hx hb dX7_step_173 (lv_at hl 0 rfl) ?_
        refine lv_iload hx hb dX7_step_175 (lv_at hl 4 rfl) ?_
        refine jcall_ri (va_runS (As := [.int z2, .int z3, .int s0, .int z7]) (rest := []) ⟨hx, hb, hml, hown, hts⟩ (jc_Mo_stateOf l g  z2 z3 s0 z7 _ rfl) (va_cwS 4 hts gX7_step_X7_stateOf rfl rfl rfl (by decide +kernel) ⟨Nat.le_of_ble_eq_true rfl, Nat.le_of_ble_eq_true rfl⟩) (jpr_s hK (hP.sub (ws' := []) [] rfl)) rfl rfl hl.1 rfl (lv_room (Nat.le_of_ble_eq_true rfl)) dX7_step_177 ⟨Nat.zero_le _, Nat.zero_le _⟩) ?_
        refine lv_goto (tgt := 198) hx hb dX7_step_180 (by decide) ?_
        obtain rfl := (Option.some.inj hR)
        exact fin _ _ _ _ _ rfl hP hS dX7_step_198
    · replace hR := Eq.trans (Eq.symm (if_pos c_9)) hR
      refine lv_iconst (v := 1) hx hb dX7_step_156 (by decide) ?_
      refine lv_goto (tgt := 161) hx hb dX7_step_157 (by decide) ?_
      refine va_put (D := g.1) (ci := 7) (v := .int 1) (ty := .boolean) (C := RX7) (T := TX7) (N := 20) hx hb hts w_X7 tyX7 tyX7_ok nmX7 hown hK.1 hP (jD_to hD rfl) hS 0 rfl rfl 2 (by decide) w_f74 (fun _ h9 => h9) rfl (by decide +kernel) rfl rfl (Nat.le_of_ble_eq_true rfl) dX7_step_161 (fun H locs hP _ hS => ?_)
      have hP : va_P g.1 vwCl (jw_Mo g a_this a_this_isBlock a_this_isSeen a_this_lampX a_this_lampY a_this_right a_this_up a_this_keptRight a_this_keptUp a_this_name a_this_part a_this_codes a_this_above a_this_below a_this_length a_this_isMet v_thrown 1 v_lamps v_squares v_intervals v_isBlock v_isSeen v_lampX v_lampY v_right v_up v_keptRight v_keptUp v_name v_part v_codes v_above v_below v_length v_isMet) H := hP
      refine lv_aload_n hx hb dX7_step_164 rfl (lv_at hl 1 rfl) ?_
      refine va_get (D := g.1) (ci := 7) (v := .int 1) (C := RX7) (T := TX7) (N := 20) hx hb hts w_X7 hown hK.1 hP 0 rfl rfl 2 (by decide) w_f74 (fun _ h9 => h9) rfl dX7_step_165 ?_
      refine lv_if_eq (tgt := 183) hx hb dX7_step_168 (by decide) (fun c_11 => ?_) (fun c_11 => ?_)
      · replace hR := Eq.trans (Eq.symm (if_pos c_11)) hR
        refine lv_iload hx hb dX7_step_183 (lv_at hl 5 rfl) ?_
        refine lv_iload hx hb dX7_step_185 (lv_at hl 6 rfl) ?_
        refine lv_iload hx hb dX7_step_187 (lv_at hl 0 rfl) ?_
        refine lv_iconst (v := 2) hx hb dX7_step_189 (by decide) ?_
        refine lv_iadd hx hb dX7_step_190 ?_
        refine lv_iconst (v := 4) hx hb dX7_step_191 (by decide) ?_
        refine lv_irem hx hb dX7_step_192 (by decide) ?_
        refine lv_iload hx hb dX7_step_193 (lv_at hl 4 rfl) ?_
        refine jcall_ri (va_runS (As := [.int z9, .int z10, .int ((s0 + 2) - (s0 + 2) / 4 * 4), .int z7]) (rest := []) ⟨hx, hb, hml, hown, hts⟩ (jc_Mo_stateOf l g  z9 z10 ((s0 + 2) - (s0 + 2) / 4 * 4) z7 _ rfl) (va_cwS 4 hts gX7_step_X7_stateOf rfl rfl rfl (by decide +kernel) ⟨Nat.le_of_ble_eq_true rfl, Nat.le_of_ble_eq_true rfl⟩) (jpr_s hK (hP.sub (ws' := []) [] rfl)) rfl rfl hl.1 rfl (lv_room (Nat.le_of_ble_eq_true rfl)) dX7_step_195 ⟨Nat.zero_le _, Nat.zero_le _⟩) ?_
        obtain rfl := (Option.some.inj hR)
        exact fin _ _ _ _ _ rfl hP hS dX7_step_198
      · replace hR := Eq.trans (Eq.symm (if_neg c_11)) hR
        refine lv_iload_n hx hb dX7_step_171 rfl (lv_at hl 2 rfl) ?_
        refine lv_iload_n hx hb dX7_step_172 rfl (lv_at hl 3 rfl) ?_
        refine lv_iload hx hb dX7_step_173 (lv_at hl 0 rfl) ?_
        refine lv_iload hx hb dX7_step_175 (lv_at hl 4 rfl) ?_
        refine jcall_ri (va_runS (As := [.int z2, .int z3, .int s0, .int z7]) (rest := []) ⟨hx, hb, hml, hown, hts⟩ (jc_Mo_stateOf l g  z2 z3 s0 z7 _ rfl) (va_cwS 4 hts gX7_step_X7_stateOf rfl rfl rfl (by decide +kernel) ⟨Nat.le_of_ble_eq_true rfl, Nat.le_of_ble_eq_true rfl⟩) (jpr_s hK (hP.sub (ws' := []) [] rfl)) rfl rfl hl.1 rfl (lv_room (Nat.le_of_ble_eq_true rfl)) dX7_step_177 ⟨Nat.zero_le _, Nat.zero_le _⟩) ?_
        refine lv_goto (tgt := 198) hx hb dX7_step_180 (by decide) ?_
        obtain rfl := (Option.some.inj hR)
        exact fin _ _ _ _ _ rfl hP hS dX7_step_198
  have J112 : ∀ (v_isBounce : Int32) (z2 : Int32) (z3 : Int32) (z5 : Int32) (z6 : Int32) (z7 : Int32) (z9 : Int32) (s0 : Int32) (H : Heap) (locs : List Loc), va_P g.1 vwCl (jw_Mo g a_this a_this_isBlock a_this_isSeen a_this_lampX a_this_lampY a_this_right a_this_up a_this_keptRight a_this_keptUp a_this_name a_this_part a_this_codes a_this_above a_this_below a_this_length a_this_isMet v_thrown v_isBounce v_lamps v_squares v_intervals v_isBlock v_isSeen v_lampX v_lampY v_right v_up v_keptRight v_keptUp v_name v_part v_codes v_above v_below v_length v_isMet) H → va_S A s.heap H locs → ∀ (ls : Array Slot), lv_has ls 12 [(0, .ref a_this), (2, .int z2), (3, .int z3), (5, .int z5), (6, .int z6), (7, .int z7), (9, .int z9)] → jf_Mo_step_b112 v_isBounce v_isBlock z2 z3 z5 z6 z7 z9 s0 = some R → W p l e jr_Mo_step s m ([.ref a_this, .int x1] : List Value).toArray below meth c H locs 0 0 Q (F0 m 112 ls [.int s0]) := by
    intro v_isBounce z2 z3 z5 z6 z7 z9 s0 H locs hP hS ls hl hR
    rw [jf_Mo_step_b112] at hR
    refine lv_istore (lv' := [(10, .int s0), (0, .ref a_this), (2, .int z2), (3, .int z3), (5, .int z5), (6, .int z6), (7, .int z7), (9, .int z9)]) hx hb dX7_step_112 hl (by decide) rfl (fun ls hl => ?_)
    refine lv_iload hx hb dX7_step_114 (lv_at hl 5 rfl) ?_
    refine lv_if_eq (tgt := 132) hx hb dX7_step_116 (by decide) (fun c_7 => ?_) (fun c_7 => ?_)
    · replace hR := Eq.trans (Eq.symm (if_pos c_7)) hR
      refine lv_iload hx hb dX7_step_132 (lv_at hl 4 rfl) ?_
      refine lv_if_eq (tgt := 141) hx hb dX7_step_134 (by decide) (fun c_8 => ?_) (fun c_8 => ?_)
      · replace hR := Eq.trans (Eq.symm (if_pos c_8)) hR
        refine lv_iconst (v := 1) hx hb dX7_step_141 (by decide) ?_
        exact J142 v_isBounce z2 z3 z7 z9 s0 1 _ _ hP hS _ (lv_sub hl [1, 2, 3, 6, 7, 0] rfl) hR
      · replace hR := Eq.trans (Eq.symm (if_neg c_8)) hR
        refine lv_iconst (v := 3) hx hb dX7_step_137 (by decide) ?_
        refine lv_goto (tgt := 142) hx hb dX7_step_138 (by decide) ?_
        exact J142 v_isBounce z2 z3 z7 z9 s0 3 _ _ hP hS _ (lv_sub hl [1, 2, 3, 6, 7, 0] rfl) hR
    · replace hR := Eq.trans (Eq.symm (if_neg c_7)) hR
      refine lv_iload hx hb dX7_step_119 (lv_at hl 4 rfl) ?_
      refine lv_if_eq (tgt := 128) hx hb dX7_step_121 (by decide) (fun c_12 => ?_) (fun c_12 => ?_)
      · replace hR := Eq.trans (Eq.symm (if_pos c_12)) hR
        refine lv_iconst (v := 0) hx hb dX7_step_128 (by decide) ?_
        refine lv_goto (tgt := 142) hx hb dX7_step_129 (by decide) ?_
        exact J142 v_isBounce z2 z3 z7 z9 s0 0 _ _ hP hS _ (lv_sub hl [1, 2, 3, 6, 7, 0] rfl) hR
      · replace hR := Eq.trans (Eq.symm (if_neg c_12)) hR
        refine lv_iconst (v := 2) hx hb dX7_step_124 (by decide) ?_
        refine lv_goto (tgt := 142) hx hb dX7_step_125 (by decide) ?_
        exact J142 v_isBounce z2 z3 z7 z9 s0 2 _ _ hP hS _ (lv_sub hl [1, 2, 3, 6, 7, 0] rfl) hR
  have J97 : ∀ (v_isBounce : Int32) (z2 : Int32) (z3 : Int32) (z5 : Int32) (z6 : Int32) (z7 : Int32) (z8 : Int32) (s0 : Int32) (H : Heap) (locs : List Loc), va_P g.1 vwCl (jw_Mo g a_this a_this_isBlock a_this_isSeen a_this_lampX a_this_lampY a_this_right a_this_up a_this_keptRight a_this_keptUp a_this_name a_this_part a_this_codes a_this_above a_this_below a_this_length a_this_isMet v_thrown v_isBounce v_lamps v_squares v_intervals v_isBlock v_isSeen v_lampX v_lampY v_right v_up v_keptRight v_keptUp v_name v_part v_codes v_above v_below v_length v_isMet) H → va_S A s.heap H locs → ∀ (ls : Array Slot), lv_has ls 12 [(0, .ref a_this), (2, .int z2), (3, .int z3), (5, .int z5), (6, .int z6), (7, .int z7), (8, .int z8)] → jf_Mo_step_b97 v_isBounce v_isBlock z2 z3 z5 z6 z7 z8 s0 = some R → W p l e jr_Mo_step s m ([.ref a_this, .int x1] : List Value).toArray below meth c H locs 0 0 Q (F0 m 97 ls [.int s0]) := by
    intro v_isBounce z2 z3 z5 z6 z7 z8 s0 H locs hP hS ls hl hR
    rw [jf_Mo_step_b97] at hR
    refine lv_istore (lv' := [(9, .int s0), (0, .ref a_this), (2, .int z2), (3, .int z3), (5, .int z5), (6, .int z6), (7, .int z7), (8, .int z8)]) hx hb dX7_step_97 hl (by decide) rfl (fun ls hl => ?_)
    refine lv_iload hx hb dX7_step_99 (lv_at hl 5 rfl) ?_
    refine lv_if_eq (tgt := 108) hx hb dX7_step_101 (by decide) (fun c_6 => ?_) (fun c_6 => ?_)
    · replace hR := Eq.trans (Eq.symm (if_pos c_6)) hR
      refine lv_iload_n hx hb dX7_step_108 rfl (lv_at hl 3 rfl) ?_
      refine lv_iload hx hb dX7_step_109 (lv_at hl 7 rfl) ?_
      refine lv_iadd hx hb dX7_step_111 ?_
      exact J112 v_isBounce z2 z3 z5 z6 z7 s0 (z3 + z8) _ _ hP hS _ (lv_sub hl [1, 2, 3, 4, 5, 6, 0] rfl) hR
    · replace hR := Eq.trans (Eq.symm (if_neg c_6)) hR
      refine lv_iload_n hx hb dX7_step_104 rfl (lv_at hl 3 rfl) ?_
      refine lv_goto (tgt := 112) hx hb dX7_step_105 (by decide) ?_
      exact J112 v_isBounce z2 z3 z5 z6 z7 s0 z3 _ _ hP hS _ (lv_sub hl [1, 2, 3, 4, 5, 6, 0] rfl) hR
  have J82 : ∀ (v_isBounce : Int32) (z2 : Int32) (z3 : Int32) (z5 : Int32) (z6 : Int32) (z7 : Int32) (s0 : Int32) (H : Heap) (locs : List Loc), va_P g.1 vwCl (jw_Mo g a_this a_this_isBlock a_this_isSeen a_this_lampX a_this_lampY a_this_right a_this_up a_this_keptRight a_this_keptUp a_this_name a_this_part a_this_codes a_this_above a_this_below a_this_length a_this_isMet v_thrown v_isBounce v_lamps v_squares v_intervals v_isBlock v_isSeen v_lampX v_lampY v_right v_up v_keptRight v_keptUp v_name v_part v_codes v_above v_below v_length v_isMet) H → va_S A s.heap H locs → ∀ (ls : Array Slot), lv_has ls 12 [(0, .ref a_this), (2, .int z2), (3, .int z3), (5, .int z5), (6, .int z6), (7, .int z7)] → jf_Mo_step_b82 v_isBounce v_isBlock z2 z3 z5 z6 z7 s0 = some R → W p l e jr_Mo_step s m ([.ref a_this, .int x1] : List Value).toArray below meth c H locs 0 0 Q (F0 m 82 ls [.int s0]) := by
    intro v_isBounce z2 z3 z5 z6 z7 s0 H locs hP hS ls hl hR
    rw [jf_Mo_step_b82] at hR
    refine lv_istore (lv' := [(8, .int s0), (0, .ref a_this), (2, .int z2), (3, .int z3), (5, .int z5), (6, .int z6), (7, .int z7)]) hx hb dX7_step_82 hl (by decide) rfl (fun ls hl => ?_)
    refine lv_iload hx hb dX7_step_84 (lv_at hl 5 rfl) ?_
    refine lv_if_eq (tgt := 96) hx hb dX7_step_86 (by decide) (fun c_5 => ?_) (fun c_5 => ?_)
    · replace hR := Eq.trans (Eq.symm (if_pos c_5)) hR
      refine lv_iload_n hx hb dX7_step_96 rfl (lv_at hl 2 rfl) ?_
      exact J97 v_isBounce z2 z3 z5 z6 z7 s0 z2 _ _ hP hS _ (lv_sub hl [1, 2, 3, 4, 5, 6, 0] rfl) hR
    · replace hR := Eq.trans (Eq.symm (if_neg c_5)) hR
      refine lv_iload_n hx hb dX7_step_89 rfl (lv_at hl 2 rfl) ?_
      refine lv_iload hx hb dX7_step_90 (lv_at hl 0 rfl) ?_
      refine lv_iadd hx hb dX7_step_92 ?_
      refine lv_goto (tgt := 97) hx hb dX7_step_93 (by decide) ?_
      exact J97 v_isBounce z2 z3 z5 z6 z7 s0 (z2 + s0) _ _ hP hS _ (lv_sub hl [1, 2, 3, 4, 5, 6, 0] rfl) hR
  have J70 : ∀ (v_isBounce : Int32) (z2 : Int32) (z3 : Int32) (z5 : Int32) (z6 : Int32) (s0 : Int32) (H : Heap) (locs : List Loc), va_P g.1 vwCl (jw_Mo g a_this a_this_isBlock a_this_isSeen a_this_lampX a_this_lampY a_this_right a_this_up a_this_keptRight a_this_keptUp a_this_name a_this_part a_this_codes a_this_above a_this_below a_this_length a_this_isMet v_thrown v_isBounce v_lamps v_squares v_intervals v_isBlock v_isSeen v_lampX v_lampY v_right v_up v_keptRight v_keptUp v_name v_part v_codes v_above v_below v_length v_isMet) H → va_S A s.heap H locs → ∀ (ls : Array Slot), lv_has ls 12 [(0, .ref a_this), (2, .int z2), (3, .int z3), (5, .int z5), (6, .int z6)] → jf_Mo_step_b70 v_isBounce v_isBlock z2 z3 z5 z6 s0 = some R → W p l e jr_Mo_step s m ([.ref a_this, .int x1] : List Value).toArray below meth c H locs 0 0 Q (F0 m 70 ls [.int s0]) := by
    intro v_isBounce z2 z3 z5 z6 s0 H locs hP hS ls hl hR
    rw [jf_Mo_step_b70] at hR
    refine lv_istore (lv' := [(7, .int s0), (0, .ref a_this), (2, .int z2), (3, .int z3), (5, .int z5), (6, .int z6)]) hx hb dX7_step_70 hl (by decide) rfl (fun ls hl => ?_)
    refine lv_iload hx hb dX7_step_72 (lv_at hl 4 rfl) ?_
    refine lv_if_eq (tgt := 81) hx hb dX7_step_74 (by decide) (fun c_4 => ?_) (fun c_4 => ?_)
    · replace hR := Eq.trans (Eq.symm (if_pos c_4)) hR
      refine lv_iconst (v := (-1)) hx hb dX7_step_81 (by decide) ?_
      exact J82 v_isBounce z2 z3 z5 z6 s0 (-1) _ _ hP hS _ (lv_sub hl [1, 2, 3, 4, 5, 0] rfl) hR
    · replace hR := Eq.trans (Eq.symm (if_neg c_4)) hR
      refine lv_iconst (v := 1) hx hb dX7_step_77 (by decide) ?_
      refine lv_goto (tgt := 82) hx hb dX7_step_78 (by decide) ?_
      exact J82 v_isBounce z2 z3 z5 z6 s0 1 _ _ hP hS _ (lv_sub hl [1, 2, 3, 4, 5, 0] rfl) hR
  have J65 : ∀ (v_isBounce : Int32) (z2 : Int32) (z3 : Int32) (z5 : Int32) (z6 : Int32) (H : Heap) (locs : List Loc), va_P g.1 vwCl (jw_Mo g a_this a_this_isBlock a_this_isSeen a_this_lampX a_this_lampY a_this_right a_this_up a_this_keptRight a_this_keptUp a_this_name a_this_part a_this_codes a_this_above a_this_below a_this_length a_this_isMet v_thrown v_isBounce v_lamps v_squares v_intervals v_isBlock v_isSeen v_lampX v_lampY v_right v_up v_keptRight v_keptUp v_name v_part v_codes v_above v_below v_length v_isMet) H → va_S A s.heap H locs → ∀ (ls : Array Slot), lv_has ls 12 [(0, .ref a_this), (2, .int z2), (3, .int z3), (5, .int z5), (6, .int z6)] → jf_Mo_step_b65 v_isBounce v_isBlock z2 z3 z5 z6 = some R → W p l e jr_Mo_step s m ([.ref a_this, .int x1] : List Value).toArray below meth c H locs 0 0 Q (F0 m 65 ls []) := by
    intro v_isBounce z2 z3 z5 z6 H locs hP hS ls hl hR
    rw [jf_Mo_step_b65] at hR
    refine lv_iconst (v := 1) hx hb dX7_step_65 (by decide) ?_
    refine lv_goto (tgt := 70) hx hb dX7_step_66 (by decide) ?_
    exact J70 v_isBounce z2 z3 z5 z6 1 _ _ hP hS _ (lv_sub hl [0, 1, 2, 3, 4] rfl) hR
  have J52 : ∀ (v_isBounce : Int32) (z2 : Int32) (z3 : Int32) (z4 : Int32) (z5 : Int32) (s0 : Int32) (H : Heap) (locs : List Loc), va_P g.1 vwCl (jw_Mo g a_this a_this_isBlock a_this_isSeen a_this_lampX a_this_lampY a_this_right a_this_up a_this_keptRight a_this_keptUp a_this_name a_this_part a_this_codes a_this_above a_this_below a_this_length a_this_isMet v_thrown v_isBounce v_lamps v_squares v_intervals v_isBlock v_isSeen v_lampX v_lampY v_right v_up v_keptRight v_keptUp v_name v_part v_codes v_above v_below v_length v_isMet) H → va_S A s.heap H locs → ∀ (ls : Array Slot), lv_has ls 12 [(0, .ref a_this), (2, .int z2), (3, .int z3), (4, .int z4), (5, .int z5)] → jf_Mo_step_b52 v_isBounce v_isBlock z2 z3 z4 z5 s0 = some R → W p l e jr_Mo_step s m ([.ref a_this, .int x1] : List Value).toArray below meth c H locs 0 0 Q (F0 m 52 ls [.int s0]) := by
    intro v_isBounce z2 z3 z4 z5 s0 H locs hP hS ls hl hR
    rw [jf_Mo_step_b52] at hR
    refine lv_istore (lv' := [(6, .int s0), (0, .ref a_this), (2, .int z2), (3, .int z3), (4, .int z4), (5, .int z5)]) hx hb dX7_step_52 hl (by decide) rfl (fun ls hl => ?_)
    refine lv_iload hx hb dX7_step_54 (lv_at hl 4 rfl) ?_
    refine lv_if_eq (tgt := 65) hx hb dX7_step_56 (by decide) (fun c_3 => ?_) (fun c_3 => ?_)
    · replace hR := Eq.trans (Eq.symm (if_pos c_3)) hR
      exact J65 v_isBounce z2 z3 z5 s0 _ _ hP hS _ (lv_sub hl [1, 2, 3, 5, 0] rfl) hR
    · replace hR := Eq.trans (Eq.symm (if_neg c_3)) hR
      refine lv_iload hx hb dX7_step_59 (lv_at hl 4 rfl) ?_
      refine lv_iconst (v := 1) hx hb dX7_step_61 (by decide) ?_
      refine lv_icmp_ne (tgt := 69) hx hb dX7_step_62 (by decide) (fun c_13 => ?_) (fun c_13 => ?_)
      · replace hR := Eq.trans (Eq.symm (if_neg c_13)) hR
        refine lv_iconst (v := 0) hx hb dX7_step_69 (by decide) ?_
        exact J70 v_isBounce z2 z3 z5 s0 0 _ _ hP hS _ (lv_sub hl [1, 2, 3, 5, 0] rfl) hR
      · replace hR := Eq.trans (Eq.symm (if_pos c_13)) hR
        exact J65 v_isBounce z2 z3 z5 s0 _ _ hP hS _ (lv_sub hl [1, 2, 3, 5, 0] rfl) hR
  have J47 : ∀ (v_isBounce : Int32) (z2 : Int32) (z3 : Int32) (z4 : Int32) (z5 : Int32) (H : Heap) (locs : List Loc), va_P g.1 vwCl (jw_Mo g a_this a_this_isBlock a_this_isSeen a_this_lampX a_this_lampY a_this_right a_this_up a_this_keptRight a_this_keptUp a_this_name a_this_part a_this_codes a_this_above a_this_below a_this_length a_this_isMet v_thrown v_isBounce v_lamps v_squares v_intervals v_isBlock v_isSeen v_lampX v_lampY v_right v_up v_keptRight v_keptUp v_name v_part v_codes v_above v_below v_length v_isMet) H → va_S A s.heap H locs → ∀ (ls : Array Slot), lv_has ls 12 [(0, .ref a_this), (2, .int z2), (3, .int z3), (4, .int z4), (5, .int z5)] → jf_Mo_step_b47 v_isBounce v_isBlock z2 z3 z4 z5 = some R → W p l e jr_Mo_step s m ([.ref a_this, .int x1] : List Value).toArray below meth c H locs 0 0 Q (F0 m 47 ls []) := by
    intro v_isBounce z2 z3 z4 z5 H locs hP hS ls hl hR
    rw [jf_Mo_step_b47] at hR
    refine lv_iconst (v := 1) hx hb dX7_step_47 (by decide) ?_
    refine lv_goto (tgt := 52) hx hb dX7_step_48 (by decide) ?_
    exact J52 v_isBounce z2 z3 z4 z5 1 _ _ hP hS _ (lv_sub hl [0, 1, 2, 3, 4] rfl) hR
  have J33 : ∀ (v_isBounce : Int32) (z2 : Int32) (z3 : Int32) (z4 : Int32) (s0 : Int32) (H : Heap) (locs : List Loc), va_P g.1 vwCl (jw_Mo g a_this a_this_isBlock a_this_isSeen a_this_lampX a_this_lampY a_this_right a_this_up a_this_keptRight a_this_keptUp a_this_name a_this_part a_this_codes a_this_above a_this_below a_this_length a_this_isMet v_thrown v_isBounce v_lamps v_squares v_intervals v_isBlock v_isSeen v_lampX v_lampY v_right v_up v_keptRight v_keptUp v_name v_part v_codes v_above v_below v_length v_isMet) H → va_S A s.heap H locs → ∀ (ls : Array Slot), lv_has ls 12 [(0, .ref a_this), (2, .int z2), (3, .int z3), (4, .int z4)] → jf_Mo_step_b33 v_isBounce v_isBlock z2 z3 z4 s0 = some R → W p l e jr_Mo_step s m ([.ref a_this, .int x1] : List Value).toArray below meth c H locs 0 0 Q (F0 m 33 ls [.int s0]) := by
    intro v_isBounce z2 z3 z4 s0 H locs hP hS ls hl hR
    rw [jf_Mo_step_b33] at hR
    refine lv_istore (lv' := [(5, .int s0), (0, .ref a_this), (2, .int z2), (3, .int z3), (4, .int z4)]) hx hb dX7_step_33 hl (by decide) rfl (fun ls hl => ?_)
    refine lv_iload hx hb dX7_step_35 (lv_at hl 4 rfl) ?_
    refine lv_iconst (v := 1) hx hb dX7_step_37 (by decide) ?_
    refine lv_icmp_eq (tgt := 47) hx hb dX7_step_38 (by decide) (fun c_2 => ?_) (fun c_2 => ?_)
    · replace hR := Eq.trans (Eq.symm (if_pos c_2)) hR
      exact J47 v_isBounce z2 z3 z4 s0 _ _ hP hS _ (lv_sub hl [1, 2, 3, 4, 0] rfl) hR
    · replace hR := Eq.trans (Eq.symm (if_neg c_2)) hR
      refine lv_iload hx hb dX7_step_41 (lv_at hl 4 rfl) ?_
      refine lv_iconst (v := 3) hx hb dX7_step_43 (by decide) ?_
      refine lv_icmp_ne (tgt := 51) hx hb dX7_step_44 (by decide) (fun c_14 => ?_) (fun c_14 => ?_)
      · replace hR := Eq.trans (Eq.symm (if_neg c_14)) hR
        refine lv_iconst (v := 0) hx hb dX7_step_51 (by decide) ?_
        exact J52 v_isBounce z2 z3 z4 s0 0 _ _ hP hS _ (lv_sub hl [1, 2, 3, 4, 0] rfl) hR
      · replace hR := Eq.trans (Eq.symm (if_pos c_14)) hR
        exact J47 v_isBounce z2 z3 z4 s0 _ _ hP hS _ (lv_sub hl [1, 2, 3, 4, 0] rfl) hR
  rw [jf_Mo_step] at hR
  refine lv_iload_n hx hb dX7_step_0 rfl (lv_at hl 1 rfl) ?_
  refine lv_bipush (v := 8) hx hb dX7_step_1 (by decide) ?_
  refine lv_irem hx hb dX7_step_3 (by decide) ?_
  refine jlet_i hR (fun y2_1 hR => ?_)
  try dsimp only at hR
  refine lv_istore_n (lv' := [(2, .int y2_1), (0, .ref a_this), (1, .int x1)]) hx hb dX7_step_4 rfl hl (by decide) rfl (fun ls hl => ?_)
  refine lv_iload_n hx hb dX7_step_5 rfl (lv_at hl 2 rfl) ?_
  refine lv_bipush (v := 8) hx hb dX7_step_6 (by decide) ?_
  refine lv_idiv hx hb dX7_step_8 (by decide) ?_
  refine lv_bipush (v := 8) hx hb dX7_step_9 (by decide) ?_
  refine lv_irem hx hb dX7_step_11 (by decide) ?_
  refine jlet_i hR (fun y3_1 hR => ?_)
  try dsimp only at hR
  refine lv_istore_n (lv' := [(3, .int y3_1), (2, .int y2_1), (0, .ref a_this), (1, .int x1)]) hx hb dX7_step_12 rfl hl (by decide) rfl (fun ls hl => ?_)
  refine lv_iload_n hx hb dX7_step_13 rfl (lv_at hl 3 rfl) ?_
  refine lv_bipush (v := 64) hx hb dX7_step_14 (by decide) ?_
  refine lv_idiv hx hb dX7_step_16 (by decide) ?_
  refine lv_iconst (v := 4) hx hb dX7_step_17 (by decide) ?_
  refine lv_irem hx hb dX7_step_18 (by decide) ?_
  refine jlet_i hR (fun y4_1 hR => ?_)
  try dsimp only at hR
  refine lv_istore (lv' := [(4, .int y4_1), (3, .int y3_1), (2, .int y2_1), (0, .ref a_this), (1, .int x1)]) hx hb dX7_step_19 hl (by decide) rfl (fun ls hl => ?_)
  refine lv_iload_n hx hb dX7_step_21 rfl (lv_at hl 4 rfl) ?_
  refine lv_sipush (v := 256) hx hb dX7_step_22 (by decide) ?_
  refine lv_icmp_lt (tgt := 32) hx hb dX7_step_25 (by decide) (fun c_1 => ?_) (fun c_1 => ?_)
  · replace hR := Eq.trans (Eq.symm (if_pos c_1)) hR
    refine lv_iconst (v := 0) hx hb dX7_step_32 (by decide) ?_
    exact J33 v_isBounce y2_1 y3_1 y4_1 0 _ _ hP hS _ (lv_sub hl [3, 2, 1, 0] rfl) hR
  · replace hR := Eq.trans (Eq.symm (if_neg c_1)) hR
    refine lv_iconst (v := 1) hx hb dX7_step_28 (by decide) ?_
    refine lv_goto (tgt := 33) hx hb dX7_step_29 (by decide) ?_
    exact J33 v_isBounce y2_1 y3_1 y4_1 1 _ _ hP hS _ (lv_sub hl [3, 2, 1, 0] rfl) hR
def jf_Mo_asksShot_b45 (v_thrown : Int32) (s1 : Int32) : Option (Int32 × Int32) :=
  if s1 = 0 then (some (1, s1)) else (some (0, s1))
def jf_Mo_asksShot_b27 (v_thrown : Int32) : Option (Int32 × Int32) :=
  jf_Mo_asksShot_b45 v_thrown 2
def jf_Mo_asksShot (v_thrown : Int32) (v_isBlock : Nat → Int32) (x1 : Int32) (x2 : Int32) (x3 : Int32) (x4 : Int32) : Option (Int32 × Int32) :=
  if (jf_Mo_isCell x1 x2) = 0 then (jf_Mo_asksShot_b45 v_thrown 1) else (if (jf_Mo_in x3 0 3) = 0 then (jf_Mo_asksShot_b27 v_thrown) else (if x4 = 0 then (jf_Mo_asksShot_b27 v_thrown) else (Option.bind (jf_Mo_isFloor v_isBlock x1 x2) (fun q_1 => if q_1 = 0 then (jf_Mo_asksShot_b45 v_thrown 3) else (jf_Mo_asksShot_b45 v_thrown 0)))))
abbrev jr_Mo_asksShot : Room := { frames := 3, cells := 0, slots := 0, locals := 65 }
set_option maxRecDepth 100000 in
set_option maxHeartbeats 4000000 in
theorem jc_Mo_asksShot (l : Launch) (g : jG) (a_this a_this_isBlock a_this_isSeen a_this_lampX a_this_lampY a_this_right a_this_up a_this_keptRight a_this_keptUp a_this_name a_this_part a_this_codes a_this_above a_this_below a_this_length a_this_isMet : Nat) (v_thrown : Int32) (v_isBounce : Int32) (v_lamps : Int32) (v_squares : Int32) (v_intervals : Int32) (v_isBlock : Nat → Int32) (v_isSeen : Nat → Int32) (v_lampX : Nat → Int32) (v_lampY : Nat → Int32) (v_right : Nat → Int32) (v_up : Nat → Int32) (v_keptRight : Nat → Int32) (v_keptUp : Nat → Int32) (v_name : Nat → Int32) (v_part : Nat → Int32) (v_codes : Nat → Int32) (v_above : Nat → Int32) (v_below : Nat → Int32) (v_length : Nat → Int32) (v_isMet : Nat → Int32) (x1 : Int32) (x2 : Int32) (x3 : Int32) (x4 : Int32) (R : Int32 × Int32) (hR : jf_Mo_asksShot v_thrown v_isBlock x1 x2 x3 x4 = some R) (sz : Nat) : Met l yX7_asksShot wsX7_asksShot jr_Mo_asksShot (jPw g [.ref a_this, .int x1, .int x2, .int x3, .int x4] (jw_Mo g a_this a_this_isBlock a_this_isSeen a_this_lampX a_this_lampY a_this_right a_this_up a_this_keptRight a_this_keptUp a_this_name a_this_part a_this_codes a_this_above a_this_below a_this_length a_this_isMet v_thrown v_isBounce v_lamps v_squares v_intervals v_isBlock v_isSeen v_lampX v_lampY v_right v_up v_keptRight v_keptUp v_name v_part v_codes v_above v_below v_length v_isMet) sz) (jQi g R.1 (jw_Mo g a_this a_this_isBlock a_this_isSeen a_this_lampX a_this_lampY a_this_right a_this_up a_this_keptRight a_this_keptUp a_this_name a_this_part a_this_codes a_this_above a_this_below a_this_length a_this_isMet R.2 v_isBounce v_lamps v_squares v_intervals v_isBlock v_isSeen v_lampX v_lampY v_right v_up v_keptRight v_keptUp v_name v_part v_codes v_above v_below v_length v_isMet) (va_A (jw_Mo g a_this a_this_isBlock a_this_isSeen a_this_lampX a_this_lampY a_this_right a_this_up a_this_keptRight a_this_keptUp a_this_name a_this_part a_this_codes a_this_above a_this_below a_this_length a_this_isMet v_thrown v_isBounce v_lamps v_squares v_intervals v_isBlock v_isSeen v_lampX v_lampY v_right v_up v_keptRight v_keptUp v_name v_part v_codes v_above v_below v_length v_isMet) sz)) 0 0 (va_A (jw_Mo g a_this a_this_isBlock a_this_isSeen a_this_lampX a_this_lampY a_this_right a_this_up a_this_keptRight a_this_keptUp a_this_name a_this_part a_this_codes a_this_above a_this_below a_this_length a_this_isMet v_thrown v_isBounce v_lamps v_squares v_intervals v_isBlock v_isSeen v_lampX v_lampY v_right v_up v_keptRight v_keptUp v_name v_part v_codes v_above v_below v_length v_isMet) sz) := by
  refine jm_wz (cc := cX7_asksShot) (maxL := 5) (by decide +kernel) rfl (Nat.le_of_ble_eq_true rfl) ?_
  intro p e s m below meth c A Q hx hb hml hown hts hK hP hD hA hS fin ls hl
  have hl : lv_has ls 5 [(0, .ref a_this), (1, .int x1), (2, .int x2), (3, .int x3), (4, .int x4)] := hl
  have hown : s.vm.findClass RX7 = some m.cls := hown
  have w_X7 : ∀ w ∈ u_ws RX7 TX7 20, w ∈ wsX7_asksShot := by decide +kernel
  have w_f60 := hts (.fieldLink RX7 60 "BilliardryModel" "thrown" "I") (by decide +kernel)
  have J45 : ∀ (v_thrown : Int32) (s1 : Int32) (H : Heap) (locs : List Loc), va_P g.1 vwCl (jw_Mo g a_this a_this_isBlock a_this_isSeen a_this_lampX a_this_lampY a_this_right a_this_up a_this_keptRight a_this_keptUp a_this_name a_this_part a_this_codes a_this_above a_this_below a_this_length a_this_isMet v_thrown v_isBounce v_lamps v_squares v_intervals v_isBlock v_isSeen v_lampX v_lampY v_right v_up v_keptRight v_keptUp v_name v_part v_codes v_above v_below v_length v_isMet) H → va_S A s.heap H locs → ∀ (ls : Array Slot), lv_has ls 5 [(0, .ref a_this)] → jf_Mo_asksShot_b45 v_thrown s1 = some R → W p l e jr_Mo_asksShot s m ([.ref a_this, .int x1, .int x2, .int x3, .int x4] : List Value).toArray below meth c H locs 0 0 Q (F0 m 45 ls [.int s1, .ref a_this]) := by
    intro v_thrown s1 H locs hP hS ls hl hR
    rw [jf_Mo_asksShot_b45] at hR
    refine va_put (D := g.1) (ci := 7) (v := .int s1) (ty := .int) (C := RX7) (T := TX7) (N := 20) hx hb hts w_X7 tyX7 tyX7_ok nmX7 hown hK.1 hP (jD_to hD rfl) hS 0 rfl rfl 0 (by decide) w_f60 (fun _ h9 => h9) rfl (by decide +kernel) rfl rfl (Nat.le_of_ble_eq_true rfl) dX7_asksShot_45 (fun H locs hP _ hS => ?_)
    have hP : va_P g.1 vwCl (jw_Mo g a_this a_this_isBlock a_this_isSeen a_this_lampX a_this_lampY a_this_right a_this_up a_this_keptRight a_this_keptUp a_this_name a_this_part a_this_codes a_this_above a_this_below a_this_length a_this_isMet s1 v_isBounce v_lamps v_squares v_intervals v_isBlock v_isSeen v_lampX v_lampY v_right v_up v_keptRight v_keptUp v_name v_part v_codes v_above v_below v_length v_isMet) H := hP
    refine lv_aload_n hx hb dX7_asksShot_48 rfl (lv_at hl 0 rfl) ?_
    refine va_get (D := g.1) (ci := 7) (v := .int s1) (C := RX7) (T := TX7) (N := 20) hx hb hts w_X7 hown hK.1 hP 0 rfl rfl 0 (by decide) w_f60 (fun _ h9 => h9) rfl dX7_asksShot_49 ?_
    refine lv_if_ne (tgt := 59) hx hb dX7_asksShot_52 (by decide) (fun c_3 => ?_) (fun c_3 => ?_)
    · replace hR := Eq.trans (Eq.symm (if_neg c_3)) hR
      refine lv_iconst (v := 0) hx hb dX7_asksShot_59 (by decide) ?_
      obtain rfl := (Option.some.inj hR)
      exact fin _ _ _ _ _ (by first | rfl | decide) hP hS dX7_asksShot_60
    · replace hR := Eq.trans (Eq.symm (if_pos c_3)) hR
      refine lv_iconst (v := 1) hx hb dX7_asksShot_55 (by decide) ?_
      refine lv_goto (tgt := 60) hx hb dX7_asksShot_56 (by decide) ?_
      obtain rfl := (Option.some.inj hR)
      exact fin _ _ _ _ _ (by first | rfl | decide) hP hS dX7_asksShot_60
  have J27 : ∀ (v_thrown : Int32) (H : Heap) (locs : List Loc), va_P g.1 vwCl (jw_Mo g a_this a_this_isBlock a_this_isSeen a_this_lampX a_this_lampY a_this_right a_this_up a_this_keptRight a_this_keptUp a_this_name a_this_part a_this_codes a_this_above a_this_below a_this_length a_this_isMet v_thrown v_isBounce v_lamps v_squares v_intervals v_isBlock v_isSeen v_lampX v_lampY v_right v_up v_keptRight v_keptUp v_name v_part v_codes v_above v_below v_length v_isMet) H → va_S A s.heap H locs → ∀ (ls : Array Slot), lv_has ls 5 [(0, .ref a_this)] → jf_Mo_asksShot_b27 v_thrown = some R → W p l e jr_Mo_asksShot s m ([.ref a_this, .int x1, .int x2, .int x3, .int x4] : List Value).toArray below meth c H locs 0 0 Q (F0 m 27 ls [.ref a_this]) := by
    intro v_thrown H locs hP hS ls hl hR
    rw [jf_Mo_asksShot_b27] at hR
    refine lv_iconst (v := 2) hx hb dX7_asksShot_27 (by decide) ?_
    refine lv_goto (tgt := 45) hx hb dX7_asksShot_28 (by decide) ?_
    exact J45 v_thrown 2 _ _ hP hS _ (lv_sub hl [0] rfl) hR
  rw [jf_Mo_asksShot] at hR
  refine lv_aload_n hx hb dX7_asksShot_0 rfl (lv_at hl 0 rfl) ?_
  refine lv_iload_n hx hb dX7_asksShot_1 rfl (lv_at hl 1 rfl) ?_
  refine lv_iload_n hx hb dX7_asksShot_2 rfl (lv_at hl 2 rfl) ?_
  refine jcall_ri (va_runS (As := [.int x1, .int x2]) (rest := [.ref a_this]) ⟨hx, hb, hml, hown, hts⟩ (jc_Mo_isCell l g  x1 x2 _ rfl) (va_cwS 2 hts gX7_asksShot_X7_isCell rfl rfl rfl (by decide +kernel) ⟨Nat.le_of_ble_eq_true rfl, Nat.le_of_ble_eq_true rfl⟩) (jpr_s hK (hP.sub (ws' := []) [] rfl)) rfl rfl hl.1 rfl (lv_room (Nat.le_of_ble_eq_true rfl)) dX7_asksShot_3 ⟨Nat.zero_le _, Nat.zero_le _⟩) ?_
  refine lv_if_ne (tgt := 13) hx hb dX7_asksShot_6 (by decide) (fun c_1 => ?_) (fun c_1 => ?_)
  · replace hR := Eq.trans (Eq.symm (if_neg c_1)) hR
    refine lv_iload_n hx hb dX7_asksShot_13 rfl (lv_at hl 3 rfl) ?_
    refine lv_iconst (v := 0) hx hb dX7_asksShot_14 (by decide) ?_
    refine lv_iconst (v := 3) hx hb dX7_asksShot_15 (by decide) ?_
    refine jcall_ri (va_runS (As := [.int x3, .int 0, .int 3]) (rest := [.ref a_this]) ⟨hx, hb, hml, hown, hts⟩ (jc_Mo_in l g  x3 0 3 _ rfl) (va_cwS 3 hts gX7_asksShot_X7_in rfl rfl rfl (by decide +kernel) ⟨Nat.le_of_ble_eq_true rfl, Nat.le_of_ble_eq_true rfl⟩) (jpr_s hK (hP.sub (ws' := []) [] rfl)) rfl rfl hl.1 rfl (lv_room (Nat.le_of_ble_eq_true rfl)) dX7_asksShot_16 ⟨Nat.zero_le _, Nat.zero_le _⟩) ?_
    refine lv_if_eq (tgt := 27) hx hb dX7_asksShot_19 (by decide) (fun c_2 => ?_) (fun c_2 => ?_)
    · replace hR := Eq.trans (Eq.symm (if_pos c_2)) hR
      exact J27 v_thrown _ _ hP hS _ (lv_sub hl [0] rfl) hR
    · replace hR := Eq.trans (Eq.symm (if_neg c_2)) hR
      refine lv_iload hx hb dX7_asksShot_22 (lv_at hl 4 rfl) ?_
      refine lv_if_ne (tgt := 31) hx hb dX7_asksShot_24 (by decide) (fun c_4 => ?_) (fun c_4 => ?_)
      · replace hR := Eq.trans (Eq.symm (if_neg c_4)) hR
        refine lv_aload_n hx hb dX7_asksShot_31 rfl (lv_at hl 0 rfl) ?_
        refine lv_iload_n hx hb dX7_asksShot_32 rfl (lv_at hl 1 rfl) ?_
        refine lv_iload_n hx hb dX7_asksShot_33 rfl (lv_at hl 2 rfl) ?_
        obtain ⟨q_1, hq_1, hR⟩ := jbind hR
        try dsimp only at hR
        refine jcall_ri (va_runV (As := [.int x1, .int x2]) (rest := [.ref a_this]) ⟨hx, hb, hml, hown, hts⟩ (jc_Mo_isFloor l g a_this a_this_isBlock a_this_isSeen a_this_lampX a_this_lampY a_this_right a_this_up a_this_keptRight a_this_keptUp a_this_name a_this_part a_this_codes a_this_above a_this_below a_this_length a_this_isMet v_thrown v_isBounce v_lamps v_squares v_intervals v_isBlock v_isSeen v_lampX v_lampY v_right v_up v_keptRight v_keptUp v_name v_part v_codes v_above v_below v_length v_isMet x1 x2 _ hq_1) (cwV 2 hts gX7_asksShot_X7_isFloor rfl rfl rfl (by decide +kernel) ⟨Nat.le_of_ble_eq_true rfl, Nat.le_of_ble_eq_true rfl⟩) (jpr_v hK hP (ci := 7) (q0 := 0) rfl rfl) rfl rfl hl.1 rfl (lv_room (Nat.le_of_ble_eq_true rfl)) dX7_asksShot_34 ⟨Nat.zero_le _, Nat.zero_le _⟩) ?_
        refine lv_if_eq (tgt := 44) hx hb dX7_asksShot_37 (by decide) (fun c_5 => ?_) (fun c_5 => ?_)
        · replace hR := Eq.trans (Eq.symm (if_pos c_5)) hR
          refine lv_iconst (v := 3) hx hb dX7_asksShot_44 (by decide) ?_
          exact J45 v_thrown 3 _ _ hP hS _ (lv_sub hl [0] rfl) hR
        · replace hR := Eq.trans (Eq.symm (if_neg c_5)) hR
          refine lv_iconst (v := 0) hx hb dX7_asksShot_40 (by decide) ?_
          refine lv_goto (tgt := 45) hx hb dX7_asksShot_41 (by decide) ?_
          exact J45 v_thrown 0 _ _ hP hS _ (lv_sub hl [0] rfl) hR
      · replace hR := Eq.trans (Eq.symm (if_pos c_4)) hR
        exact J27 v_thrown _ _ hP hS _ (lv_sub hl [0] rfl) hR
  · replace hR := Eq.trans (Eq.symm (if_pos c_1)) hR
    refine lv_iconst (v := 1) hx hb dX7_asksShot_9 (by decide) ?_
    refine lv_goto (tgt := 45) hx hb dX7_asksShot_10 (by decide) ?_
    exact J45 v_thrown 1 _ _ hP hS _ (lv_sub hl [0] rfl) hR
def jf_Mo_periodOf_L8 (v_isBlock : Nat → Int32) (z1 : Int32) : Nat → Int32 → Int32 → Int32 → Option (Int32 × Int32)
  | 0, _, _, _ => none
  | n + 1, z2, z3, v_isBounce =>
    if z3 = z1 then (some (z2, v_isBounce)) else (Option.bind (jf_Mo_step v_isBounce v_isBlock z3) (fun q_2 => (jf_Mo_periodOf_L8 v_isBlock z1 n) (z2 + 1) q_2.1 q_2.2))
def jf_Mo_periodOf (v_isBounce : Int32) (v_isBlock : Nat → Int32) (x1 : Int32) : Option (Int32 × Int32) :=
  Option.bind (jf_Mo_step v_isBounce v_isBlock x1) (fun q_1 => Option.bind (jf_Mo_periodOf_L8 v_isBlock x1 jF 1 q_1.1 q_1.2) (fun q_3 => some (q_3.1, q_3.2)))
abbrev jr_Mo_periodOf : Room := { frames := 4, cells := 0, slots := 0, locals := 96 }
set_option maxRecDepth 100000 in
set_option maxHeartbeats 4000000 in
theorem jc_Mo_periodOf (l : Launch) (g : jG) (a_this a_this_isBlock a_this_isSeen a_this_lampX a_this_lampY a_this_right a_this_up a_this_keptRight a_this_keptUp a_this_name a_this_part a_this_codes a_this_above a_this_below a_this_length a_this_isMet : Nat) (v_thrown : Int32) (v_isBounce : Int32) (v_lamps : Int32) (v_squares : Int32) (v_intervals : Int32) (v_isBlock : Nat → Int32) (v_isSeen : Nat → Int32) (v_lampX : Nat → Int32) (v_lampY : Nat → Int32) (v_right : Nat → Int32) (v_up : Nat → Int32) (v_keptRight : Nat → Int32) (v_keptUp : Nat → Int32) (v_name : Nat → Int32) (v_part : Nat → Int32) (v_codes : Nat → Int32) (v_above : Nat → Int32) (v_below : Nat → Int32) (v_length : Nat → Int32) (v_isMet : Nat → Int32) (x1 : Int32) (R : Int32 × Int32) (hR : jf_Mo_periodOf v_isBounce v_isBlock x1 = some R) (sz : Nat) : Met l yX7_periodOf wsX7_periodOf jr_Mo_periodOf (jPw g [.ref a_this, .int x1] (jw_Mo g a_this a_this_isBlock a_this_isSeen a_this_lampX a_this_lampY a_this_right a_this_up a_this_keptRight a_this_keptUp a_this_name a_this_part a_this_codes a_this_above a_this_below a_this_length a_this_isMet v_thrown v_isBounce v_lamps v_squares v_intervals v_isBlock v_isSeen v_lampX v_lampY v_right v_up v_keptRight v_keptUp v_name v_part v_codes v_above v_below v_length v_isMet) sz) (jQi g R.1 (jw_Mo g a_this a_this_isBlock a_this_isSeen a_this_lampX a_this_lampY a_this_right a_this_up a_this_keptRight a_this_keptUp a_this_name a_this_part a_this_codes a_this_above a_this_below a_this_length a_this_isMet v_thrown R.2 v_lamps v_squares v_intervals v_isBlock v_isSeen v_lampX v_lampY v_right v_up v_keptRight v_keptUp v_name v_part v_codes v_above v_below v_length v_isMet) (va_A (jw_Mo g a_this a_this_isBlock a_this_isSeen a_this_lampX a_this_lampY a_this_right a_this_up a_this_keptRight a_this_keptUp a_this_name a_this_part a_this_codes a_this_above a_this_below a_this_length a_this_isMet v_thrown v_isBounce v_lamps v_squares v_intervals v_isBlock v_isSeen v_lampX v_lampY v_right v_up v_keptRight v_keptUp v_name v_part v_codes v_above v_below v_length v_isMet) sz)) 0 0 (va_A (jw_Mo g a_this a_this_isBlock a_this_isSeen a_this_lampX a_this_lampY a_this_right a_this_up a_this_keptRight a_this_keptUp a_this_name a_this_part a_this_codes a_this_above a_this_below a_this_length a_this_isMet v_thrown v_isBounce v_lamps v_squares v_intervals v_isBlock v_isSeen v_lampX v_lampY v_right v_up v_keptRight v_keptUp v_name v_part v_codes v_above v_below v_length v_isMet) sz) := by
  refine jm_wi (cc := cX7_periodOf) (maxL := 4) (by decide +kernel) rfl (Nat.le_of_ble_eq_true rfl) ?_
  intro p e s m below meth c A Q hx hb hml hown hts hK hP hD hA hS fin ls hl
  have hl : lv_has ls 4 [(0, .ref a_this), (1, .int x1)] := hl
  have hown : s.vm.findClass RX7 = some m.cls := hown
  have L8 : ∀ (n : Nat) (z1 : Int32) (z2 : Int32) (z3 : Int32) (v_isBounce : Int32) (H : Heap) (locs : List Loc), va_P g.1 vwCl (jw_Mo g a_this a_this_isBlock a_this_isSeen a_this_lampX a_this_lampY a_this_right a_this_up a_this_keptRight a_this_keptUp a_this_name a_this_part a_this_codes a_this_above a_this_below a_this_length a_this_isMet v_thrown v_isBounce v_lamps v_squares v_intervals v_isBlock v_isSeen v_lampX v_lampY v_right v_up v_keptRight v_keptUp v_name v_part v_codes v_above v_below v_length v_isMet) H → va_S A s.heap H locs → ∀ (ls : Array Slot), lv_has ls 4 [(0, .ref a_this), (1, .int z1), (2, .int z2), (3, .int z3)] → ∀ q, jf_Mo_periodOf_L8 v_isBlock z1 n z2 z3 v_isBounce = some q → (∀ (H : Heap) (locs : List Loc), va_P g.1 vwCl (jw_Mo g a_this a_this_isBlock a_this_isSeen a_this_lampX a_this_lampY a_this_right a_this_up a_this_keptRight a_this_keptUp a_this_name a_this_part a_this_codes a_this_above a_this_below a_this_length a_this_isMet v_thrown q.2 v_lamps v_squares v_intervals v_isBlock v_isSeen v_lampX v_lampY v_right v_up v_keptRight v_keptUp v_name v_part v_codes v_above v_below v_length v_isMet) H → va_S A s.heap H locs → ∀ ls : Array Slot, lv_has ls 4 [(2, .int q.1)] → W p l e jr_Mo_periodOf s m ([.ref a_this, .int x1] : List Value).toArray below meth c H locs 0 0 Q (F0 m 25 ls [])) → W p l e jr_Mo_periodOf s m ([.ref a_this, .int x1] : List Value).toArray below meth c H locs 0 0 Q (F0 m 8 ls []) := by
    intro n z1
    induction n with
    | zero =>
      intro z2 z3 v_isBounce H locs hP hS ls hl q hR k
      cases hR
    | succ n ih =>
      intro z2 z3 v_isBounce H locs hP hS ls hl q hR k
      rw [jf_Mo_periodOf_L8] at hR
      refine lv_iload_n hx hb dX7_periodOf_8 rfl (lv_at hl 3 rfl) ?_
      refine lv_iload_n hx hb dX7_periodOf_9 rfl (lv_at hl 1 rfl) ?_
      refine lv_icmp_eq (tgt := 25) hx hb dX7_periodOf_10 (by decide) (fun c_1 => ?_) (fun c_1 => ?_)
      · replace hR := Eq.trans (Eq.symm (if_pos c_1)) hR
        cases hR
        exact k _ _ hP hS _ (lv_sub hl [2] rfl)
      · replace hR := Eq.trans (Eq.symm (if_neg c_1)) hR
        refine lv_aload_n hx hb dX7_periodOf_13 rfl (lv_at hl 0 rfl) ?_
        refine lv_iload_n hx hb dX7_periodOf_14 rfl (lv_at hl 3 rfl) ?_
        obtain ⟨q_2, hq_2, hR⟩ := jbind hR
        try dsimp only at hR
        refine jcall_wi (ws' := jw_Mo g a_this a_this_isBlock a_this_isSeen a_this_lampX a_this_lampY a_this_right a_this_up a_this_keptRight a_this_keptUp a_this_name a_this_part a_this_codes a_this_above a_this_below a_this_length a_this_isMet v_thrown q_2.2 v_lamps v_squares v_intervals v_isBlock v_isSeen v_lampX v_lampY v_right v_up v_keptRight v_keptUp v_name v_part v_codes v_above v_below v_length v_isMet) (va_runV (As := [.int z3]) (rest := []) ⟨hx, hb, hml, hown, hts⟩ (jc_Mo_step l g a_this a_this_isBlock a_this_isSeen a_this_lampX a_this_lampY a_this_right a_this_up a_this_keptRight a_this_keptUp a_this_name a_this_part a_this_codes a_this_above a_this_below a_this_length a_this_isMet v_thrown v_isBounce v_lamps v_squares v_intervals v_isBlock v_isSeen v_lampX v_lampY v_right v_up v_keptRight v_keptUp v_name v_part v_codes v_above v_below v_length v_isMet z3 _ hq_2 _) (cwV 1 hts gX7_periodOf_X7_step rfl rfl rfl (by decide +kernel) ⟨Nat.le_of_ble_eq_true rfl, Nat.le_of_ble_eq_true rfl⟩) (jpw_v hK hP (jD_to hD rfl) (ci := 7) (q0 := 0) rfl rfl) rfl rfl hl.1 rfl (lv_room (Nat.le_of_ble_eq_true rfl)) dX7_periodOf_15 ⟨Nat.zero_le _, Nat.zero_le _⟩) hP (jD_to hD rfl) hS hA [0, 1, 2, 3, 4, 5, 6, 7, 8, 9, 10, 11, 12, 13, 14, 15] [] [0, 1, 2, 3, 4, 5, 6, 7, 8, 9, 10, 11, 12, 13, 14, 15] rfl (by decide) rfl (fun H locs hP hS => ?_)
        refine lv_istore_n (lv' := [(3, .int q_2.1), (0, .ref a_this), (1, .int z1), (2, .int z2)]) hx hb dX7_periodOf_18 rfl hl (by decide) rfl (fun ls hl => ?_)
        refine lv_iinc (v := z2 + 1) (lv' := [(2, .int (z2 + 1)), (3, .int q_2.1), (0, .ref a_this), (1, .int z1)]) hx hb dX7_periodOf_19 hl (k := 3) rfl (by first | rfl | decide) (by decide) rfl (fun ls hl => ?_)
        refine lv_goto (tgt := 8) hx hb dX7_periodOf_22 (by decide) ?_
        exact ih (z2 + 1) q_2.1 q_2.2 _ _ hP hS _ (lv_sub hl [2, 3, 0, 1] rfl) _ hR k
  rw [jf_Mo_periodOf] at hR
  refine lv_iconst (v := 1) hx hb dX7_periodOf_0 (by decide) ?_
  refine lv_istore_n (lv' := [(2, .int 1), (0, .ref a_this), (1, .int x1)]) hx hb dX7_periodOf_1 rfl hl (by decide) rfl (fun ls hl => ?_)
  refine lv_aload_n hx hb dX7_periodOf_2 rfl (lv_at hl 1 rfl) ?_
  refine lv_iload_n hx hb dX7_periodOf_3 rfl (lv_at hl 2 rfl) ?_
  obtain ⟨q_1, hq_1, hR⟩ := jbind hR
  try dsimp only at hR
  refine jcall_wi (ws' := jw_Mo g a_this a_this_isBlock a_this_isSeen a_this_lampX a_this_lampY a_this_right a_this_up a_this_keptRight a_this_keptUp a_this_name a_this_part a_this_codes a_this_above a_this_below a_this_length a_this_isMet v_thrown q_1.2 v_lamps v_squares v_intervals v_isBlock v_isSeen v_lampX v_lampY v_right v_up v_keptRight v_keptUp v_name v_part v_codes v_above v_below v_length v_isMet) (va_runV (As := [.int x1]) (rest := []) ⟨hx, hb, hml, hown, hts⟩ (jc_Mo_step l g a_this a_this_isBlock a_this_isSeen a_this_lampX a_this_lampY a_this_right a_this_up a_this_keptRight a_this_keptUp a_this_name a_this_part a_this_codes a_this_above a_this_below a_this_length a_this_isMet v_thrown v_isBounce v_lamps v_squares v_intervals v_isBlock v_isSeen v_lampX v_lampY v_right v_up v_keptRight v_keptUp v_name v_part v_codes v_above v_below v_length v_isMet x1 _ hq_1 _) (cwV 1 hts gX7_periodOf_X7_step rfl rfl rfl (by decide +kernel) ⟨Nat.le_of_ble_eq_true rfl, Nat.le_of_ble_eq_true rfl⟩) (jpw_v hK hP (jD_to hD rfl) (ci := 7) (q0 := 0) rfl rfl) rfl rfl hl.1 rfl (lv_room (Nat.le_of_ble_eq_true rfl)) dX7_periodOf_4 ⟨Nat.zero_le _, Nat.zero_le _⟩) hP (jD_to hD rfl) hS hA [0, 1, 2, 3, 4, 5, 6, 7, 8, 9, 10, 11, 12, 13, 14, 15] [] [0, 1, 2, 3, 4, 5, 6, 7, 8, 9, 10, 11, 12, 13, 14, 15] rfl (by decide) rfl (fun H locs hP hS => ?_)
  refine lv_istore_n (lv' := [(3, .int q_1.1), (2, .int 1), (0, .ref a_this), (1, .int x1)]) hx hb dX7_periodOf_7 rfl hl (by decide) rfl (fun ls hl => ?_)
  obtain ⟨q_3, hq_3, hR⟩ := jbind hR
  try dsimp only at hR
  refine L8 jF x1 1 q_1.1 q_1.2 _ _ hP hS _ (lv_sub hl [2, 3, 1, 0] rfl) _ hq_3 (fun H locs hP hS ls hl => ?_)
  refine lv_iload_n hx hb dX7_periodOf_25 rfl (lv_at hl 0 rfl) ?_
  obtain rfl := (Option.some.inj hR)
  exact fin _ _ _ _ _ rfl hP hS dX7_periodOf_26
def jf_Mo_period (v_thrown : Int32) (v_isBounce : Int32) (v_isBlock : Nat → Int32) (x1 : Int32) (x2 : Int32) (x3 : Int32) (x4 : Int32) : Option (Int32 × Int32 × Int32) :=
  Option.bind (jf_Mo_asksShot v_thrown v_isBlock x1 x2 x3 1) (fun q_1 => if q_1.1 = 0 then (some (0, q_1.2, v_isBounce)) else (Option.bind (jf_Mo_periodOf v_isBounce v_isBlock (jf_Mo_stateOf x1 x2 x3 x4)) (fun q_2 => some (q_2.1, q_1.2, q_2.2))))
abbrev jr_Mo_period : Room := { frames := 5, cells := 0, slots := 0, locals := 119 }
set_option maxRecDepth 100000 in
set_option maxHeartbeats 4000000 in
theorem jc_Mo_period (l : Launch) (g : jG) (a_this a_this_isBlock a_this_isSeen a_this_lampX a_this_lampY a_this_right a_this_up a_this_keptRight a_this_keptUp a_this_name a_this_part a_this_codes a_this_above a_this_below a_this_length a_this_isMet : Nat) (v_thrown : Int32) (v_isBounce : Int32) (v_lamps : Int32) (v_squares : Int32) (v_intervals : Int32) (v_isBlock : Nat → Int32) (v_isSeen : Nat → Int32) (v_lampX : Nat → Int32) (v_lampY : Nat → Int32) (v_right : Nat → Int32) (v_up : Nat → Int32) (v_keptRight : Nat → Int32) (v_keptUp : Nat → Int32) (v_name : Nat → Int32) (v_part : Nat → Int32) (v_codes : Nat → Int32) (v_above : Nat → Int32) (v_below : Nat → Int32) (v_length : Nat → Int32) (v_isMet : Nat → Int32) (x1 : Int32) (x2 : Int32) (x3 : Int32) (x4 : Int32) (R : Int32 × Int32 × Int32) (hR : jf_Mo_period v_thrown v_isBounce v_isBlock x1 x2 x3 x4 = some R) (sz : Nat) : Met l yX7_period wsX7_period jr_Mo_period (jPw g [.ref a_this, .int x1, .int x2, .int x3, .int x4] (jw_Mo g a_this a_this_isBlock a_this_isSeen a_this_lampX a_this_lampY a_this_right a_this_up a_this_keptRight a_this_keptUp a_this_name a_this_part a_this_codes a_this_above a_this_below a_this_length a_this_isMet v_thrown v_isBounce v_lamps v_squares v_intervals v_isBlock v_isSeen v_lampX v_lampY v_right v_up v_keptRight v_keptUp v_name v_part v_codes v_above v_below v_length v_isMet) sz) (jQi g R.1 (jw_Mo g a_this a_this_isBlock a_this_isSeen a_this_lampX a_this_lampY a_this_right a_this_up a_this_keptRight a_this_keptUp a_this_name a_this_part a_this_codes a_this_above a_this_below a_this_length a_this_isMet R.2.1 R.2.2 v_lamps v_squares v_intervals v_isBlock v_isSeen v_lampX v_lampY v_right v_up v_keptRight v_keptUp v_name v_part v_codes v_above v_below v_length v_isMet) (va_A (jw_Mo g a_this a_this_isBlock a_this_isSeen a_this_lampX a_this_lampY a_this_right a_this_up a_this_keptRight a_this_keptUp a_this_name a_this_part a_this_codes a_this_above a_this_below a_this_length a_this_isMet v_thrown v_isBounce v_lamps v_squares v_intervals v_isBlock v_isSeen v_lampX v_lampY v_right v_up v_keptRight v_keptUp v_name v_part v_codes v_above v_below v_length v_isMet) sz)) 0 0 (va_A (jw_Mo g a_this a_this_isBlock a_this_isSeen a_this_lampX a_this_lampY a_this_right a_this_up a_this_keptRight a_this_keptUp a_this_name a_this_part a_this_codes a_this_above a_this_below a_this_length a_this_isMet v_thrown v_isBounce v_lamps v_squares v_intervals v_isBlock v_isSeen v_lampX v_lampY v_right v_up v_keptRight v_keptUp v_name v_part v_codes v_above v_below v_length v_isMet) sz) := by
  refine jm_wi (cc := cX7_period) (maxL := 5) (by decide +kernel) rfl (Nat.le_of_ble_eq_true rfl) ?_
  intro p e s m below meth c A Q hx hb hml hown hts hK hP hD hA hS fin ls hl
  have hl : lv_has ls 5 [(0, .ref a_this), (1, .int x1), (2, .int x2), (3, .int x3), (4, .int x4)] := hl
  have hown : s.vm.findClass RX7 = some m.cls := hown
  rw [jf_Mo_period] at hR
  refine lv_aload_n hx hb dX7_period_0 rfl (lv_at hl 0 rfl) ?_
  refine lv_iload_n hx hb dX7_period_1 rfl (lv_at hl 1 rfl) ?_
  refine lv_iload_n hx hb dX7_period_2 rfl (lv_at hl 2 rfl) ?_
  refine lv_iload_n hx hb dX7_period_3 rfl (lv_at hl 3 rfl) ?_
  refine lv_iconst (v := 1) hx hb dX7_period_4 (by decide) ?_
  obtain ⟨q_1, hq_1, hR⟩ := jbind hR
  try dsimp only at hR
  refine jcall_wi (ws' := jw_Mo g a_this a_this_isBlock a_this_isSeen a_this_lampX a_this_lampY a_this_right a_this_up a_this_keptRight a_this_keptUp a_this_name a_this_part a_this_codes a_this_above a_this_below a_this_length a_this_isMet q_1.2 v_isBounce v_lamps v_squares v_intervals v_isBlock v_isSeen v_lampX v_lampY v_right v_up v_keptRight v_keptUp v_name v_part v_codes v_above v_below v_length v_isMet) (va_runV (As := [.int x1, .int x2, .int x3, .int 1]) (rest := []) ⟨hx, hb, hml, hown, hts⟩ (jc_Mo_asksShot l g a_this a_this_isBlock a_this_isSeen a_this_lampX a_this_lampY a_this_right a_this_up a_this_keptRight a_this_keptUp a_this_name a_this_part a_this_codes a_this_above a_this_below a_this_length a_this_isMet v_thrown v_isBounce v_lamps v_squares v_intervals v_isBlock v_isSeen v_lampX v_lampY v_right v_up v_keptRight v_keptUp v_name v_part v_codes v_above v_below v_length v_isMet x1 x2 x3 1 _ hq_1 _) (cwV 4 hts gX7_period_X7_asksShot rfl rfl rfl (by decide +kernel) ⟨Nat.le_of_ble_eq_true rfl, Nat.le_of_ble_eq_true rfl⟩) (jpw_v hK hP (jD_to hD rfl) (ci := 7) (q0 := 0) rfl rfl) rfl rfl hl.1 rfl (lv_room (Nat.le_of_ble_eq_true rfl)) dX7_period_5 ⟨Nat.zero_le _, Nat.zero_le _⟩) hP (jD_to hD rfl) hS hA [0, 1, 2, 3, 4, 5, 6, 7, 8, 9, 10, 11, 12, 13, 14, 15] [] [0, 1, 2, 3, 4, 5, 6, 7, 8, 9, 10, 11, 12, 13, 14, 15] rfl (by decide) rfl (fun H locs hP hS => ?_)
  refine lv_if_eq (tgt := 26) hx hb dX7_period_8 (by decide) (fun c_1 => ?_) (fun c_1 => ?_)
  · replace hR := Eq.trans (Eq.symm (if_pos c_1)) hR
    refine lv_iconst (v := 0) hx hb dX7_period_26 (by decide) ?_
    obtain rfl := (Option.some.inj hR)
    exact fin _ _ _ _ _ rfl hP hS dX7_period_27
  · replace hR := Eq.trans (Eq.symm (if_neg c_1)) hR
    refine lv_aload_n hx hb dX7_period_11 rfl (lv_at hl 0 rfl) ?_
    refine lv_iload_n hx hb dX7_period_12 rfl (lv_at hl 1 rfl) ?_
    refine lv_iload_n hx hb dX7_period_13 rfl (lv_at hl 2 rfl) ?_
    refine lv_iload_n hx hb dX7_period_14 rfl (lv_at hl 3 rfl) ?_
    refine lv_iload hx hb dX7_period_15 (lv_at hl 4 rfl) ?_
    refine jcall_ri (va_runS (As := [.int x1, .int x2, .int x3, .int x4]) (rest := [.ref a_this]) ⟨hx, hb, hml, hown, hts⟩ (jc_Mo_stateOf l g  x1 x2 x3 x4 _ rfl) (va_cwS 4 hts gX7_period_X7_stateOf rfl rfl rfl (by decide +kernel) ⟨Nat.le_of_ble_eq_true rfl, Nat.le_of_ble_eq_true rfl⟩) (jpr_s hK (hP.sub (ws' := []) [] rfl)) rfl rfl hl.1 rfl (lv_room (Nat.le_of_ble_eq_true rfl)) dX7_period_17 ⟨Nat.zero_le _, Nat.zero_le _⟩) ?_
    obtain ⟨q_2, hq_2, hR⟩ := jbind hR
    try dsimp only at hR
    refine jcall_wi (ws' := jw_Mo g a_this a_this_isBlock a_this_isSeen a_this_lampX a_this_lampY a_this_right a_this_up a_this_keptRight a_this_keptUp a_this_name a_this_part a_this_codes a_this_above a_this_below a_this_length a_this_isMet q_1.2 q_2.2 v_lamps v_squares v_intervals v_isBlock v_isSeen v_lampX v_lampY v_right v_up v_keptRight v_keptUp v_name v_part v_codes v_above v_below v_length v_isMet) (va_runV (As := [.int (jf_Mo_stateOf x1 x2 x3 x4)]) (rest := []) ⟨hx, hb, hml, hown, hts⟩ (jc_Mo_periodOf l g a_this a_this_isBlock a_this_isSeen a_this_lampX a_this_lampY a_this_right a_this_up a_this_keptRight a_this_keptUp a_this_name a_this_part a_this_codes a_this_above a_this_below a_this_length a_this_isMet q_1.2 v_isBounce v_lamps v_squares v_intervals v_isBlock v_isSeen v_lampX v_lampY v_right v_up v_keptRight v_keptUp v_name v_part v_codes v_above v_below v_length v_isMet (jf_Mo_stateOf x1 x2 x3 x4) _ hq_2 _) (cwV 1 hts gX7_period_X7_periodOf rfl rfl rfl (by decide +kernel) ⟨Nat.le_of_ble_eq_true rfl, Nat.le_of_ble_eq_true rfl⟩) (jpw_v hK hP (jD_to hD rfl) (ci := 7) (q0 := 0) rfl rfl) rfl rfl hl.1 rfl (lv_room (Nat.le_of_ble_eq_true rfl)) dX7_period_20 ⟨Nat.zero_le _, Nat.zero_le _⟩) hP (jD_to hD rfl) hS hA [0, 1, 2, 3, 4, 5, 6, 7, 8, 9, 10, 11, 12, 13, 14, 15] [] [0, 1, 2, 3, 4, 5, 6, 7, 8, 9, 10, 11, 12, 13, 14, 15] rfl (by decide) rfl (fun H locs hP hS => ?_)
    refine lv_goto (tgt := 27) hx hb dX7_period_23 (by decide) ?_
    obtain rfl := (Option.some.inj hR)
    exact fin _ _ _ _ _ rfl hP hS dX7_period_27
def jf_Mo_periodAnew (v_thrown : Int32) (v_isBounce : Int32) (v_isBlock : Nat → Int32) (x1 : Int32) (x2 : Int32) (x3 : Int32) (x4 : Int32) : Option (Int32 × Int32 × Int32) :=
  Option.bind (jf_Mo_period v_thrown v_isBounce v_isBlock x1 x2 x3 x4) (fun q_1 => some (q_1.1, q_1.2.1, q_1.2.2))
abbrev jr_Mo_periodAnew : Room := { frames := 6, cells := 0, slots := 0, locals := 143 }
set_option maxRecDepth 100000 in
set_option maxHeartbeats 4000000 in
theorem jc_Mo_periodAnew (l : Launch) (g : jG) (a_this a_this_isBlock a_this_isSeen a_this_lampX a_this_lampY a_this_right a_this_up a_this_keptRight a_this_keptUp a_this_name a_this_part a_this_codes a_this_above a_this_below a_this_length a_this_isMet : Nat) (v_thrown : Int32) (v_isBounce : Int32) (v_lamps : Int32) (v_squares : Int32) (v_intervals : Int32) (v_isBlock : Nat → Int32) (v_isSeen : Nat → Int32) (v_lampX : Nat → Int32) (v_lampY : Nat → Int32) (v_right : Nat → Int32) (v_up : Nat → Int32) (v_keptRight : Nat → Int32) (v_keptUp : Nat → Int32) (v_name : Nat → Int32) (v_part : Nat → Int32) (v_codes : Nat → Int32) (v_above : Nat → Int32) (v_below : Nat → Int32) (v_length : Nat → Int32) (v_isMet : Nat → Int32) (x1 : Int32) (x2 : Int32) (x3 : Int32) (x4 : Int32) (R : Int32 × Int32 × Int32) (hR : jf_Mo_periodAnew v_thrown v_isBounce v_isBlock x1 x2 x3 x4 = some R) (sz : Nat) : Met l yX7_periodAnew wsX7_periodAnew jr_Mo_periodAnew (jPw g [.ref a_this, .int x1, .int x2, .int x3, .int x4] (jw_Mo g a_this a_this_isBlock a_this_isSeen a_this_lampX a_this_lampY a_this_right a_this_up a_this_keptRight a_this_keptUp a_this_name a_this_part a_this_codes a_this_above a_this_below a_this_length a_this_isMet v_thrown v_isBounce v_lamps v_squares v_intervals v_isBlock v_isSeen v_lampX v_lampY v_right v_up v_keptRight v_keptUp v_name v_part v_codes v_above v_below v_length v_isMet) sz) (jQi g R.1 (jw_Mo g a_this a_this_isBlock a_this_isSeen a_this_lampX a_this_lampY a_this_right a_this_up a_this_keptRight a_this_keptUp a_this_name a_this_part a_this_codes a_this_above a_this_below a_this_length a_this_isMet R.2.1 R.2.2 v_lamps v_squares v_intervals v_isBlock v_isSeen v_lampX v_lampY v_right v_up v_keptRight v_keptUp v_name v_part v_codes v_above v_below v_length v_isMet) (va_A (jw_Mo g a_this a_this_isBlock a_this_isSeen a_this_lampX a_this_lampY a_this_right a_this_up a_this_keptRight a_this_keptUp a_this_name a_this_part a_this_codes a_this_above a_this_below a_this_length a_this_isMet v_thrown v_isBounce v_lamps v_squares v_intervals v_isBlock v_isSeen v_lampX v_lampY v_right v_up v_keptRight v_keptUp v_name v_part v_codes v_above v_below v_length v_isMet) sz)) 0 0 (va_A (jw_Mo g a_this a_this_isBlock a_this_isSeen a_this_lampX a_this_lampY a_this_right a_this_up a_this_keptRight a_this_keptUp a_this_name a_this_part a_this_codes a_this_above a_this_below a_this_length a_this_isMet v_thrown v_isBounce v_lamps v_squares v_intervals v_isBlock v_isSeen v_lampX v_lampY v_right v_up v_keptRight v_keptUp v_name v_part v_codes v_above v_below v_length v_isMet) sz) := by
  refine jm_wi (cc := cX7_periodAnew) (maxL := 5) (by decide +kernel) rfl (Nat.le_of_ble_eq_true rfl) ?_
  intro p e s m below meth c A Q hx hb hml hown hts hK hP hD hA hS fin ls hl
  have hl : lv_has ls 5 [(0, .ref a_this), (1, .int x1), (2, .int x2), (3, .int x3), (4, .int x4)] := hl
  have hown : s.vm.findClass RX7 = some m.cls := hown
  rw [jf_Mo_periodAnew] at hR
  refine lv_aload_n hx hb dX7_periodAnew_0 rfl (lv_at hl 0 rfl) ?_
  refine lv_iload_n hx hb dX7_periodAnew_1 rfl (lv_at hl 1 rfl) ?_
  refine lv_iload_n hx hb dX7_periodAnew_2 rfl (lv_at hl 2 rfl) ?_
  refine lv_iload_n hx hb dX7_periodAnew_3 rfl (lv_at hl 3 rfl) ?_
  refine lv_iload hx hb dX7_periodAnew_4 (lv_at hl 4 rfl) ?_
  obtain ⟨q_1, hq_1, hR⟩ := jbind hR
  try dsimp only at hR
  refine jcall_wi (ws' := jw_Mo g a_this a_this_isBlock a_this_isSeen a_this_lampX a_this_lampY a_this_right a_this_up a_this_keptRight a_this_keptUp a_this_name a_this_part a_this_codes a_this_above a_this_below a_this_length a_this_isMet q_1.2.1 q_1.2.2 v_lamps v_squares v_intervals v_isBlock v_isSeen v_lampX v_lampY v_right v_up v_keptRight v_keptUp v_name v_part v_codes v_above v_below v_length v_isMet) (va_runV (As := [.int x1, .int x2, .int x3, .int x4]) (rest := []) ⟨hx, hb, hml, hown, hts⟩ (jc_Mo_period l g a_this a_this_isBlock a_this_isSeen a_this_lampX a_this_lampY a_this_right a_this_up a_this_keptRight a_this_keptUp a_this_name a_this_part a_this_codes a_this_above a_this_below a_this_length a_this_isMet v_thrown v_isBounce v_lamps v_squares v_intervals v_isBlock v_isSeen v_lampX v_lampY v_right v_up v_keptRight v_keptUp v_name v_part v_codes v_above v_below v_length v_isMet x1 x2 x3 x4 _ hq_1 _) (cwV 4 hts gX7_periodAnew_X7_period rfl rfl rfl (by decide +kernel) ⟨Nat.le_of_ble_eq_true rfl, Nat.le_of_ble_eq_true rfl⟩) (jpw_v hK hP (jD_to hD rfl) (ci := 7) (q0 := 0) rfl rfl) rfl rfl hl.1 rfl (lv_room (Nat.le_of_ble_eq_true rfl)) dX7_periodAnew_6 ⟨Nat.zero_le _, Nat.zero_le _⟩) hP (jD_to hD rfl) hS hA [0, 1, 2, 3, 4, 5, 6, 7, 8, 9, 10, 11, 12, 13, 14, 15] [] [0, 1, 2, 3, 4, 5, 6, 7, 8, 9, 10, 11, 12, 13, 14, 15] rfl (by decide) rfl (fun H locs hP hS => ?_)
  obtain rfl := (Option.some.inj hR)
  exact fin _ _ _ _ _ rfl hP hS dX7_periodAnew_9
def jf_Mo_bouncesOf_b43 (self : Int32 → Int32 → Int32 → Int32 → Option (Int32 × Int32)) (v_isBounce : Int32) (v_isBlock : Nat → Int32) (z1 : Int32) (z2 : Int32) (z3 : Int32) (s0 : Int32) : Option (Int32 × Int32) :=
  self z2 z3 s0 v_isBounce
def jf_Mo_bouncesOf_b31 (self : Int32 → Int32 → Int32 → Int32 → Option (Int32 × Int32)) (v_isBounce : Int32) (v_isBlock : Nat → Int32) (z1 : Int32) (z3 : Int32) (s0 : Int32) (s1 : Int32) : Option (Int32 × Int32) :=
  jlet (s0 + s1) (fun y2_1 => if z3 = z1 then (jf_Mo_bouncesOf_b43 self v_isBounce v_isBlock z1 y2_1 z3 0) else (jf_Mo_bouncesOf_b43 self v_isBounce v_isBlock z1 y2_1 z3 1))
def jf_Mo_bouncesOf_L7 (v_isBlock : Nat → Int32) (z1 : Int32) : Nat → Int32 → Int32 → Int32 → Int32 → Option (Int32 × Int32)
  | 0, _, _, _, _ => none
  | n + 1, z2, z3, z4, v_isBounce =>
    if z4 = 0 then (some (z2, v_isBounce)) else (Option.bind (jf_Mo_step v_isBounce v_isBlock z3) (fun q_1 => if q_1.2 = 0 then (jf_Mo_bouncesOf_b31 (jf_Mo_bouncesOf_L7 v_isBlock z1 n) q_1.2 v_isBlock z1 q_1.1 z2 0) else (jf_Mo_bouncesOf_b31 (jf_Mo_bouncesOf_L7 v_isBlock z1 n) q_1.2 v_isBlock z1 q_1.1 z2 1)))
def jf_Mo_bouncesOf (v_isBounce : Int32) (v_isBlock : Nat → Int32) (x1 : Int32) : Option (Int32 × Int32) :=
  Option.bind (jf_Mo_bouncesOf_L7 v_isBlock x1 jF 0 x1 1 v_isBounce) (fun q_2 => some (q_2.1, q_2.2))
abbrev jr_Mo_bouncesOf : Room := { frames := 4, cells := 0, slots := 0, locals := 96 }
set_option maxRecDepth 100000 in
set_option maxHeartbeats 4000000 in
theorem jc_Mo_bouncesOf (l : Launch) (g : jG) (a_this a_this_isBlock a_this_isSeen a_this_lampX a_this_lampY a_this_right a_this_up a_this_keptRight a_this_keptUp a_this_name a_this_part a_this_codes a_this_above a_this_below a_this_length a_this_isMet : Nat) (v_thrown : Int32) (v_isBounce : Int32) (v_lamps : Int32) (v_squares : Int32) (v_intervals : Int32) (v_isBlock : Nat → Int32) (v_isSeen : Nat → Int32) (v_lampX : Nat → Int32) (v_lampY : Nat → Int32) (v_right : Nat → Int32) (v_up : Nat → Int32) (v_keptRight : Nat → Int32) (v_keptUp : Nat → Int32) (v_name : Nat → Int32) (v_part : Nat → Int32) (v_codes : Nat → Int32) (v_above : Nat → Int32) (v_below : Nat → Int32) (v_length : Nat → Int32) (v_isMet : Nat → Int32) (x1 : Int32) (R : Int32 × Int32) (hR : jf_Mo_bouncesOf v_isBounce v_isBlock x1 = some R) (sz : Nat) : Met l yX7_bouncesOf wsX7_bouncesOf jr_Mo_bouncesOf (jPw g [.ref a_this, .int x1] (jw_Mo g a_this a_this_isBlock a_this_isSeen a_this_lampX a_this_lampY a_this_right a_this_up a_this_keptRight a_this_keptUp a_this_name a_this_part a_this_codes a_this_above a_this_below a_this_length a_this_isMet v_thrown v_isBounce v_lamps v_squares v_intervals v_isBlock v_isSeen v_lampX v_lampY v_right v_up v_keptRight v_keptUp v_name v_part v_codes v_above v_below v_length v_isMet) sz) (jQi g R.1 (jw_Mo g a_this a_this_isBlock a_this_isSeen a_this_lampX a_this_lampY a_this_right a_this_up a_this_keptRight a_this_keptUp a_this_name a_this_part a_this_codes a_this_above a_this_below a_this_length a_this_isMet v_thrown R.2 v_lamps v_squares v_intervals v_isBlock v_isSeen v_lampX v_lampY v_right v_up v_keptRight v_keptUp v_name v_part v_codes v_above v_below v_length v_isMet) (va_A (jw_Mo g a_this a_this_isBlock a_this_isSeen a_this_lampX a_this_lampY a_this_right a_this_up a_this_keptRight a_this_keptUp a_this_name a_this_part a_this_codes a_this_above a_this_below a_this_length a_this_isMet v_thrown v_isBounce v_lamps v_squares v_intervals v_isBlock v_isSeen v_lampX v_lampY v_right v_up v_keptRight v_keptUp v_name v_part v_codes v_above v_below v_length v_isMet) sz)) 0 0 (va_A (jw_Mo g a_this a_this_isBlock a_this_isSeen a_this_lampX a_this_lampY a_this_right a_this_up a_this_keptRight a_this_keptUp a_this_name a_this_part a_this_codes a_this_above a_this_below a_this_length a_this_isMet v_thrown v_isBounce v_lamps v_squares v_intervals v_isBlock v_isSeen v_lampX v_lampY v_right v_up v_keptRight v_keptUp v_name v_part v_codes v_above v_below v_length v_isMet) sz) := by
  refine jm_wi (cc := cX7_bouncesOf) (maxL := 5) (by decide +kernel) rfl (Nat.le_of_ble_eq_true rfl) ?_
  intro p e s m below meth c A Q hx hb hml hown hts hK hP hD hA hS fin ls hl
  have hl : lv_has ls 5 [(0, .ref a_this), (1, .int x1)] := hl
  have hown : s.vm.findClass RX7 = some m.cls := hown
  have w_X7 : ∀ w ∈ u_ws RX7 TX7 20, w ∈ wsX7_bouncesOf := by decide +kernel
  have w_f74 := hts (.fieldLink RX7 74 "BilliardryModel" "isBounce" "Z") (by decide +kernel)
  have L7 : ∀ (n : Nat) (z1 : Int32) (z2 : Int32) (z3 : Int32) (z4 : Int32) (v_isBounce : Int32) (H : Heap) (locs : List Loc), va_P g.1 vwCl (jw_Mo g a_this a_this_isBlock a_this_isSeen a_this_lampX a_this_lampY a_this_right a_this_up a_this_keptRight a_this_keptUp a_this_name a_this_part a_this_codes a_this_above a_this_below a_this_length a_this_isMet v_thrown v_isBounce v_lamps v_squares v_intervals v_isBlock v_isSeen v_lampX v_lampY v_right v_up v_keptRight v_keptUp v_name v_part v_codes v_above v_below v_length v_isMet) H → va_S A s.heap H locs → ∀ (ls : Array Slot), lv_has ls 5 [(0, .ref a_this), (1, .int z1), (2, .int z2), (3, .int z3), (4, .int z4)] → ∀ q, jf_Mo_bouncesOf_L7 v_isBlock z1 n z2 z3 z4 v_isBounce = some q → (∀ (H : Heap) (locs : List Loc), va_P g.1 vwCl (jw_Mo g a_this a_this_isBlock a_this_isSeen a_this_lampX a_this_lampY a_this_right a_this_up a_this_keptRight a_this_keptUp a_this_name a_this_part a_this_codes a_this_above a_this_below a_this_length a_this_isMet v_thrown q.2 v_lamps v_squares v_intervals v_isBlock v_isSeen v_lampX v_lampY v_right v_up v_keptRight v_keptUp v_name v_part v_codes v_above v_below v_length v_isMet) H → va_S A s.heap H locs → ∀ ls : Array Slot, lv_has ls 5 [(2, .int q.1)] → W p l e jr_Mo_bouncesOf s m ([.ref a_this, .int x1] : List Value).toArray below meth c H locs 0 0 Q (F0 m 48 ls [])) → W p l e jr_Mo_bouncesOf s m ([.ref a_this, .int x1] : List Value).toArray below meth c H locs 0 0 Q (F0 m 7 ls []) := by
    intro n z1
    induction n with
    | zero =>
      intro z2 z3 z4 v_isBounce H locs hP hS ls hl q hR k
      cases hR
    | succ n ih =>
      have J43 : ∀ (v_isBounce : Int32) (z2 : Int32) (z3 : Int32) (s0 : Int32) (H : Heap) (locs : List Loc), va_P g.1 vwCl (jw_Mo g a_this a_this_isBlock a_this_isSeen a_this_lampX a_this_lampY a_this_right a_this_up a_this_keptRight a_this_keptUp a_this_name a_this_part a_this_codes a_this_above a_this_below a_this_length a_this_isMet v_thrown v_isBounce v_lamps v_squares v_intervals v_isBlock v_isSeen v_lampX v_lampY v_right v_up v_keptRight v_keptUp v_name v_part v_codes v_above v_below v_length v_isMet) H → va_S A s.heap H locs → ∀ (ls : Array Slot), lv_has ls 5 [(0, .ref a_this), (1, .int z1), (2, .int z2), (3, .int z3)] → ∀ q, jf_Mo_bouncesOf_b43 (jf_Mo_bouncesOf_L7 v_isBlock z1 n) v_isBounce v_isBlock z1 z2 z3 s0 = some q → (∀ (H : Heap) (locs : List Loc), va_P g.1 vwCl (jw_Mo g a_this a_this_isBlock a_this_isSeen a_this_lampX a_this_lampY a_this_right a_this_up a_this_keptRight a_this_keptUp a_this_name a_this_part a_this_codes a_this_above a_this_below a_this_length a_this_isMet v_thrown q.2 v_lamps v_squares v_intervals v_isBlock v_isSeen v_lampX v_lampY v_right v_up v_keptRight v_keptUp v_name v_part v_codes v_above v_below v_length v_isMet) H → va_S A s.heap H locs → ∀ ls : Array Slot, lv_has ls 5 [(2, .int q.1)] → W p l e jr_Mo_bouncesOf s m ([.ref a_this, .int x1] : List Value).toArray below meth c H locs 0 0 Q (F0 m 48 ls [])) → W p l e jr_Mo_bouncesOf s m ([.ref a_this, .int x1] : List Value).toArray below meth c H locs 0 0 Q (F0 m 43 ls [.int s0]) := by
        intro v_isBounce z2 z3 s0 H locs hP hS ls hl q hR k
        rw [jf_Mo_bouncesOf_b43] at hR
        refine lv_istore (lv' := [(4, .int s0), (0, .ref a_this), (1, .int z1), (2, .int z2), (3, .int z3)]) hx hb dX7_bouncesOf_43 hl (by decide) rfl (fun ls hl => ?_)
        refine lv_goto (tgt := 7) hx hb dX7_bouncesOf_45 (by decide) ?_
        exact ih z2 z3 s0 v_isBounce _ _ hP hS _ (lv_sub hl [1, 2, 3, 4, 0] rfl) _ hR k
      have J31 : ∀ (v_isBounce : Int32) (z3 : Int32) (s0 : Int32) (s1 : Int32) (H : Heap) (locs : List Loc), va_P g.1 vwCl (jw_Mo g a_this a_this_isBlock a_this_isSeen a_this_lampX a_this_lampY a_this_right a_this_up a_this_keptRight a_this_keptUp a_this_name a_this_part a_this_codes a_this_above a_this_below a_this_length a_this_isMet v_thrown v_isBounce v_lamps v_squares v_intervals v_isBlock v_isSeen v_lampX v_lampY v_right v_up v_keptRight v_keptUp v_name v_part v_codes v_above v_below v_length v_isMet) H → va_S A s.heap H locs → ∀ (ls : Array Slot), lv_has ls 5 [(0, .ref a_this), (1, .int z1), (3, .int z3)] → ∀ q, jf_Mo_bouncesOf_b31 (jf_Mo_bouncesOf_L7 v_isBlock z1 n) v_isBounce v_isBlock z1 z3 s0 s1 = some q → (∀ (H : Heap) (locs : List Loc), va_P g.1 vwCl (jw_Mo g a_this a_this_isBlock a_this_isSeen a_this_lampX a_this_lampY a_this_right a_this_up a_this_keptRight a_this_keptUp a_this_name a_this_part a_this_codes a_this_above a_this_below a_this_length a_this_isMet v_thrown q.2 v_lamps v_squares v_intervals v_isBlock v_isSeen v_lampX v_lampY v_right v_up v_keptRight v_keptUp v_name v_part v_codes v_above v_below v_length v_isMet) H → va_S A s.heap H locs → ∀ ls : Array Slot, lv_has ls 5 [(2, .int q.1)] → W p l e jr_Mo_bouncesOf s m ([.ref a_this, .int x1] : List Value).toArray below meth c H locs 0 0 Q (F0 m 48 ls [])) → W p l e jr_Mo_bouncesOf s m ([.ref a_this, .int x1] : List Value).toArray below meth c H locs 0 0 Q (F0 m 31 ls [.int s1, .int s0]) := by
        intro v_isBounce z3 s0 s1 H locs hP hS ls hl q hR k
        rw [jf_Mo_bouncesOf_b31] at hR
        refine lv_iadd hx hb dX7_bouncesOf_31 ?_
        refine jlet_i hR (fun y2_1 hR => ?_)
        try dsimp only at hR
        refine lv_istore_n (lv' := [(2, .int y2_1), (0, .ref a_this), (1, .int z1), (3, .int z3)]) hx hb dX7_bouncesOf_32 rfl hl (by decide) rfl (fun ls hl => ?_)
        refine lv_iload_n hx hb dX7_bouncesOf_33 rfl (lv_at hl 3 rfl) ?_
        refine lv_iload_n hx hb dX7_bouncesOf_34 rfl (lv_at hl 2 rfl) ?_
        refine lv_icmp_eq (tgt := 42) hx hb dX7_bouncesOf_35 (by decide) (fun c_3 => ?_) (fun c_3 => ?_)
        · replace hR := Eq.trans (Eq.symm (if_pos c_3)) hR
          refine lv_iconst (v := 0) hx hb dX7_bouncesOf_42 (by decide) ?_
          exact J43 v_isBounce y2_1 z3 0 _ _ hP hS _ (lv_sub hl [1, 2, 0, 3] rfl) _ hR k
        · replace hR := Eq.trans (Eq.symm (if_neg c_3)) hR
          refine lv_iconst (v := 1) hx hb dX7_bouncesOf_38 (by decide) ?_
          refine lv_goto (tgt := 43) hx hb dX7_bouncesOf_39 (by decide) ?_
          exact J43 v_isBounce y2_1 z3 1 _ _ hP hS _ (lv_sub hl [1, 2, 0, 3] rfl) _ hR k
      intro z2 z3 z4 v_isBounce H locs hP hS ls hl q hR k
      rw [jf_Mo_bouncesOf_L7] at hR
      refine lv_iload hx hb dX7_bouncesOf_7 (lv_at hl 4 rfl) ?_
      refine lv_if_eq (tgt := 48) hx hb dX7_bouncesOf_9 (by decide) (fun c_1 => ?_) (fun c_1 => ?_)
      · replace hR := Eq.trans (Eq.symm (if_pos c_1)) hR
        cases hR
        exact k _ _ hP hS _ (lv_sub hl [2] rfl)
      · replace hR := Eq.trans (Eq.symm (if_neg c_1)) hR
        refine lv_aload_n hx hb dX7_bouncesOf_12 rfl (lv_at hl 0 rfl) ?_
        refine lv_iload_n hx hb dX7_bouncesOf_13 rfl (lv_at hl 3 rfl) ?_
        obtain ⟨q_1, hq_1, hR⟩ := jbind hR
        try dsimp only at hR
        refine jcall_wi (ws' := jw_Mo g a_this a_this_isBlock a_this_isSeen a_this_lampX a_this_lampY a_this_right a_this_up a_this_keptRight a_this_keptUp a_this_name a_this_part a_this_codes a_this_above a_this_below a_this_length a_this_isMet v_thrown q_1.2 v_lamps v_squares v_intervals v_isBlock v_isSeen v_lampX v_lampY v_right v_up v_keptRight v_keptUp v_name v_part v_codes v_above v_below v_length v_isMet) (va_runV (As := [.int z3]) (rest := []) ⟨hx, hb, hml, hown, hts⟩ (jc_Mo_step l g a_this a_this_isBlock a_this_isSeen a_this_lampX a_this_lampY a_this_right a_this_up a_this_keptRight a_this_keptUp a_this_name a_this_part a_this_codes a_this_above a_this_below a_this_length a_this_isMet v_thrown v_isBounce v_lamps v_squares v_intervals v_isBlock v_isSeen v_lampX v_lampY v_right v_up v_keptRight v_keptUp v_name v_part v_codes v_above v_below v_length v_isMet z3 _ hq_1 _) (cwV 1 hts gX7_bouncesOf_X7_step rfl rfl rfl (by decide +kernel) ⟨Nat.le_of_ble_eq_true rfl, Nat.le_of_ble_eq_true rfl⟩) (jpw_v hK hP (jD_to hD rfl) (ci := 7) (q0 := 0) rfl rfl) rfl rfl hl.1 rfl (lv_room (Nat.le_of_ble_eq_true rfl)) dX7_bouncesOf_14 ⟨Nat.zero_le _, Nat.zero_le _⟩) hP (jD_to hD rfl) hS hA [0, 1, 2, 3, 4, 5, 6, 7, 8, 9, 10, 11, 12, 13, 14, 15] [] [0, 1, 2, 3, 4, 5, 6, 7, 8, 9, 10, 11, 12, 13, 14, 15] rfl (by decide) rfl (fun H locs hP hS => ?_)
        refine lv_istore_n (lv' := [(3, .int q_1.1), (0, .ref a_this), (1, .int z1), (2, .int z2), (4, .int z4)]) hx hb dX7_bouncesOf_17 rfl hl (by decide) rfl (fun ls hl => ?_)
        refine lv_iload_n hx hb dX7_bouncesOf_18 rfl (lv_at hl 3 rfl) ?_
        refine lv_aload_n hx hb dX7_bouncesOf_19 rfl (lv_at hl 1 rfl) ?_
        refine va_get (D := g.1) (ci := 7) (v := .int q_1.2) (C := RX7) (T := TX7) (N := 20) hx hb hts w_X7 hown hK.1 hP 0 rfl rfl 2 (by decide) w_f74 (fun _ h9 => h9) rfl dX7_bouncesOf_20 ?_
        refine lv_if_eq (tgt := 30) hx hb dX7_bouncesOf_23 (by decide) (fun c_2 => ?_) (fun c_2 => ?_)
        · replace hR := Eq.trans (Eq.symm (if_pos c_2)) hR
          refine lv_iconst (v := 0) hx hb dX7_bouncesOf_30 (by decide) ?_
          exact J31 q_1.2 q_1.1 z2 0 _ _ hP hS _ (lv_sub hl [1, 2, 0] rfl) _ hR k
        · replace hR := Eq.trans (Eq.symm (if_neg c_2)) hR
          refine lv_iconst (v := 1) hx hb dX7_bouncesOf_26 (by decide) ?_
          refine lv_goto (tgt := 31) hx hb dX7_bouncesOf_27 (by decide) ?_
          exact J31 q_1.2 q_1.1 z2 1 _ _ hP hS _ (lv_sub hl [1, 2, 0] rfl) _ hR k
  rw [jf_Mo_bouncesOf] at hR
  refine lv_iconst (v := 0) hx hb dX7_bouncesOf_0 (by decide) ?_
  refine lv_istore_n (lv' := [(2, .int 0), (0, .ref a_this), (1, .int x1)]) hx hb dX7_bouncesOf_1 rfl hl (by decide) rfl (fun ls hl => ?_)
  refine lv_iload_n hx hb dX7_bouncesOf_2 rfl (lv_at hl 2 rfl) ?_
  refine lv_istore_n (lv' := [(3, .int x1), (2, .int 0), (0, .ref a_this), (1, .int x1)]) hx hb dX7_bouncesOf_3 rfl hl (by decide) rfl (fun ls hl => ?_)
  refine lv_iconst (v := 1) hx hb dX7_bouncesOf_4 (by decide) ?_
  refine lv_istore (lv' := [(4, .int 1), (3, .int x1), (2, .int 0), (0, .ref a_this), (1, .int x1)]) hx hb dX7_bouncesOf_5 hl (by decide) rfl (fun ls hl => ?_)
  obtain ⟨q_2, hq_2, hR⟩ := jbind hR
  try dsimp only at hR
  refine L7 jF x1 0 x1 1 v_isBounce _ _ hP hS _ (lv_sub hl [3, 4, 2, 1, 0] rfl) _ hq_2 (fun H locs hP hS ls hl => ?_)
  refine lv_iload_n hx hb dX7_bouncesOf_48 rfl (lv_at hl 0 rfl) ?_
  obtain rfl := (Option.some.inj hR)
  exact fin _ _ _ _ _ rfl hP hS dX7_bouncesOf_49
def jf_Mo_bounces (v_thrown : Int32) (v_isBounce : Int32) (v_isBlock : Nat → Int32) (x1 : Int32) (x2 : Int32) (x3 : Int32) (x4 : Int32) : Option (Int32 × Int32 × Int32) :=
  Option.bind (jf_Mo_asksShot v_thrown v_isBlock x1 x2 x3 1) (fun q_1 => if q_1.1 = 0 then (some (0, q_1.2, v_isBounce)) else (Option.bind (jf_Mo_bouncesOf v_isBounce v_isBlock (jf_Mo_stateOf x1 x2 x3 x4)) (fun q_2 => some (q_2.1, q_1.2, q_2.2))))
abbrev jr_Mo_bounces : Room := { frames := 5, cells := 0, slots := 0, locals := 120 }
set_option maxRecDepth 100000 in
set_option maxHeartbeats 4000000 in
theorem jc_Mo_bounces (l : Launch) (g : jG) (a_this a_this_isBlock a_this_isSeen a_this_lampX a_this_lampY a_this_right a_this_up a_this_keptRight a_this_keptUp a_this_name a_this_part a_this_codes a_this_above a_this_below a_this_length a_this_isMet : Nat) (v_thrown : Int32) (v_isBounce : Int32) (v_lamps : Int32) (v_squares : Int32) (v_intervals : Int32) (v_isBlock : Nat → Int32) (v_isSeen : Nat → Int32) (v_lampX : Nat → Int32) (v_lampY : Nat → Int32) (v_right : Nat → Int32) (v_up : Nat → Int32) (v_keptRight : Nat → Int32) (v_keptUp : Nat → Int32) (v_name : Nat → Int32) (v_part : Nat → Int32) (v_codes : Nat → Int32) (v_above : Nat → Int32) (v_below : Nat → Int32) (v_length : Nat → Int32) (v_isMet : Nat → Int32) (x1 : Int32) (x2 : Int32) (x3 : Int32) (x4 : Int32) (R : Int32 × Int32 × Int32) (hR : jf_Mo_bounces v_thrown v_isBounce v_isBlock x1 x2 x3 x4 = some R) (sz : Nat) : Met l yX7_bounces wsX7_bounces jr_Mo_bounces (jPw g [.ref a_this, .int x1, .int x2, .int x3, .int x4] (jw_Mo g a_this a_this_isBlock a_this_isSeen a_this_lampX a_this_lampY a_this_right a_this_up a_this_keptRight a_this_keptUp a_this_name a_this_part a_this_codes a_this_above a_this_below a_this_length a_this_isMet v_thrown v_isBounce v_lamps v_squares v_intervals v_isBlock v_isSeen v_lampX v_lampY v_right v_up v_keptRight v_keptUp v_name v_part v_codes v_above v_below v_length v_isMet) sz) (jQi g R.1 (jw_Mo g a_this a_this_isBlock a_this_isSeen a_this_lampX a_this_lampY a_this_right a_this_up a_this_keptRight a_this_keptUp a_this_name a_this_part a_this_codes a_this_above a_this_below a_this_length a_this_isMet R.2.1 R.2.2 v_lamps v_squares v_intervals v_isBlock v_isSeen v_lampX v_lampY v_right v_up v_keptRight v_keptUp v_name v_part v_codes v_above v_below v_length v_isMet) (va_A (jw_Mo g a_this a_this_isBlock a_this_isSeen a_this_lampX a_this_lampY a_this_right a_this_up a_this_keptRight a_this_keptUp a_this_name a_this_part a_this_codes a_this_above a_this_below a_this_length a_this_isMet v_thrown v_isBounce v_lamps v_squares v_intervals v_isBlock v_isSeen v_lampX v_lampY v_right v_up v_keptRight v_keptUp v_name v_part v_codes v_above v_below v_length v_isMet) sz)) 0 0 (va_A (jw_Mo g a_this a_this_isBlock a_this_isSeen a_this_lampX a_this_lampY a_this_right a_this_up a_this_keptRight a_this_keptUp a_this_name a_this_part a_this_codes a_this_above a_this_below a_this_length a_this_isMet v_thrown v_isBounce v_lamps v_squares v_intervals v_isBlock v_isSeen v_lampX v_lampY v_right v_up v_keptRight v_keptUp v_name v_part v_codes v_above v_below v_length v_isMet) sz) := by
  refine jm_wi (cc := cX7_bounces) (maxL := 5) (by decide +kernel) rfl (Nat.le_of_ble_eq_true rfl) ?_
  intro p e s m below meth c A Q hx hb hml hown hts hK hP hD hA hS fin ls hl
  have hl : lv_has ls 5 [(0, .ref a_this), (1, .int x1), (2, .int x2), (3, .int x3), (4, .int x4)] := hl
  have hown : s.vm.findClass RX7 = some m.cls := hown
  rw [jf_Mo_bounces] at hR
  refine lv_aload_n hx hb dX7_bounces_0 rfl (lv_at hl 0 rfl) ?_
  refine lv_iload_n hx hb dX7_bounces_1 rfl (lv_at hl 1 rfl) ?_
  refine lv_iload_n hx hb dX7_bounces_2 rfl (lv_at hl 2 rfl) ?_
  refine lv_iload_n hx hb dX7_bounces_3 rfl (lv_at hl 3 rfl) ?_
  refine lv_iconst (v := 1) hx hb dX7_bounces_4 (by decide) ?_
  obtain ⟨q_1, hq_1, hR⟩ := jbind hR
  try dsimp only at hR
  refine jcall_wi (ws' := jw_Mo g a_this a_this_isBlock a_this_isSeen a_this_lampX a_this_lampY a_this_right a_this_up a_this_keptRight a_this_keptUp a_this_name a_this_part a_this_codes a_this_above a_this_below a_this_length a_this_isMet q_1.2 v_isBounce v_lamps v_squares v_intervals v_isBlock v_isSeen v_lampX v_lampY v_right v_up v_keptRight v_keptUp v_name v_part v_codes v_above v_below v_length v_isMet) (va_runV (As := [.int x1, .int x2, .int x3, .int 1]) (rest := []) ⟨hx, hb, hml, hown, hts⟩ (jc_Mo_asksShot l g a_this a_this_isBlock a_this_isSeen a_this_lampX a_this_lampY a_this_right a_this_up a_this_keptRight a_this_keptUp a_this_name a_this_part a_this_codes a_this_above a_this_below a_this_length a_this_isMet v_thrown v_isBounce v_lamps v_squares v_intervals v_isBlock v_isSeen v_lampX v_lampY v_right v_up v_keptRight v_keptUp v_name v_part v_codes v_above v_below v_length v_isMet x1 x2 x3 1 _ hq_1 _) (cwV 4 hts gX7_bounces_X7_asksShot rfl rfl rfl (by decide +kernel) ⟨Nat.le_of_ble_eq_true rfl, Nat.le_of_ble_eq_true rfl⟩) (jpw_v hK hP (jD_to hD rfl) (ci := 7) (q0 := 0) rfl rfl) rfl rfl hl.1 rfl (lv_room (Nat.le_of_ble_eq_true rfl)) dX7_bounces_5 ⟨Nat.zero_le _, Nat.zero_le _⟩) hP (jD_to hD rfl) hS hA [0, 1, 2, 3, 4, 5, 6, 7, 8, 9, 10, 11, 12, 13, 14, 15] [] [0, 1, 2, 3, 4, 5, 6, 7, 8, 9, 10, 11, 12, 13, 14, 15] rfl (by decide) rfl (fun H locs hP hS => ?_)
  refine lv_if_eq (tgt := 26) hx hb dX7_bounces_8 (by decide) (fun c_1 => ?_) (fun c_1 => ?_)
  · replace hR := Eq.trans (Eq.symm (if_pos c_1)) hR
    refine lv_iconst (v := 0) hx hb dX7_bounces_26 (by decide) ?_
    obtain rfl := (Option.some.inj hR)
    exact fin _ _ _ _ _ rfl hP hS dX7_bounces_27
  · replace hR := Eq.trans (Eq.symm (if_neg c_1)) hR
    refine lv_aload_n hx hb dX7_bounces_11 rfl (lv_at hl 0 rfl) ?_
    refine lv_iload_n hx hb dX7_bounces_12 rfl (lv_at hl 1 rfl) ?_
    refine lv_iload_n hx hb dX7_bounces_13 rfl (lv_at hl 2 rfl) ?_
    refine lv_iload_n hx hb dX7_bounces_14 rfl (lv_at hl 3 rfl) ?_
    refine lv_iload hx hb dX7_bounces_15 (lv_at hl 4 rfl) ?_
    refine jcall_ri (va_runS (As := [.int x1, .int x2, .int x3, .int x4]) (rest := [.ref a_this]) ⟨hx, hb, hml, hown, hts⟩ (jc_Mo_stateOf l g  x1 x2 x3 x4 _ rfl) (va_cwS 4 hts gX7_bounces_X7_stateOf rfl rfl rfl (by decide +kernel) ⟨Nat.le_of_ble_eq_true rfl, Nat.le_of_ble_eq_true rfl⟩) (jpr_s hK (hP.sub (ws' := []) [] rfl)) rfl rfl hl.1 rfl (lv_room (Nat.le_of_ble_eq_true rfl)) dX7_bounces_17 ⟨Nat.zero_le _, Nat.zero_le _⟩) ?_
    obtain ⟨q_2, hq_2, hR⟩ := jbind hR
    try dsimp only at hR
    refine jcall_wi (ws' := jw_Mo g a_this a_this_isBlock a_this_isSeen a_this_lampX a_this_lampY a_this_right a_this_up a_this_keptRight a_this_keptUp a_this_name a_this_part a_this_codes a_this_above a_this_below a_this_length a_this_isMet q_1.2 q_2.2 v_lamps v_squares v_intervals v_isBlock v_isSeen v_lampX v_lampY v_right v_up v_keptRight v_keptUp v_name v_part v_codes v_above v_below v_length v_isMet) (va_runV (As := [.int (jf_Mo_stateOf x1 x2 x3 x4)]) (rest := []) ⟨hx, hb, hml, hown, hts⟩ (jc_Mo_bouncesOf l g a_this a_this_isBlock a_this_isSeen a_this_lampX a_this_lampY a_this_right a_this_up a_this_keptRight a_this_keptUp a_this_name a_this_part a_this_codes a_this_above a_this_below a_this_length a_this_isMet q_1.2 v_isBounce v_lamps v_squares v_intervals v_isBlock v_isSeen v_lampX v_lampY v_right v_up v_keptRight v_keptUp v_name v_part v_codes v_above v_below v_length v_isMet (jf_Mo_stateOf x1 x2 x3 x4) _ hq_2 _) (cwV 1 hts gX7_bounces_X7_bouncesOf rfl rfl rfl (by decide +kernel) ⟨Nat.le_of_ble_eq_true rfl, Nat.le_of_ble_eq_true rfl⟩) (jpw_v hK hP (jD_to hD rfl) (ci := 7) (q0 := 0) rfl rfl) rfl rfl hl.1 rfl (lv_room (Nat.le_of_ble_eq_true rfl)) dX7_bounces_20 ⟨Nat.zero_le _, Nat.zero_le _⟩) hP (jD_to hD rfl) hS hA [0, 1, 2, 3, 4, 5, 6, 7, 8, 9, 10, 11, 12, 13, 14, 15] [] [0, 1, 2, 3, 4, 5, 6, 7, 8, 9, 10, 11, 12, 13, 14, 15] rfl (by decide) rfl (fun H locs hP hS => ?_)
    refine lv_goto (tgt := 27) hx hb dX7_bounces_23 (by decide) ?_
    obtain rfl := (Option.some.inj hR)
    exact fin _ _ _ _ _ rfl hP hS dX7_bounces_27
def jf_Mo_forgets_L2 : Nat → Int32 → (Nat → Int32) → Option (Nat → Int32)
  | 0, _, _ => none
  | n + 1, z1, v_isSeen =>
    if 512 ≤ z1 then (some v_isSeen) else (if jin z1 512 = true then ((jf_Mo_forgets_L2 n) (z1 + 1) (upd v_isSeen z1.toNatClampNeg (0 &&& 1))) else none)
def jf_Mo_forgets (v_isSeen : Nat → Int32) : Option (Nat → Int32) :=
  Option.bind (jf_Mo_forgets_L2 jF 0 v_isSeen) (fun q_1 => some q_1)
abbrev jr_Mo_forgets : Room := { frames := 0, cells := 0, slots := 0, locals := 0 }
set_option maxRecDepth 100000 in
set_option maxHeartbeats 4000000 in
theorem jc_Mo_forgets (l : Launch) (g : jG) (a_this a_this_isBlock a_this_isSeen a_this_lampX a_this_lampY a_this_right a_this_up a_this_keptRight a_this_keptUp a_this_name a_this_part a_this_codes a_this_above a_this_below a_this_length a_this_isMet : Nat) (v_thrown : Int32) (v_isBounce : Int32) (v_lamps : Int32) (v_squares : Int32) (v_intervals : Int32) (v_isBlock : Nat → Int32) (v_isSeen : Nat → Int32) (v_lampX : Nat → Int32) (v_lampY : Nat → Int32) (v_right : Nat → Int32) (v_up : Nat → Int32) (v_keptRight : Nat → Int32) (v_keptUp : Nat → Int32) (v_name : Nat → Int32) (v_part : Nat → Int32) (v_codes : Nat → Int32) (v_above : Nat → Int32) (v_below : Nat → Int32) (v_length : Nat → Int32) (v_isMet : Nat → Int32) (R : (Nat → Int32)) (hR : jf_Mo_forgets v_isSeen = some R) (sz : Nat) : Met l yX7_forgets wsX7_forgets jr_Mo_forgets (jPw g [.ref a_this] (jw_Mo g a_this a_this_isBlock a_this_isSeen a_this_lampX a_this_lampY a_this_right a_this_up a_this_keptRight a_this_keptUp a_this_name a_this_part a_this_codes a_this_above a_this_below a_this_length a_this_isMet v_thrown v_isBounce v_lamps v_squares v_intervals v_isBlock v_isSeen v_lampX v_lampY v_right v_up v_keptRight v_keptUp v_name v_part v_codes v_above v_below v_length v_isMet) sz) (jQv g (jw_Mo g a_this a_this_isBlock a_this_isSeen a_this_lampX a_this_lampY a_this_right a_this_up a_this_keptRight a_this_keptUp a_this_name a_this_part a_this_codes a_this_above a_this_below a_this_length a_this_isMet v_thrown v_isBounce v_lamps v_squares v_intervals v_isBlock R v_lampX v_lampY v_right v_up v_keptRight v_keptUp v_name v_part v_codes v_above v_below v_length v_isMet) (va_A (jw_Mo g a_this a_this_isBlock a_this_isSeen a_this_lampX a_this_lampY a_this_right a_this_up a_this_keptRight a_this_keptUp a_this_name a_this_part a_this_codes a_this_above a_this_below a_this_length a_this_isMet v_thrown v_isBounce v_lamps v_squares v_intervals v_isBlock v_isSeen v_lampX v_lampY v_right v_up v_keptRight v_keptUp v_name v_part v_codes v_above v_below v_length v_isMet) sz)) 0 0 (va_A (jw_Mo g a_this a_this_isBlock a_this_isSeen a_this_lampX a_this_lampY a_this_right a_this_up a_this_keptRight a_this_keptUp a_this_name a_this_part a_this_codes a_this_above a_this_below a_this_length a_this_isMet v_thrown v_isBounce v_lamps v_squares v_intervals v_isBlock v_isSeen v_lampX v_lampY v_right v_up v_keptRight v_keptUp v_name v_part v_codes v_above v_below v_length v_isMet) sz) := by
  refine jm_wv (cc := cX7_forgets) (maxL := 2) (by decide +kernel) rfl (Nat.le_of_ble_eq_true rfl) ?_
  intro p e s m below meth c A Q hx hb hml hown hts hK hP hD hA hS fin ls hl
  have hl : lv_has ls 2 [(0, .ref a_this)] := hl
  have hown : s.vm.findClass RX7 = some m.cls := hown
  have w_X7 : ∀ w ∈ u_ws RX7 TX7 20, w ∈ wsX7_forgets := by decide +kernel
  have w_f13 := hts (.fieldLink RX7 13 "BilliardryModel" "isSeen" "[Z") (by decide +kernel)
  have L2 : ∀ (n : Nat) (z1 : Int32) (v_isSeen : Nat → Int32) (H : Heap) (locs : List Loc), va_P g.1 vwCl (jw_Mo g a_this a_this_isBlock a_this_isSeen a_this_lampX a_this_lampY a_this_right a_this_up a_this_keptRight a_this_keptUp a_this_name a_this_part a_this_codes a_this_above a_this_below a_this_length a_this_isMet v_thrown v_isBounce v_lamps v_squares v_intervals v_isBlock v_isSeen v_lampX v_lampY v_right v_up v_keptRight v_keptUp v_name v_part v_codes v_above v_below v_length v_isMet) H → va_S A s.heap H locs → ∀ (ls : Array Slot), lv_has ls 2 [(0, .ref a_this), (1, .int z1)] → ∀ q, jf_Mo_forgets_L2 n z1 v_isSeen = some q → (∀ (H : Heap) (locs : List Loc), va_P g.1 vwCl (jw_Mo g a_this a_this_isBlock a_this_isSeen a_this_lampX a_this_lampY a_this_right a_this_up a_this_keptRight a_this_keptUp a_this_name a_this_part a_this_codes a_this_above a_this_below a_this_length a_this_isMet v_thrown v_isBounce v_lamps v_squares v_intervals v_isBlock q v_lampX v_lampY v_right v_up v_keptRight v_keptUp v_name v_part v_codes v_above v_below v_length v_isMet) H → va_S A s.heap H locs → ∀ ls : Array Slot, lv_has ls 2 [] → W p l e jr_Mo_forgets s m ([.ref a_this] : List Value).toArray below meth c H locs 0 0 Q (F0 m 22 ls [])) → W p l e jr_Mo_forgets s m ([.ref a_this] : List Value).toArray below meth c H locs 0 0 Q (F0 m 2 ls []) := by
    intro n
    induction n with
    | zero =>
      intro z1 v_isSeen H locs hP hS ls hl q hR k
      cases hR
    | succ n ih =>
      intro z1 v_isSeen H locs hP hS ls hl q hR k
      rw [jf_Mo_forgets_L2] at hR
      refine lv_iload_n hx hb dX7_forgets_2 rfl (lv_at hl 1 rfl) ?_
      refine lv_sipush (v := 512) hx hb dX7_forgets_3 (by decide) ?_
      refine lv_icmp_ge (tgt := 22) hx hb dX7_forgets_6 (by decide) (fun c_1 => ?_) (fun c_1 => ?_)
      · replace hR := Eq.trans (Eq.symm (if_pos c_1)) hR
        cases hR
        exact k _ _ hP hS _ (lv_sub hl [] rfl)
      · replace hR := Eq.trans (Eq.symm (if_neg c_1)) hR
        refine lv_aload_n hx hb dX7_forgets_9 rfl (lv_at hl 0 rfl) ?_
        refine va_get (D := g.1) (ci := 7) (v := .ref a_this_isSeen) (C := RX7) (T := TX7) (N := 20) hx hb hts w_X7 hown hK.1 hP 0 rfl rfl 3 (by decide) w_f13 (fun _ h9 => h9) rfl dX7_forgets_10 ?_
        refine lv_iload_n hx hb dX7_forgets_13 rfl (lv_at hl 1 rfl) ?_
        refine lv_iconst (v := 0) hx hb dX7_forgets_14 (by decide) ?_
        by_cases c_2 : jin z1 512 = true
        case neg => replace hR := Eq.trans (Eq.symm (if_neg c_2)) hR; cases hR
        replace hR := Eq.trans (Eq.symm (if_pos c_2)) hR
        refine va_zast hx hb hK.1 hP (jD_to hD rfl) hS 2 2 rfl rfl (jin_in c_2) dX7_forgets_15 (fun H locs hP _ hS => ?_)
        have hP : va_P g.1 vwCl (jw_Mo g a_this a_this_isBlock a_this_isSeen a_this_lampX a_this_lampY a_this_right a_this_up a_this_keptRight a_this_keptUp a_this_name a_this_part a_this_codes a_this_above a_this_below a_this_length a_this_isMet v_thrown v_isBounce v_lamps v_squares v_intervals v_isBlock (upd v_isSeen z1.toNatClampNeg (0 &&& 1)) v_lampX v_lampY v_right v_up v_keptRight v_keptUp v_name v_part v_codes v_above v_below v_length v_isMet) H := hP
        refine lv_iinc (v := z1 + 1) (lv' := [(1, .int (z1 + 1)), (0, .ref a_this)]) hx hb dX7_forgets_16 hl (k := 1) rfl (by first | rfl | decide) (by decide) rfl (fun ls hl => ?_)
        refine lv_goto (tgt := 2) hx hb dX7_forgets_19 (by decide) ?_
        exact ih (z1 + 1) (upd v_isSeen z1.toNatClampNeg (0 &&& 1)) _ _ hP hS _ (lv_sub hl [1, 0] rfl) _ hR k
  rw [jf_Mo_forgets] at hR
  refine lv_iconst (v := 0) hx hb dX7_forgets_0 (by decide) ?_
  refine lv_istore_n (lv' := [(1, .int 0), (0, .ref a_this)]) hx hb dX7_forgets_1 rfl hl (by decide) rfl (fun ls hl => ?_)
  obtain ⟨q_1, hq_1, hR⟩ := jbind hR
  try dsimp only at hR
  refine L2 jF 0 v_isSeen _ _ hP hS _ (lv_sub hl [1, 0] rfl) _ hq_1 (fun H locs hP hS ls hl => ?_)
  obtain rfl := (Option.some.inj hR)
  exact fin _ _ _ _ hP hS dX7_forgets_22
def jf_Mo_touched_b96 (self : Int32 → Int32 → Int32 → Int32 → (Nat → Int32) → Option (Int32 × Int32 × (Nat → Int32))) (v_isBounce : Int32) (v_isBlock : Nat → Int32) (v_isSeen : Nat → Int32) (z5 : Int32) (z6 : Int32) (z7 : Int32) (s0 : Int32) : Option (Int32 × Int32 × (Nat → Int32)) :=
  self z6 z7 s0 v_isBounce v_isSeen
def jf_Mo_touched_b62 (self : Int32 → Int32 → Int32 → Int32 → (Nat → Int32) → Option (Int32 × Int32 × (Nat → Int32))) (v_isBounce : Int32) (v_isBlock : Nat → Int32) (v_isSeen : Nat → Int32) (z5 : Int32) (z6 : Int32) (s0 : Int32) (s1 : Int32) : Option (Int32 × Int32 × (Nat → Int32)) :=
  jlet (s0 + s1) (fun y7_1 => if jin (z6 - z6 / 64 * 64) 512 = true then (Option.bind (jf_Mo_step v_isBounce v_isBlock z6) (fun q_3 => if q_3.1 = z5 then (jf_Mo_touched_b96 self q_3.2 v_isBlock (upd v_isSeen (z6 - z6 / 64 * 64).toNatClampNeg (1 &&& 1)) z5 q_3.1 y7_1 0) else (jf_Mo_touched_b96 self q_3.2 v_isBlock (upd v_isSeen (z6 - z6 / 64 * 64).toNatClampNeg (1 &&& 1)) z5 q_3.1 y7_1 1))) else none)
def jf_Mo_touched_L37 (v_isBlock : Nat → Int32) (z5 : Int32) : Nat → Int32 → Int32 → Int32 → Int32 → (Nat → Int32) → Option (Int32 × Int32 × (Nat → Int32))
  | 0, _, _, _, _, _ => none
  | n + 1, z6, z7, z8, v_isBounce, v_isSeen =>
    if z8 = 0 then (some (z7, v_isBounce, v_isSeen)) else (if jin (z6 - z6 / 64 * 64) 512 = true then (if v_isSeen (z6 - z6 / 64 * 64).toNatClampNeg = 0 then (jf_Mo_touched_b62 (jf_Mo_touched_L37 v_isBlock z5 n) v_isBounce v_isBlock v_isSeen z5 z6 z7 1) else (jf_Mo_touched_b62 (jf_Mo_touched_L37 v_isBlock z5 n) v_isBounce v_isBlock v_isSeen z5 z6 z7 0)) else none)
def jf_Mo_touched (v_thrown : Int32) (v_isBounce : Int32) (v_isBlock : Nat → Int32) (v_isSeen : Nat → Int32) (x1 : Int32) (x2 : Int32) (x3 : Int32) (x4 : Int32) : Option (Int32 × Int32 × Int32 × (Nat → Int32)) :=
  Option.bind (jf_Mo_asksShot v_thrown v_isBlock x1 x2 x3 1) (fun q_1 => if q_1.1 = 0 then (some (0, q_1.2, v_isBounce, v_isSeen)) else (Option.bind (jf_Mo_forgets v_isSeen) (fun q_2 => jlet (jf_Mo_stateOf x1 x2 x3 x4) (fun y5_1 => Option.bind (jf_Mo_touched_L37 v_isBlock y5_1 jF y5_1 0 1 v_isBounce q_2) (fun q_4 => some (q_4.1, q_1.2, q_4.2.1, q_4.2.2))))))
abbrev jr_Mo_touched : Room := { frames := 4, cells := 0, slots := 0, locals := 96 }
set_option maxRecDepth 100000 in
set_option maxHeartbeats 4000000 in
theorem jc_Mo_touched (l : Launch) (g : jG) (a_this a_this_isBlock a_this_isSeen a_this_lampX a_this_lampY a_this_right a_this_up a_this_keptRight a_this_keptUp a_this_name a_this_part a_this_codes a_this_above a_this_below a_this_length a_this_isMet : Nat) (v_thrown : Int32) (v_isBounce : Int32) (v_lamps : Int32) (v_squares : Int32) (v_intervals : Int32) (v_isBlock : Nat → Int32) (v_isSeen : Nat → Int32) (v_lampX : Nat → Int32) (v_lampY : Nat → Int32) (v_right : Nat → Int32) (v_up : Nat → Int32) (v_keptRight : Nat → Int32) (v_keptUp : Nat → Int32) (v_name : Nat → Int32) (v_part : Nat → Int32) (v_codes : Nat → Int32) (v_above : Nat → Int32) (v_below : Nat → Int32) (v_length : Nat → Int32) (v_isMet : Nat → Int32) (x1 : Int32) (x2 : Int32) (x3 : Int32) (x4 : Int32) (R : Int32 × Int32 × Int32 × (Nat → Int32)) (hR : jf_Mo_touched v_thrown v_isBounce v_isBlock v_isSeen x1 x2 x3 x4 = some R) (sz : Nat) : Met l yX7_touched wsX7_touched jr_Mo_touched (jPw g [.ref a_this, .int x1, .int x2, .int x3, .int x4] (jw_Mo g a_this a_this_isBlock a_this_isSeen a_this_lampX a_this_lampY a_this_right a_this_up a_this_keptRight a_this_keptUp a_this_name a_this_part a_this_codes a_this_above a_this_below a_this_length a_this_isMet v_thrown v_isBounce v_lamps v_squares v_intervals v_isBlock v_isSeen v_lampX v_lampY v_right v_up v_keptRight v_keptUp v_name v_part v_codes v_above v_below v_length v_isMet) sz) (jQi g R.1 (jw_Mo g a_this a_this_isBlock a_this_isSeen a_this_lampX a_this_lampY a_this_right a_this_up a_this_keptRight a_this_keptUp a_this_name a_this_part a_this_codes a_this_above a_this_below a_this_length a_this_isMet R.2.1 R.2.2.1 v_lamps v_squares v_intervals v_isBlock R.2.2.2 v_lampX v_lampY v_right v_up v_keptRight v_keptUp v_name v_part v_codes v_above v_below v_length v_isMet) (va_A (jw_Mo g a_this a_this_isBlock a_this_isSeen a_this_lampX a_this_lampY a_this_right a_this_up a_this_keptRight a_this_keptUp a_this_name a_this_part a_this_codes a_this_above a_this_below a_this_length a_this_isMet v_thrown v_isBounce v_lamps v_squares v_intervals v_isBlock v_isSeen v_lampX v_lampY v_right v_up v_keptRight v_keptUp v_name v_part v_codes v_above v_below v_length v_isMet) sz)) 0 0 (va_A (jw_Mo g a_this a_this_isBlock a_this_isSeen a_this_lampX a_this_lampY a_this_right a_this_up a_this_keptRight a_this_keptUp a_this_name a_this_part a_this_codes a_this_above a_this_below a_this_length a_this_isMet v_thrown v_isBounce v_lamps v_squares v_intervals v_isBlock v_isSeen v_lampX v_lampY v_right v_up v_keptRight v_keptUp v_name v_part v_codes v_above v_below v_length v_isMet) sz) := by
  refine jm_wi (cc := cX7_touched) (maxL := 9) (by decide +kernel) rfl (Nat.le_of_ble_eq_true rfl) ?_
  intro p e s m below meth c A Q hx hb hml hown hts hK hP hD hA hS fin ls hl
  have hl : lv_has ls 9 [(0, .ref a_this), (1, .int x1), (2, .int x2), (3, .int x3), (4, .int x4)] := hl
  have hown : s.vm.findClass RX7 = some m.cls := hown
  have w_X7 : ∀ w ∈ u_ws RX7 TX7 20, w ∈ wsX7_touched := by decide +kernel
  have w_f13 := hts (.fieldLink RX7 13 "BilliardryModel" "isSeen" "[Z") (by decide +kernel)
  have L37 : ∀ (n : Nat) (v_thrown : Int32) (z5 : Int32) (z6 : Int32) (z7 : Int32) (z8 : Int32) (v_isBounce : Int32) (v_isSeen : Nat → Int32) (H : Heap) (locs : List Loc), va_P g.1 vwCl (jw_Mo g a_this a_this_isBlock a_this_isSeen a_this_lampX a_this_lampY a_this_right a_this_up a_this_keptRight a_this_keptUp a_this_name a_this_part a_this_codes a_this_above a_this_below a_this_length a_this_isMet v_thrown v_isBounce v_lamps v_squares v_intervals v_isBlock v_isSeen v_lampX v_lampY v_right v_up v_keptRight v_keptUp v_name v_part v_codes v_above v_below v_length v_isMet) H → va_S A s.heap H locs → ∀ (ls : Array Slot), lv_has ls 9 [(0, .ref a_this), (5, .int z5), (6, .int z6), (7, .int z7), (8, .int z8)] → ∀ q, jf_Mo_touched_L37 v_isBlock z5 n z6 z7 z8 v_isBounce v_isSeen = some q → (∀ (H : Heap) (locs : List Loc), va_P g.1 vwCl (jw_Mo g a_this a_this_isBlock a_this_isSeen a_this_lampX a_this_lampY a_this_right a_this_up a_this_keptRight a_this_keptUp a_this_name a_this_part a_this_codes a_this_above a_this_below a_this_length a_this_isMet v_thrown q.2.1 v_lamps v_squares v_intervals v_isBlock q.2.2 v_lampX v_lampY v_right v_up v_keptRight v_keptUp v_name v_part v_codes v_above v_below v_length v_isMet) H → va_S A s.heap H locs → ∀ ls : Array Slot, lv_has ls 9 [(7, .int q.1)] → W p l e jr_Mo_touched s m ([.ref a_this, .int x1, .int x2, .int x3, .int x4] : List Value).toArray below meth c H locs 0 0 Q (F0 m 101 ls [])) → W p l e jr_Mo_touched s m ([.ref a_this, .int x1, .int x2, .int x3, .int x4] : List Value).toArray below meth c H locs 0 0 Q (F0 m 37 ls []) := by
    intro n v_thrown z5
    induction n with
    | zero =>
      intro z6 z7 z8 v_isBounce v_isSeen H locs hP hS ls hl q hR k
      cases hR
    | succ n ih =>
      have J96 : ∀ (v_isBounce : Int32) (v_isSeen : Nat → Int32) (z6 : Int32) (z7 : Int32) (s0 : Int32) (H : Heap) (locs : List Loc), va_P g.1 vwCl (jw_Mo g a_this a_this_isBlock a_this_isSeen a_this_lampX a_this_lampY a_this_right a_this_up a_this_keptRight a_this_keptUp a_this_name a_this_part a_this_codes a_this_above a_this_below a_this_length a_this_isMet v_thrown v_isBounce v_lamps v_squares v_intervals v_isBlock v_isSeen v_lampX v_lampY v_right v_up v_keptRight v_keptUp v_name v_part v_codes v_above v_below v_length v_isMet) H → va_S A s.heap H locs → ∀ (ls : Array Slot), lv_has ls 9 [(0, .ref a_this), (5, .int z5), (6, .int z6), (7, .int z7)] → ∀ q, jf_Mo_touched_b96 (jf_Mo_touched_L37 v_isBlock z5 n) v_isBounce v_isBlock v_isSeen z5 z6 z7 s0 = some q → (∀ (H : Heap) (locs : List Loc), va_P g.1 vwCl (jw_Mo g a_this a_this_isBlock a_this_isSeen a_this_lampX a_this_lampY a_this_right a_this_up a_this_keptRight a_this_keptUp a_this_name a_this_part a_this_codes a_this_above a_this_below a_this_length a_this_isMet v_thrown q.2.1 v_lamps v_squares v_intervals v_isBlock q.2.2 v_lampX v_lampY v_right v_up v_keptRight v_keptUp v_name v_part v_codes v_above v_below v_length v_isMet) H → va_S A s.heap H locs → ∀ ls : Array Slot, lv_has ls 9 [(7, .int q.1)] → W p l e jr_Mo_touched s m ([.ref a_this, .int x1, .int x2, .int x3, .int x4] : List Value).toArray below meth c H locs 0 0 Q (F0 m 101 ls [])) → W p l e jr_Mo_touched s m ([.ref a_this, .int x1, .int x2, .int x3, .int x4] : List Value).toArray below meth c H locs 0 0 Q (F0 m 96 ls [.int s0]) := by
        intro v_isBounce v_isSeen z6 z7 s0 H locs hP hS ls hl q hR k
        rw [jf_Mo_touched_b96] at hR
        refine lv_istore (lv' := [(8, .int s0), (0, .ref a_this), (5, .int z5), (6, .int z6), (7, .int z7)]) hx hb dX7_touched_96 hl (by decide) rfl (fun ls hl => ?_)
        refine lv_goto (tgt := 37) hx hb dX7_touched_98 (by decide) ?_
        exact ih z6 z7 s0 v_isBounce v_isSeen _ _ hP hS _ (lv_sub hl [1, 2, 3, 4, 0] rfl) _ hR k
      have J62 : ∀ (v_isBounce : Int32) (v_isSeen : Nat → Int32) (z6 : Int32) (s0 : Int32) (s1 : Int32) (H : Heap) (locs : List Loc), va_P g.1 vwCl (jw_Mo g a_this a_this_isBlock a_this_isSeen a_this_lampX a_this_lampY a_this_right a_this_up a_this_keptRight a_this_keptUp a_this_name a_this_part a_this_codes a_this_above a_this_below a_this_length a_this_isMet v_thrown v_isBounce v_lamps v_squares v_intervals v_isBlock v_isSeen v_lampX v_lampY v_right v_up v_keptRight v_keptUp v_name v_part v_codes v_above v_below v_length v_isMet) H → va_S A s.heap H locs → ∀ (ls : Array Slot), lv_has ls 9 [(0, .ref a_this), (5, .int z5), (6, .int z6)] → ∀ q, jf_Mo_touched_b62 (jf_Mo_touched_L37 v_isBlock z5 n) v_isBounce v_isBlock v_isSeen z5 z6 s0 s1 = some q → (∀ (H : Heap) (locs : List Loc), va_P g.1 vwCl (jw_Mo g a_this a_this_isBlock a_this_isSeen a_this_lampX a_this_lampY a_this_right a_this_up a_this_keptRight a_this_keptUp a_this_name a_this_part a_this_codes a_this_above a_this_below a_this_length a_this_isMet v_thrown q.2.1 v_lamps v_squares v_intervals v_isBlock q.2.2 v_lampX v_lampY v_right v_up v_keptRight v_keptUp v_name v_part v_codes v_above v_below v_length v_isMet) H → va_S A s.heap H locs → ∀ ls : Array Slot, lv_has ls 9 [(7, .int q.1)] → W p l e jr_Mo_touched s m ([.ref a_this, .int x1, .int x2, .int x3, .int x4] : List Value).toArray below meth c H locs 0 0 Q (F0 m 101 ls [])) → W p l e jr_Mo_touched s m ([.ref a_this, .int x1, .int x2, .int x3, .int x4] : List Value).toArray below meth c H locs 0 0 Q (F0 m 62 ls [.int s1, .int s0]) := by
        intro v_isBounce v_isSeen z6 s0 s1 H locs hP hS ls hl q hR k
        rw [jf_Mo_touched_b62] at hR
        refine lv_iadd hx hb dX7_touched_62 ?_
        refine jlet_i hR (fun y7_1 hR => ?_)
        try dsimp only at hR
        refine lv_istore (lv' := [(7, .int y7_1), (0, .ref a_this), (5, .int z5), (6, .int z6)]) hx hb dX7_touched_63 hl (by decide) rfl (fun ls hl => ?_)
        refine lv_aload_n hx hb dX7_touched_65 rfl (lv_at hl 1 rfl) ?_
        refine va_get (D := g.1) (ci := 7) (v := .ref a_this_isSeen) (C := RX7) (T := TX7) (N := 20) hx hb hts w_X7 hown hK.1 hP 0 rfl rfl 3 (by decide) w_f13 (fun _ h9 => h9) rfl dX7_touched_66 ?_
        refine lv_iload hx hb dX7_touched_69 (lv_at hl 3 rfl) ?_
        refine lv_bipush (v := 64) hx hb dX7_touched_71 (by decide) ?_
        refine lv_irem hx hb dX7_touched_73 (by decide) ?_
        refine lv_iconst (v := 1) hx hb dX7_touched_74 (by decide) ?_
        by_cases c_5 : jin (z6 - z6 / 64 * 64) 512 = true
        case neg => replace hR := Eq.trans (Eq.symm (if_neg c_5)) hR; cases hR
        replace hR := Eq.trans (Eq.symm (if_pos c_5)) hR
        refine va_zast hx hb hK.1 hP (jD_to hD rfl) hS 2 2 rfl rfl (jin_in c_5) dX7_touched_75 (fun H locs hP _ hS => ?_)
        have hP : va_P g.1 vwCl (jw_Mo g a_this a_this_isBlock a_this_isSeen a_this_lampX a_this_lampY a_this_right a_this_up a_this_keptRight a_this_keptUp a_this_name a_this_part a_this_codes a_this_above a_this_below a_this_length a_this_isMet v_thrown v_isBounce v_lamps v_squares v_intervals v_isBlock (upd v_isSeen (z6 - z6 / 64 * 64).toNatClampNeg (1 &&& 1)) v_lampX v_lampY v_right v_up v_keptRight v_keptUp v_name v_part v_codes v_above v_below v_length v_isMet) H := hP
        refine lv_aload_n hx hb dX7_touched_76 rfl (lv_at hl 1 rfl) ?_
        refine lv_iload hx hb dX7_touched_77 (lv_at hl 3 rfl) ?_
        obtain ⟨q_3, hq_3, hR⟩ := jbind hR
        try dsimp only at hR
        refine jcall_wi (ws' := jw_Mo g a_this a_this_isBlock a_this_isSeen a_this_lampX a_this_lampY a_this_right a_this_up a_this_keptRight a_this_keptUp a_this_name a_this_part a_this_codes a_this_above a_this_below a_this_length a_this_isMet v_thrown q_3.2 v_lamps v_squares v_intervals v_isBlock (upd v_isSeen (z6 - z6 / 64 * 64).toNatClampNeg (1 &&& 1)) v_lampX v_lampY v_right v_up v_keptRight v_keptUp v_name v_part v_codes v_above v_below v_length v_isMet) (va_runV (As := [.int z6]) (rest := []) ⟨hx, hb, hml, hown, hts⟩ (jc_Mo_step l g a_this a_this_isBlock a_this_isSeen a_this_lampX a_this_lampY a_this_right a_this_up a_this_keptRight a_this_keptUp a_this_name a_this_part a_this_codes a_this_above a_this_below a_this_length a_this_isMet v_thrown v_isBounce v_lamps v_squares v_intervals v_isBlock (upd v_isSeen (z6 - z6 / 64 * 64).toNatClampNeg (1 &&& 1)) v_lampX v_lampY v_right v_up v_keptRight v_keptUp v_name v_part v_codes v_above v_below v_length v_isMet z6 _ hq_3 _) (cwV 1 hts gX7_touched_X7_step rfl rfl rfl (by decide +kernel) ⟨Nat.le_of_ble_eq_true rfl, Nat.le_of_ble_eq_true rfl⟩) (jpw_v hK hP (jD_to hD rfl) (ci := 7) (q0 := 0) rfl rfl) rfl rfl hl.1 rfl (lv_room (Nat.le_of_ble_eq_true rfl)) dX7_touched_79 ⟨Nat.zero_le _, Nat.zero_le _⟩) hP (jD_to hD rfl) hS hA [0, 1, 2, 3, 4, 5, 6, 7, 8, 9, 10, 11, 12, 13, 14, 15] [] [0, 1, 2, 3, 4, 5, 6, 7, 8, 9, 10, 11, 12, 13, 14, 15] rfl (by decide) rfl (fun H locs hP hS => ?_)
        refine lv_istore (lv' := [(6, .int q_3.1), (7, .int y7_1), (0, .ref a_this), (5, .int z5)]) hx hb dX7_touched_82 hl (by decide) rfl (fun ls hl => ?_)
        refine lv_iload hx hb dX7_touched_84 (lv_at hl 0 rfl) ?_
        refine lv_iload hx hb dX7_touched_86 (lv_at hl 3 rfl) ?_
        refine lv_icmp_eq (tgt := 95) hx hb dX7_touched_88 (by decide) (fun c_6 => ?_) (fun c_6 => ?_)
        · replace hR := Eq.trans (Eq.symm (if_pos c_6)) hR
          refine lv_iconst (v := 0) hx hb dX7_touched_95 (by decide) ?_
          exact J96 q_3.2 (upd v_isSeen (z6 - z6 / 64 * 64).toNatClampNeg (1 &&& 1)) q_3.1 y7_1 0 _ _ hP hS _ (lv_sub hl [2, 3, 0, 1] rfl) _ hR k
        · replace hR := Eq.trans (Eq.symm (if_neg c_6)) hR
          refine lv_iconst (v := 1) hx hb dX7_touched_91 (by decide) ?_
          refine lv_goto (tgt := 96) hx hb dX7_touched_92 (by decide) ?_
          exact J96 q_3.2 (upd v_isSeen (z6 - z6 / 64 * 64).toNatClampNeg (1 &&& 1)) q_3.1 y7_1 1 _ _ hP hS _ (lv_sub hl [2, 3, 0, 1] rfl) _ hR k
      intro z6 z7 z8 v_isBounce v_isSeen H locs hP hS ls hl q hR k
      rw [jf_Mo_touched_L37] at hR
      refine lv_iload hx hb dX7_touched_37 (lv_at hl 4 rfl) ?_
      refine lv_if_eq (tgt := 101) hx hb dX7_touched_39 (by decide) (fun c_2 => ?_) (fun c_2 => ?_)
      · replace hR := Eq.trans (Eq.symm (if_pos c_2)) hR
        cases hR
        exact k _ _ hP hS _ (lv_sub hl [3] rfl)
      · replace hR := Eq.trans (Eq.symm (if_neg c_2)) hR
        refine lv_iload hx hb dX7_touched_42 (lv_at hl 3 rfl) ?_
        refine lv_aload_n hx hb dX7_touched_44 rfl (lv_at hl 0 rfl) ?_
        refine va_get (D := g.1) (ci := 7) (v := .ref a_this_isSeen) (C := RX7) (T := TX7) (N := 20) hx hb hts w_X7 hown hK.1 hP 0 rfl rfl 3 (by decide) w_f13 (fun _ h9 => h9) rfl dX7_touched_45 ?_
        refine lv_iload hx hb dX7_touched_48 (lv_at hl 2 rfl) ?_
        refine lv_bipush (v := 64) hx hb dX7_touched_50 (by decide) ?_
        refine lv_irem hx hb dX7_touched_52 (by decide) ?_
        by_cases c_3 : jin (z6 - z6 / 64 * 64) 512 = true
        case neg => replace hR := Eq.trans (Eq.symm (if_neg c_3)) hR; cases hR
        replace hR := Eq.trans (Eq.symm (if_pos c_3)) hR
        refine va_zald hx hb hK.1 hP 2 2 rfl rfl (jin_in c_3) dX7_touched_53 ?_
        refine lv_if_eq (tgt := 61) hx hb dX7_touched_54 (by decide) (fun c_4 => ?_) (fun c_4 => ?_)
        · replace hR := Eq.trans (Eq.symm (if_pos c_4)) hR
          refine lv_iconst (v := 1) hx hb dX7_touched_61 (by decide) ?_
          exact J62 v_isBounce v_isSeen z6 z7 1 _ _ hP hS _ (lv_sub hl [0, 1, 2] rfl) _ hR k
        · replace hR := Eq.trans (Eq.symm (if_neg c_4)) hR
          refine lv_iconst (v := 0) hx hb dX7_touched_57 (by decide) ?_
          refine lv_goto (tgt := 62) hx hb dX7_touched_58 (by decide) ?_
          exact J62 v_isBounce v_isSeen z6 z7 0 _ _ hP hS _ (lv_sub hl [0, 1, 2] rfl) _ hR k
  rw [jf_Mo_touched] at hR
  refine lv_aload_n hx hb dX7_touched_0 rfl (lv_at hl 0 rfl) ?_
  refine lv_iload_n hx hb dX7_touched_1 rfl (lv_at hl 1 rfl) ?_
  refine lv_iload_n hx hb dX7_touched_2 rfl (lv_at hl 2 rfl) ?_
  refine lv_iload_n hx hb dX7_touched_3 rfl (lv_at hl 3 rfl) ?_
  refine lv_iconst (v := 1) hx hb dX7_touched_4 (by decide) ?_
  obtain ⟨q_1, hq_1, hR⟩ := jbind hR
  try dsimp only at hR
  refine jcall_wi (ws' := jw_Mo g a_this a_this_isBlock a_this_isSeen a_this_lampX a_this_lampY a_this_right a_this_up a_this_keptRight a_this_keptUp a_this_name a_this_part a_this_codes a_this_above a_this_below a_this_length a_this_isMet q_1.2 v_isBounce v_lamps v_squares v_intervals v_isBlock v_isSeen v_lampX v_lampY v_right v_up v_keptRight v_keptUp v_name v_part v_codes v_above v_below v_length v_isMet) (va_runV (As := [.int x1, .int x2, .int x3, .int 1]) (rest := []) ⟨hx, hb, hml, hown, hts⟩ (jc_Mo_asksShot l g a_this a_this_isBlock a_this_isSeen a_this_lampX a_this_lampY a_this_right a_this_up a_this_keptRight a_this_keptUp a_this_name a_this_part a_this_codes a_this_above a_this_below a_this_length a_this_isMet v_thrown v_isBounce v_lamps v_squares v_intervals v_isBlock v_isSeen v_lampX v_lampY v_right v_up v_keptRight v_keptUp v_name v_part v_codes v_above v_below v_length v_isMet x1 x2 x3 1 _ hq_1 _) (cwV 4 hts gX7_touched_X7_asksShot rfl rfl rfl (by decide +kernel) ⟨Nat.le_of_ble_eq_true rfl, Nat.le_of_ble_eq_true rfl⟩) (jpw_v hK hP (jD_to hD rfl) (ci := 7) (q0 := 0) rfl rfl) rfl rfl hl.1 rfl (lv_room (Nat.le_of_ble_eq_true rfl)) dX7_touched_5 ⟨Nat.zero_le _, Nat.zero_le _⟩) hP (jD_to hD rfl) hS hA [0, 1, 2, 3, 4, 5, 6, 7, 8, 9, 10, 11, 12, 13, 14, 15] [] [0, 1, 2, 3, 4, 5, 6, 7, 8, 9, 10, 11, 12, 13, 14, 15] rfl (by decide) rfl (fun H locs hP hS => ?_)
  refine lv_if_ne (tgt := 13) hx hb dX7_touched_8 (by decide) (fun c_1 => ?_) (fun c_1 => ?_)
  · replace hR := Eq.trans (Eq.symm (if_neg c_1)) hR
    refine lv_aload_n hx hb dX7_touched_13 rfl (lv_at hl 0 rfl) ?_
    obtain ⟨q_2, hq_2, hR⟩ := jbind hR
    try dsimp only at hR
    refine jcall_wv (ws' := jw_Mo g a_this a_this_isBlock a_this_isSeen a_this_lampX a_this_lampY a_this_right a_this_up a_this_keptRight a_this_keptUp a_this_name a_this_part a_this_codes a_this_above a_this_below a_this_length a_this_isMet q_1.2 v_isBounce v_lamps v_squares v_intervals v_isBlock q_2 v_lampX v_lampY v_right v_up v_keptRight v_keptUp v_name v_part v_codes v_above v_below v_length v_isMet) (va_runV (As := []) (rest := []) ⟨hx, hb, hml, hown, hts⟩ (jc_Mo_forgets l g a_this a_this_isBlock a_this_isSeen a_this_lampX a_this_lampY a_this_right a_this_up a_this_keptRight a_this_keptUp a_this_name a_this_part a_this_codes a_this_above a_this_below a_this_length a_this_isMet q_1.2 v_isBounce v_lamps v_squares v_intervals v_isBlock v_isSeen v_lampX v_lampY v_right v_up v_keptRight v_keptUp v_name v_part v_codes v_above v_below v_length v_isMet _ hq_2 _) (cwV 0 hts gX7_touched_X7_forgets rfl rfl rfl (by decide +kernel) ⟨Nat.le_of_ble_eq_true rfl, Nat.le_of_ble_eq_true rfl⟩) (jpw_v hK hP (jD_to hD rfl) (ci := 7) (q0 := 0) rfl rfl) rfl rfl hl.1 rfl (lv_room (Nat.le_of_ble_eq_true rfl)) dX7_touched_14 ⟨Nat.zero_le _, Nat.zero_le _⟩) hP (jD_to hD rfl) hS hA [0, 1, 2, 3, 4, 5, 6, 7, 8, 9, 10, 11, 12, 13, 14, 15] [] [0, 1, 2, 3, 4, 5, 6, 7, 8, 9, 10, 11, 12, 13, 14, 15] rfl (by decide) rfl (fun H locs hP hS => ?_)
    refine lv_iload_n hx hb dX7_touched_17 rfl (lv_at hl 1 rfl) ?_
    refine lv_iload_n hx hb dX7_touched_18 rfl (lv_at hl 2 rfl) ?_
    refine lv_iload_n hx hb dX7_touched_19 rfl (lv_at hl 3 rfl) ?_
    refine lv_iload hx hb dX7_touched_20 (lv_at hl 4 rfl) ?_
    refine jcall_ri (va_runS (As := [.int x1, .int x2, .int x3, .int x4]) (rest := []) ⟨hx, hb, hml, hown, hts⟩ (jc_Mo_stateOf l g  x1 x2 x3 x4 _ rfl) (va_cwS 4 hts gX7_touched_X7_stateOf rfl rfl rfl (by decide +kernel) ⟨Nat.le_of_ble_eq_true rfl, Nat.le_of_ble_eq_true rfl⟩) (jpr_s hK (hP.sub (ws' := []) [] rfl)) rfl rfl hl.1 rfl (lv_room (Nat.le_of_ble_eq_true rfl)) dX7_touched_22 ⟨Nat.zero_le _, Nat.zero_le _⟩) ?_
    refine jlet_i hR (fun y5_1 hR => ?_)
    try dsimp only at hR
    refine lv_istore (lv' := [(5, .int y5_1), (0, .ref a_this), (1, .int x1), (2, .int x2), (3, .int x3), (4, .int x4)]) hx hb dX7_touched_25 hl (by decide) rfl (fun ls hl => ?_)
    refine lv_iload hx hb dX7_touched_27 (lv_at hl 0 rfl) ?_
    refine lv_istore (lv' := [(6, .int y5_1), (5, .int y5_1), (0, .ref a_this), (1, .int x1), (2, .int x2), (3, .int x3), (4, .int x4)]) hx hb dX7_touched_29 hl (by decide) rfl (fun ls hl => ?_)
    refine lv_iconst (v := 0) hx hb dX7_touched_31 (by decide) ?_
    refine lv_istore (lv' := [(7, .int 0), (6, .int y5_1), (5, .int y5_1), (0, .ref a_this), (1, .int x1), (2, .int x2), (3, .int x3), (4, .int x4)]) hx hb dX7_touched_32 hl (by decide) rfl (fun ls hl => ?_)
    refine lv_iconst (v := 1) hx hb dX7_touched_34 (by decide) ?_
    refine lv_istore (lv' := [(8, .int 1), (7, .int 0), (6, .int y5_1), (5, .int y5_1), (0, .ref a_this), (1, .int x1), (2, .int x2), (3, .int x3), (4, .int x4)]) hx hb dX7_touched_35 hl (by decide) rfl (fun ls hl => ?_)
    obtain ⟨q_4, hq_4, hR⟩ := jbind hR
    try dsimp only at hR
    refine L37 jF q_1.2 y5_1 y5_1 0 1 v_isBounce q_2 _ _ hP hS _ (lv_sub hl [4, 3, 2, 1, 0] rfl) _ hq_4 (fun H locs hP hS ls hl => ?_)
    refine lv_iload hx hb dX7_touched_101 (lv_at hl 0 rfl) ?_
    obtain rfl := (Option.some.inj hR)
    exact fin _ _ _ _ _ rfl hP hS dX7_touched_103
  · replace hR := Eq.trans (Eq.symm (if_pos c_1)) hR
    refine lv_iconst (v := 0) hx hb dX7_touched_11 (by decide) ?_
    obtain rfl := (Option.some.inj hR)
    exact fin _ _ _ _ _ rfl hP hS dX7_touched_12
def jf_Mo_bounce_b70 (self : Int32 → Int32 → Int32 → Option (Int32 × Int32)) (v_isBounce : Int32) (v_isBlock : Nat → Int32) (z6 : Int32) (s0 : Int32) (s1 : Int32) : Option (Int32 × Int32) :=
  jlet (s0 - s1) (fun y7_2 => self z6 y7_2 v_isBounce)
def jf_Mo_bounce_L43 (v_isBlock : Nat → Int32) : Nat → Int32 → Int32 → Int32 → Option (Int32 × Int32)
  | 0, _, _, _ => none
  | n + 1, z6, z7, v_isBounce =>
    if z7 ≤ 0 then (some (z6, v_isBounce)) else (Option.bind (jf_Mo_step v_isBounce v_isBlock z6) (fun q_3 => if q_3.2 = 0 then (jf_Mo_bounce_b70 (jf_Mo_bounce_L43 v_isBlock n) q_3.2 v_isBlock q_3.1 z7 0) else (jf_Mo_bounce_b70 (jf_Mo_bounce_L43 v_isBlock n) q_3.2 v_isBlock q_3.1 z7 1)))
def jf_Mo_bounce (v_thrown : Int32) (v_isBounce : Int32) (v_isBlock : Nat → Int32) (x1 : Int32) (x2 : Int32) (x3 : Int32) (x4 : Int32) (x5 : Int32) : Option (Int32 × Int32 × Int32) :=
  Option.bind (jf_Mo_asksShot v_thrown v_isBlock x1 x2 x3 (jf_Mo_in x5 0 100000)) (fun q_1 => if q_1.1 = 0 then (some (0, q_1.2, v_isBounce)) else (jlet (jf_Mo_stateOf x1 x2 x3 x4) (fun y6_1 => Option.bind (jf_Mo_bouncesOf v_isBounce v_isBlock y6_1) (fun q_2 => if q_2.1 = 0 then none else jlet ((x5 - x5 / q_2.1 * q_2.1) + 1) (fun y7_1 => Option.bind (jf_Mo_bounce_L43 v_isBlock jF y6_1 y7_1 q_2.2) (fun q_4 => some ((q_4.1 / 64) - (q_4.1 / 64) / 4 * 4, q_1.2, q_4.2)))))))
abbrev jr_Mo_bounce : Room := { frames := 5, cells := 0, slots := 0, locals := 120 }
set_option maxRecDepth 100000 in
set_option maxHeartbeats 4000000 in
theorem jc_Mo_bounce (l : Launch) (g : jG) (a_this a_this_isBlock a_this_isSeen a_this_lampX a_this_lampY a_this_right a_this_up a_this_keptRight a_this_keptUp a_this_name a_this_part a_this_codes a_this_above a_this_below a_this_length a_this_isMet : Nat) (v_thrown : Int32) (v_isBounce : Int32) (v_lamps : Int32) (v_squares : Int32) (v_intervals : Int32) (v_isBlock : Nat → Int32) (v_isSeen : Nat → Int32) (v_lampX : Nat → Int32) (v_lampY : Nat → Int32) (v_right : Nat → Int32) (v_up : Nat → Int32) (v_keptRight : Nat → Int32) (v_keptUp : Nat → Int32) (v_name : Nat → Int32) (v_part : Nat → Int32) (v_codes : Nat → Int32) (v_above : Nat → Int32) (v_below : Nat → Int32) (v_length : Nat → Int32) (v_isMet : Nat → Int32) (x1 : Int32) (x2 : Int32) (x3 : Int32) (x4 : Int32) (x5 : Int32) (R : Int32 × Int32 × Int32) (hR : jf_Mo_bounce v_thrown v_isBounce v_isBlock x1 x2 x3 x4 x5 = some R) (sz : Nat) : Met l yX7_bounce wsX7_bounce jr_Mo_bounce (jPw g [.ref a_this, .int x1, .int x2, .int x3, .int x4, .int x5] (jw_Mo g a_this a_this_isBlock a_this_isSeen a_this_lampX a_this_lampY a_this_right a_this_up a_this_keptRight a_this_keptUp a_this_name a_this_part a_this_codes a_this_above a_this_below a_this_length a_this_isMet v_thrown v_isBounce v_lamps v_squares v_intervals v_isBlock v_isSeen v_lampX v_lampY v_right v_up v_keptRight v_keptUp v_name v_part v_codes v_above v_below v_length v_isMet) sz) (jQi g R.1 (jw_Mo g a_this a_this_isBlock a_this_isSeen a_this_lampX a_this_lampY a_this_right a_this_up a_this_keptRight a_this_keptUp a_this_name a_this_part a_this_codes a_this_above a_this_below a_this_length a_this_isMet R.2.1 R.2.2 v_lamps v_squares v_intervals v_isBlock v_isSeen v_lampX v_lampY v_right v_up v_keptRight v_keptUp v_name v_part v_codes v_above v_below v_length v_isMet) (va_A (jw_Mo g a_this a_this_isBlock a_this_isSeen a_this_lampX a_this_lampY a_this_right a_this_up a_this_keptRight a_this_keptUp a_this_name a_this_part a_this_codes a_this_above a_this_below a_this_length a_this_isMet v_thrown v_isBounce v_lamps v_squares v_intervals v_isBlock v_isSeen v_lampX v_lampY v_right v_up v_keptRight v_keptUp v_name v_part v_codes v_above v_below v_length v_isMet) sz)) 0 0 (va_A (jw_Mo g a_this a_this_isBlock a_this_isSeen a_this_lampX a_this_lampY a_this_right a_this_up a_this_keptRight a_this_keptUp a_this_name a_this_part a_this_codes a_this_above a_this_below a_this_length a_this_isMet v_thrown v_isBounce v_lamps v_squares v_intervals v_isBlock v_isSeen v_lampX v_lampY v_right v_up v_keptRight v_keptUp v_name v_part v_codes v_above v_below v_length v_isMet) sz) := by
  refine jm_wi (cc := cX7_bounce) (maxL := 8) (by decide +kernel) rfl (Nat.le_of_ble_eq_true rfl) ?_
  intro p e s m below meth c A Q hx hb hml hown hts hK hP hD hA hS fin ls hl
  have hl : lv_has ls 8 [(0, .ref a_this), (1, .int x1), (2, .int x2), (3, .int x3), (4, .int x4), (5, .int x5)] := hl
  have hown : s.vm.findClass RX7 = some m.cls := hown
  have w_X7 : ∀ w ∈ u_ws RX7 TX7 20, w ∈ wsX7_bounce := by decide +kernel
  have w_f74 := hts (.fieldLink RX7 74 "BilliardryModel" "isBounce" "Z") (by decide +kernel)
  have L43 : ∀ (n : Nat) (v_thrown : Int32) (z6 : Int32) (z7 : Int32) (v_isBounce : Int32) (H : Heap) (locs : List Loc), va_P g.1 vwCl (jw_Mo g a_this a_this_isBlock a_this_isSeen a_this_lampX a_this_lampY a_this_right a_this_up a_this_keptRight a_this_keptUp a_this_name a_this_part a_this_codes a_this_above a_this_below a_this_length a_this_isMet v_thrown v_isBounce v_lamps v_squares v_intervals v_isBlock v_isSeen v_lampX v_lampY v_right v_up v_keptRight v_keptUp v_name v_part v_codes v_above v_below v_length v_isMet) H → va_S A s.heap H locs → ∀ (ls : Array Slot), lv_has ls 8 [(0, .ref a_this), (6, .int z6), (7, .int z7)] → ∀ q, jf_Mo_bounce_L43 v_isBlock n z6 z7 v_isBounce = some q → (∀ (H : Heap) (locs : List Loc), va_P g.1 vwCl (jw_Mo g a_this a_this_isBlock a_this_isSeen a_this_lampX a_this_lampY a_this_right a_this_up a_this_keptRight a_this_keptUp a_this_name a_this_part a_this_codes a_this_above a_this_below a_this_length a_this_isMet v_thrown q.2 v_lamps v_squares v_intervals v_isBlock v_isSeen v_lampX v_lampY v_right v_up v_keptRight v_keptUp v_name v_part v_codes v_above v_below v_length v_isMet) H → va_S A s.heap H locs → ∀ ls : Array Slot, lv_has ls 8 [(6, .int q.1)] → W p l e jr_Mo_bounce s m ([.ref a_this, .int x1, .int x2, .int x3, .int x4, .int x5] : List Value).toArray below meth c H locs 0 0 Q (F0 m 76 ls [])) → W p l e jr_Mo_bounce s m ([.ref a_this, .int x1, .int x2, .int x3, .int x4, .int x5] : List Value).toArray below meth c H locs 0 0 Q (F0 m 43 ls []) := by
    intro n v_thrown
    induction n with
    | zero =>
      intro z6 z7 v_isBounce H locs hP hS ls hl q hR k
      cases hR
    | succ n ih =>
      have J70 : ∀ (v_isBounce : Int32) (z6 : Int32) (s0 : Int32) (s1 : Int32) (H : Heap) (locs : List Loc), va_P g.1 vwCl (jw_Mo g a_this a_this_isBlock a_this_isSeen a_this_lampX a_this_lampY a_this_right a_this_up a_this_keptRight a_this_keptUp a_this_name a_this_part a_this_codes a_this_above a_this_below a_this_length a_this_isMet v_thrown v_isBounce v_lamps v_squares v_intervals v_isBlock v_isSeen v_lampX v_lampY v_right v_up v_keptRight v_keptUp v_name v_part v_codes v_above v_below v_length v_isMet) H → va_S A s.heap H locs → ∀ (ls : Array Slot), lv_has ls 8 [(0, .ref a_this), (6, .int z6)] → ∀ q, jf_Mo_bounce_b70 (jf_Mo_bounce_L43 v_isBlock n) v_isBounce v_isBlock z6 s0 s1 = some q → (∀ (H : Heap) (locs : List Loc), va_P g.1 vwCl (jw_Mo g a_this a_this_isBlock a_this_isSeen a_this_lampX a_this_lampY a_this_right a_this_up a_this_keptRight a_this_keptUp a_this_name a_this_part a_this_codes a_this_above a_this_below a_this_length a_this_isMet v_thrown q.2 v_lamps v_squares v_intervals v_isBlock v_isSeen v_lampX v_lampY v_right v_up v_keptRight v_keptUp v_name v_part v_codes v_above v_below v_length v_isMet) H → va_S A s.heap H locs → ∀ ls : Array Slot, lv_has ls 8 [(6, .int q.1)] → W p l e jr_Mo_bounce s m ([.ref a_this, .int x1, .int x2, .int x3, .int x4, .int x5] : List Value).toArray below meth c H locs 0 0 Q (F0 m 76 ls [])) → W p l e jr_Mo_bounce s m ([.ref a_this, .int x1, .int x2, .int x3, .int x4, .int x5] : List Value).toArray below meth c H locs 0 0 Q (F0 m 70 ls [.int s1, .int s0]) := by
        intro v_isBounce z6 s0 s1 H locs hP hS ls hl q hR k
        rw [jf_Mo_bounce_b70] at hR
        refine lv_isub hx hb dX7_bounce_70 ?_
        refine jlet_i hR (fun y7_2 hR => ?_)
        try dsimp only at hR
        refine lv_istore (lv' := [(7, .int y7_2), (0, .ref a_this), (6, .int z6)]) hx hb dX7_bounce_71 hl (by decide) rfl (fun ls hl => ?_)
        refine lv_goto (tgt := 43) hx hb dX7_bounce_73 (by decide) ?_
        exact ih z6 y7_2 v_isBounce _ _ hP hS _ (lv_sub hl [1, 2, 0] rfl) _ hR k
      intro z6 z7 v_isBounce H locs hP hS ls hl q hR k
      rw [jf_Mo_bounce_L43] at hR
      refine lv_iload hx hb dX7_bounce_43 (lv_at hl 2 rfl) ?_
      refine lv_if_le (tgt := 76) hx hb dX7_bounce_45 (by decide) (fun c_3 => ?_) (fun c_3 => ?_)
      · replace hR := Eq.trans (Eq.symm (if_pos c_3)) hR
        cases hR
        exact k _ _ hP hS _ (lv_sub hl [1] rfl)
      · replace hR := Eq.trans (Eq.symm (if_neg c_3)) hR
        refine lv_aload_n hx hb dX7_bounce_48 rfl (lv_at hl 0 rfl) ?_
        refine lv_iload hx hb dX7_bounce_49 (lv_at hl 1 rfl) ?_
        obtain ⟨q_3, hq_3, hR⟩ := jbind hR
        try dsimp only at hR
        refine jcall_wi (ws' := jw_Mo g a_this a_this_isBlock a_this_isSeen a_this_lampX a_this_lampY a_this_right a_this_up a_this_keptRight a_this_keptUp a_this_name a_this_part a_this_codes a_this_above a_this_below a_this_length a_this_isMet v_thrown q_3.2 v_lamps v_squares v_intervals v_isBlock v_isSeen v_lampX v_lampY v_right v_up v_keptRight v_keptUp v_name v_part v_codes v_above v_below v_length v_isMet) (va_runV (As := [.int z6]) (rest := []) ⟨hx, hb, hml, hown, hts⟩ (jc_Mo_step l g a_this a_this_isBlock a_this_isSeen a_this_lampX a_this_lampY a_this_right a_this_up a_this_keptRight a_this_keptUp a_this_name a_this_part a_this_codes a_this_above a_this_below a_this_length a_this_isMet v_thrown v_isBounce v_lamps v_squares v_intervals v_isBlock v_isSeen v_lampX v_lampY v_right v_up v_keptRight v_keptUp v_name v_part v_codes v_above v_below v_length v_isMet z6 _ hq_3 _) (cwV 1 hts gX7_bounce_X7_step rfl rfl rfl (by decide +kernel) ⟨Nat.le_of_ble_eq_true rfl, Nat.le_of_ble_eq_true rfl⟩) (jpw_v hK hP (jD_to hD rfl) (ci := 7) (q0 := 0) rfl rfl) rfl rfl hl.1 rfl (lv_room (Nat.le_of_ble_eq_true rfl)) dX7_bounce_51 ⟨Nat.zero_le _, Nat.zero_le _⟩) hP (jD_to hD rfl) hS hA [0, 1, 2, 3, 4, 5, 6, 7, 8, 9, 10, 11, 12, 13, 14, 15] [] [0, 1, 2, 3, 4, 5, 6, 7, 8, 9, 10, 11, 12, 13, 14, 15] rfl (by decide) rfl (fun H locs hP hS => ?_)
        refine lv_istore (lv' := [(6, .int q_3.1), (0, .ref a_this), (7, .int z7)]) hx hb dX7_bounce_54 hl (by decide) rfl (fun ls hl => ?_)
        refine lv_iload hx hb dX7_bounce_56 (lv_at hl 2 rfl) ?_
        refine lv_aload_n hx hb dX7_bounce_58 rfl (lv_at hl 1 rfl) ?_
        refine va_get (D := g.1) (ci := 7) (v := .int q_3.2) (C := RX7) (T := TX7) (N := 20) hx hb hts w_X7 hown hK.1 hP 0 rfl rfl 2 (by decide) w_f74 (fun _ h9 => h9) rfl dX7_bounce_59 ?_
        refine lv_if_eq (tgt := 69) hx hb dX7_bounce_62 (by decide) (fun c_4 => ?_) (fun c_4 => ?_)
        · replace hR := Eq.trans (Eq.symm (if_pos c_4)) hR
          refine lv_iconst (v := 0) hx hb dX7_bounce_69 (by decide) ?_
          exact J70 q_3.2 q_3.1 z7 0 _ _ hP hS _ (lv_sub hl [1, 0] rfl) _ hR k
        · replace hR := Eq.trans (Eq.symm (if_neg c_4)) hR
          refine lv_iconst (v := 1) hx hb dX7_bounce_65 (by decide) ?_
          refine lv_goto (tgt := 70) hx hb dX7_bounce_66 (by decide) ?_
          exact J70 q_3.2 q_3.1 z7 1 _ _ hP hS _ (lv_sub hl [1, 0] rfl) _ hR k
  rw [jf_Mo_bounce] at hR
  refine lv_aload_n hx hb dX7_bounce_0 rfl (lv_at hl 0 rfl) ?_
  refine lv_iload_n hx hb dX7_bounce_1 rfl (lv_at hl 1 rfl) ?_
  refine lv_iload_n hx hb dX7_bounce_2 rfl (lv_at hl 2 rfl) ?_
  refine lv_iload_n hx hb dX7_bounce_3 rfl (lv_at hl 3 rfl) ?_
  refine lv_iload hx hb dX7_bounce_4 (lv_at hl 5 rfl) ?_
  refine lv_iconst (v := 0) hx hb dX7_bounce_6 (by decide) ?_
  refine lv_ldc (v := 100000) hx hb hown (hts (.constant RX7 102 (100000)) (by decide +kernel)) dX7_bounce_7 ?_
  refine jcall_ri (va_runS (As := [.int x5, .int 0, .int 100000]) (rest := [.int x3, .int x2, .int x1, .ref a_this]) ⟨hx, hb, hml, hown, hts⟩ (jc_Mo_in l g  x5 0 100000 _ rfl) (va_cwS 3 hts gX7_bounce_X7_in rfl rfl rfl (by decide +kernel) ⟨Nat.le_of_ble_eq_true rfl, Nat.le_of_ble_eq_true rfl⟩) (jpr_s hK (hP.sub (ws' := []) [] rfl)) rfl rfl hl.1 rfl (lv_room (Nat.le_of_ble_eq_true rfl)) dX7_bounce_9 ⟨Nat.zero_le _, Nat.zero_le _⟩) ?_
  obtain ⟨q_1, hq_1, hR⟩ := jbind hR
  try dsimp only at hR
  refine jcall_wi (ws' := jw_Mo g a_this a_this_isBlock a_this_isSeen a_this_lampX a_this_lampY a_this_right a_this_up a_this_keptRight a_this_keptUp a_this_name a_this_part a_this_codes a_this_above a_this_below a_this_length a_this_isMet q_1.2 v_isBounce v_lamps v_squares v_intervals v_isBlock v_isSeen v_lampX v_lampY v_right v_up v_keptRight v_keptUp v_name v_part v_codes v_above v_below v_length v_isMet) (va_runV (As := [.int x1, .int x2, .int x3, .int (jf_Mo_in x5 0 100000)]) (rest := []) ⟨hx, hb, hml, hown, hts⟩ (jc_Mo_asksShot l g a_this a_this_isBlock a_this_isSeen a_this_lampX a_this_lampY a_this_right a_this_up a_this_keptRight a_this_keptUp a_this_name a_this_part a_this_codes a_this_above a_this_below a_this_length a_this_isMet v_thrown v_isBounce v_lamps v_squares v_intervals v_isBlock v_isSeen v_lampX v_lampY v_right v_up v_keptRight v_keptUp v_name v_part v_codes v_above v_below v_length v_isMet x1 x2 x3 (jf_Mo_in x5 0 100000) _ hq_1 _) (cwV 4 hts gX7_bounce_X7_asksShot rfl rfl rfl (by decide +kernel) ⟨Nat.le_of_ble_eq_true rfl, Nat.le_of_ble_eq_true rfl⟩) (jpw_v hK hP (jD_to hD rfl) (ci := 7) (q0 := 0) rfl rfl) rfl rfl hl.1 rfl (lv_room (Nat.le_of_ble_eq_true rfl)) dX7_bounce_12 ⟨Nat.zero_le _, Nat.zero_le _⟩) hP (jD_to hD rfl) hS hA [0, 1, 2, 3, 4, 5, 6, 7, 8, 9, 10, 11, 12, 13, 14, 15] [] [0, 1, 2, 3, 4, 5, 6, 7, 8, 9, 10, 11, 12, 13, 14, 15] rfl (by decide) rfl (fun H locs hP hS => ?_)
  refine lv_if_ne (tgt := 20) hx hb dX7_bounce_15 (by decide) (fun c_1 => ?_) (fun c_1 => ?_)
  · replace hR := Eq.trans (Eq.symm (if_neg c_1)) hR
    refine lv_iload_n hx hb dX7_bounce_20 rfl (lv_at hl 1 rfl) ?_
    refine lv_iload_n hx hb dX7_bounce_21 rfl (lv_at hl 2 rfl) ?_
    refine lv_iload_n hx hb dX7_bounce_22 rfl (lv_at hl 3 rfl) ?_
    refine lv_iload hx hb dX7_bounce_23 (lv_at hl 4 rfl) ?_
    refine jcall_ri (va_runS (As := [.int x1, .int x2, .int x3, .int x4]) (rest := []) ⟨hx, hb, hml, hown, hts⟩ (jc_Mo_stateOf l g  x1 x2 x3 x4 _ rfl) (va_cwS 4 hts gX7_bounce_X7_stateOf rfl rfl rfl (by decide +kernel) ⟨Nat.le_of_ble_eq_true rfl, Nat.le_of_ble_eq_true rfl⟩) (jpr_s hK (hP.sub (ws' := []) [] rfl)) rfl rfl hl.1 rfl (lv_room (Nat.le_of_ble_eq_true rfl)) dX7_bounce_25 ⟨Nat.zero_le _, Nat.zero_le _⟩) ?_
    refine jlet_i hR (fun y6_1 hR => ?_)
    try dsimp only at hR
    refine lv_istore (lv' := [(6, .int y6_1), (0, .ref a_this), (1, .int x1), (2, .int x2), (3, .int x3), (4, .int x4), (5, .int x5)]) hx hb dX7_bounce_28 hl (by decide) rfl (fun ls hl => ?_)
    refine lv_iload hx hb dX7_bounce_30 (lv_at hl 6 rfl) ?_
    refine lv_aload_n hx hb dX7_bounce_32 rfl (lv_at hl 1 rfl) ?_
    refine lv_iload hx hb dX7_bounce_33 (lv_at hl 0 rfl) ?_
    obtain ⟨q_2, hq_2, hR⟩ := jbind hR
    try dsimp only at hR
    refine jcall_wi (ws' := jw_Mo g a_this a_this_isBlock a_this_isSeen a_this_lampX a_this_lampY a_this_right a_this_up a_this_keptRight a_this_keptUp a_this_name a_this_part a_this_codes a_this_above a_this_below a_this_length a_this_isMet q_1.2 q_2.2 v_lamps v_squares v_intervals v_isBlock v_isSeen v_lampX v_lampY v_right v_up v_keptRight v_keptUp v_name v_part v_codes v_above v_below v_length v_isMet) (va_runV (As := [.int y6_1]) (rest := [.int x5]) ⟨hx, hb, hml, hown, hts⟩ (jc_Mo_bouncesOf l g a_this a_this_isBlock a_this_isSeen a_this_lampX a_this_lampY a_this_right a_this_up a_this_keptRight a_this_keptUp a_this_name a_this_part a_this_codes a_this_above a_this_below a_this_length a_this_isMet q_1.2 v_isBounce v_lamps v_squares v_intervals v_isBlock v_isSeen v_lampX v_lampY v_right v_up v_keptRight v_keptUp v_name v_part v_codes v_above v_below v_length v_isMet y6_1 _ hq_2 _) (cwV 1 hts gX7_bounce_X7_bouncesOf rfl rfl rfl (by decide +kernel) ⟨Nat.le_of_ble_eq_true rfl, Nat.le_of_ble_eq_true rfl⟩) (jpw_v hK hP (jD_to hD rfl) (ci := 7) (q0 := 0) rfl rfl) rfl rfl hl.1 rfl (lv_room (Nat.le_of_ble_eq_true rfl)) dX7_bounce_35 ⟨Nat.zero_le _, Nat.zero_le _⟩) hP (jD_to hD rfl) hS hA [0, 1, 2, 3, 4, 5, 6, 7, 8, 9, 10, 11, 12, 13, 14, 15] [] [0, 1, 2, 3, 4, 5, 6, 7, 8, 9, 10, 11, 12, 13, 14, 15] rfl (by decide) rfl (fun H locs hP hS => ?_)
    by_cases c_2 : q_2.1 = 0
    · replace hR := Eq.trans (Eq.symm (if_pos c_2)) hR
      cases hR
    replace hR := Eq.trans (Eq.symm (if_neg c_2)) hR
    refine lv_irem hx hb dX7_bounce_38 c_2 ?_
    refine lv_iconst (v := 1) hx hb dX7_bounce_39 (by decide) ?_
    refine lv_iadd hx hb dX7_bounce_40 ?_
    refine jlet_i hR (fun y7_1 hR => ?_)
    try dsimp only at hR
    refine lv_istore (lv' := [(7, .int y7_1), (6, .int y6_1), (0, .ref a_this), (1, .int x1), (2, .int x2), (3, .int x3), (4, .int x4), (5, .int x5)]) hx hb dX7_bounce_41 hl (by decide) rfl (fun ls hl => ?_)
    obtain ⟨q_4, hq_4, hR⟩ := jbind hR
    try dsimp only at hR
    refine L43 jF q_1.2 y6_1 y7_1 q_2.2 _ _ hP hS _ (lv_sub hl [2, 1, 0] rfl) _ hq_4 (fun H locs hP hS ls hl => ?_)
    refine lv_iload hx hb dX7_bounce_76 (lv_at hl 0 rfl) ?_
    refine lv_bipush (v := 64) hx hb dX7_bounce_78 (by decide) ?_
    refine lv_idiv hx hb dX7_bounce_80 (by decide) ?_
    refine lv_iconst (v := 4) hx hb dX7_bounce_81 (by decide) ?_
    refine lv_irem hx hb dX7_bounce_82 (by decide) ?_
    obtain rfl := (Option.some.inj hR)
    exact fin _ _ _ _ _ rfl hP hS dX7_bounce_83
  · replace hR := Eq.trans (Eq.symm (if_pos c_1)) hR
    refine lv_iconst (v := 0) hx hb dX7_bounce_18 (by decide) ?_
    obtain rfl := (Option.some.inj hR)
    exact fin _ _ _ _ _ rfl hP hS dX7_bounce_19
def jf_Mo_state_L46 (v_isBlock : Nat → Int32) (z7 : Int32) : Nat → Int32 → Int32 → Int32 → Option (Int32 × Int32)
  | 0, _, _, _ => none
  | n + 1, z6, z8, v_isBounce =>
    if z7 ≤ z8 then (some (z6, v_isBounce)) else (Option.bind (jf_Mo_step v_isBounce v_isBlock z6) (fun q_3 => (jf_Mo_state_L46 v_isBlock z7 n) q_3.1 (z8 + 1) q_3.2))
def jf_Mo_state_b14 (v_thrown : Int32) (v_isBounce : Int32) (v_isBlock : Nat → Int32) (z1 : Int32) (z2 : Int32) (z3 : Int32) (z4 : Int32) (z5 : Int32) (s1 : Int32) (s2 : Int32) (s3 : Int32) (s4 : Int32) : Option (Int32 × Int32 × Int32) :=
  Option.bind (jf_Mo_asksShot v_thrown v_isBlock s1 s2 s3 s4) (fun q_1 => if q_1.1 = 0 then (some (0, q_1.2, v_isBounce)) else (jlet (jf_Mo_stateOf z1 z2 z3 z4) (fun y6_1 => Option.bind (jf_Mo_periodOf v_isBounce v_isBlock y6_1) (fun q_2 => if q_2.1 = 0 then none else jlet (z5 - z5 / q_2.1 * q_2.1) (fun y7_1 => Option.bind (jf_Mo_state_L46 v_isBlock y7_1 jF y6_1 0 q_2.2) (fun q_4 => some (q_4.1, q_1.2, q_4.2)))))))
def jf_Mo_state (v_thrown : Int32) (v_isBounce : Int32) (v_isBlock : Nat → Int32) (x1 : Int32) (x2 : Int32) (x3 : Int32) (x4 : Int32) (x5 : Int32) : Option (Int32 × Int32 × Int32) :=
  if x5 < 0 then (jf_Mo_state_b14 v_thrown v_isBounce v_isBlock x1 x2 x3 x4 x5 x1 x2 x3 0) else (jf_Mo_state_b14 v_thrown v_isBounce v_isBlock x1 x2 x3 x4 x5 x1 x2 x3 1)
abbrev jr_Mo_state : Room := { frames := 5, cells := 0, slots := 0, locals := 119 }
set_option maxRecDepth 100000 in
set_option maxHeartbeats 4000000 in
theorem jc_Mo_state (l : Launch) (g : jG) (a_this a_this_isBlock a_this_isSeen a_this_lampX a_this_lampY a_this_right a_this_up a_this_keptRight a_this_keptUp a_this_name a_this_part a_this_codes a_this_above a_this_below a_this_length a_this_isMet : Nat) (v_thrown : Int32) (v_isBounce : Int32) (v_lamps : Int32) (v_squares : Int32) (v_intervals : Int32) (v_isBlock : Nat → Int32) (v_isSeen : Nat → Int32) (v_lampX : Nat → Int32) (v_lampY : Nat → Int32) (v_right : Nat → Int32) (v_up : Nat → Int32) (v_keptRight : Nat → Int32) (v_keptUp : Nat → Int32) (v_name : Nat → Int32) (v_part : Nat → Int32) (v_codes : Nat → Int32) (v_above : Nat → Int32) (v_below : Nat → Int32) (v_length : Nat → Int32) (v_isMet : Nat → Int32) (x1 : Int32) (x2 : Int32) (x3 : Int32) (x4 : Int32) (x5 : Int32) (R : Int32 × Int32 × Int32) (hR : jf_Mo_state v_thrown v_isBounce v_isBlock x1 x2 x3 x4 x5 = some R) (sz : Nat) : Met l yX7_state wsX7_state jr_Mo_state (jPw g [.ref a_this, .int x1, .int x2, .int x3, .int x4, .int x5] (jw_Mo g a_this a_this_isBlock a_this_isSeen a_this_lampX a_this_lampY a_this_right a_this_up a_this_keptRight a_this_keptUp a_this_name a_this_part a_this_codes a_this_above a_this_below a_this_length a_this_isMet v_thrown v_isBounce v_lamps v_squares v_intervals v_isBlock v_isSeen v_lampX v_lampY v_right v_up v_keptRight v_keptUp v_name v_part v_codes v_above v_below v_length v_isMet) sz) (jQi g R.1 (jw_Mo g a_this a_this_isBlock a_this_isSeen a_this_lampX a_this_lampY a_this_right a_this_up a_this_keptRight a_this_keptUp a_this_name a_this_part a_this_codes a_this_above a_this_below a_this_length a_this_isMet R.2.1 R.2.2 v_lamps v_squares v_intervals v_isBlock v_isSeen v_lampX v_lampY v_right v_up v_keptRight v_keptUp v_name v_part v_codes v_above v_below v_length v_isMet) (va_A (jw_Mo g a_this a_this_isBlock a_this_isSeen a_this_lampX a_this_lampY a_this_right a_this_up a_this_keptRight a_this_keptUp a_this_name a_this_part a_this_codes a_this_above a_this_below a_this_length a_this_isMet v_thrown v_isBounce v_lamps v_squares v_intervals v_isBlock v_isSeen v_lampX v_lampY v_right v_up v_keptRight v_keptUp v_name v_part v_codes v_above v_below v_length v_isMet) sz)) 0 0 (va_A (jw_Mo g a_this a_this_isBlock a_this_isSeen a_this_lampX a_this_lampY a_this_right a_this_up a_this_keptRight a_this_keptUp a_this_name a_this_part a_this_codes a_this_above a_this_below a_this_length a_this_isMet v_thrown v_isBounce v_lamps v_squares v_intervals v_isBlock v_isSeen v_lampX v_lampY v_right v_up v_keptRight v_keptUp v_name v_part v_codes v_above v_below v_length v_isMet) sz) := by
  refine jm_wi (cc := cX7_state) (maxL := 9) (by decide +kernel) rfl (Nat.le_of_ble_eq_true rfl) ?_
  intro p e s m below meth c A Q hx hb hml hown hts hK hP hD hA hS fin ls hl
  have hl : lv_has ls 9 [(0, .ref a_this), (1, .int x1), (2, .int x2), (3, .int x3), (4, .int x4), (5, .int x5)] := hl
  have hown : s.vm.findClass RX7 = some m.cls := hown
  have L46 : ∀ (n : Nat) (v_thrown : Int32) (z7 : Int32) (z6 : Int32) (z8 : Int32) (v_isBounce : Int32) (H : Heap) (locs : List Loc), va_P g.1 vwCl (jw_Mo g a_this a_this_isBlock a_this_isSeen a_this_lampX a_this_lampY a_this_right a_this_up a_this_keptRight a_this_keptUp a_this_name a_this_part a_this_codes a_this_above a_this_below a_this_length a_this_isMet v_thrown v_isBounce v_lamps v_squares v_intervals v_isBlock v_isSeen v_lampX v_lampY v_right v_up v_keptRight v_keptUp v_name v_part v_codes v_above v_below v_length v_isMet) H → va_S A s.heap H locs → ∀ (ls : Array Slot), lv_has ls 9 [(0, .ref a_this), (6, .int z6), (7, .int z7), (8, .int z8)] → ∀ q, jf_Mo_state_L46 v_isBlock z7 n z6 z8 v_isBounce = some q → (∀ (H : Heap) (locs : List Loc), va_P g.1 vwCl (jw_Mo g a_this a_this_isBlock a_this_isSeen a_this_lampX a_this_lampY a_this_right a_this_up a_this_keptRight a_this_keptUp a_this_name a_this_part a_this_codes a_this_above a_this_below a_this_length a_this_isMet v_thrown q.2 v_lamps v_squares v_intervals v_isBlock v_isSeen v_lampX v_lampY v_right v_up v_keptRight v_keptUp v_name v_part v_codes v_above v_below v_length v_isMet) H → va_S A s.heap H locs → ∀ ls : Array Slot, lv_has ls 9 [(6, .int q.1)] → W p l e jr_Mo_state s m ([.ref a_this, .int x1, .int x2, .int x3, .int x4, .int x5] : List Value).toArray below meth c H locs 0 0 Q (F0 m 67 ls [])) → W p l e jr_Mo_state s m ([.ref a_this, .int x1, .int x2, .int x3, .int x4, .int x5] : List Value).toArray below meth c H locs 0 0 Q (F0 m 46 ls []) := by
    intro n v_thrown z7
    induction n with
    | zero =>
      intro z6 z8 v_isBounce H locs hP hS ls hl q hR k
      cases hR
    | succ n ih =>
      intro z6 z8 v_isBounce H locs hP hS ls hl q hR k
      rw [jf_Mo_state_L46] at hR
      refine lv_iload hx hb dX7_state_46 (lv_at hl 3 rfl) ?_
      refine lv_iload hx hb dX7_state_48 (lv_at hl 2 rfl) ?_
      refine lv_icmp_ge (tgt := 67) hx hb dX7_state_50 (by decide) (fun c_4 => ?_) (fun c_4 => ?_)
      · replace hR := Eq.trans (Eq.symm (if_pos c_4)) hR
        cases hR
        exact k _ _ hP hS _ (lv_sub hl [1] rfl)
      · replace hR := Eq.trans (Eq.symm (if_neg c_4)) hR
        refine lv_aload_n hx hb dX7_state_53 rfl (lv_at hl 0 rfl) ?_
        refine lv_iload hx hb dX7_state_54 (lv_at hl 1 rfl) ?_
        obtain ⟨q_3, hq_3, hR⟩ := jbind hR
        try dsimp only at hR
        refine jcall_wi (ws' := jw_Mo g a_this a_this_isBlock a_this_isSeen a_this_lampX a_this_lampY a_this_right a_this_up a_this_keptRight a_this_keptUp a_this_name a_this_part a_this_codes a_this_above a_this_below a_this_length a_this_isMet v_thrown q_3.2 v_lamps v_squares v_intervals v_isBlock v_isSeen v_lampX v_lampY v_right v_up v_keptRight v_keptUp v_name v_part v_codes v_above v_below v_length v_isMet) (va_runV (As := [.int z6]) (rest := []) ⟨hx, hb, hml, hown, hts⟩ (jc_Mo_step l g a_this a_this_isBlock a_this_isSeen a_this_lampX a_this_lampY a_this_right a_this_up a_this_keptRight a_this_keptUp a_this_name a_this_part a_this_codes a_this_above a_this_below a_this_length a_this_isMet v_thrown v_isBounce v_lamps v_squares v_intervals v_isBlock v_isSeen v_lampX v_lampY v_right v_up v_keptRight v_keptUp v_name v_part v_codes v_above v_below v_length v_isMet z6 _ hq_3 _) (cwV 1 hts gX7_state_X7_step rfl rfl rfl (by decide +kernel) ⟨Nat.le_of_ble_eq_true rfl, Nat.le_of_ble_eq_true rfl⟩) (jpw_v hK hP (jD_to hD rfl) (ci := 7) (q0 := 0) rfl rfl) rfl rfl hl.1 rfl (lv_room (Nat.le_of_ble_eq_true rfl)) dX7_state_56 ⟨Nat.zero_le _, Nat.zero_le _⟩) hP (jD_to hD rfl) hS hA [0, 1, 2, 3, 4, 5, 6, 7, 8, 9, 10, 11, 12, 13, 14, 15] [] [0, 1, 2, 3, 4, 5, 6, 7, 8, 9, 10, 11, 12, 13, 14, 15] rfl (by decide) rfl (fun H locs hP hS => ?_)
        refine lv_istore (lv' := [(6, .int q_3.1), (0, .ref a_this), (7, .int z7), (8, .int z8)]) hx hb dX7_state_59 hl (by decide) rfl (fun ls hl => ?_)
        refine lv_iinc (v := z8 + 1) (lv' := [(8, .int (z8 + 1)), (6, .int q_3.1), (0, .ref a_this), (7, .int z7)]) hx hb dX7_state_61 hl (k := 3) rfl (by first | rfl | decide) (by decide) rfl (fun ls hl => ?_)
        refine lv_goto (tgt := 46) hx hb dX7_state_64 (by decide) ?_
        exact ih q_3.1 (z8 + 1) q_3.2 _ _ hP hS _ (lv_sub hl [2, 1, 3, 0] rfl) _ hR k
  have J14 : ∀ (v_thrown : Int32) (v_isBounce : Int32) (z1 : Int32) (z2 : Int32) (z3 : Int32) (z4 : Int32) (z5 : Int32) (s1 : Int32) (s2 : Int32) (s3 : Int32) (s4 : Int32) (H : Heap) (locs : List Loc), va_P g.1 vwCl (jw_Mo g a_this a_this_isBlock a_this_isSeen a_this_lampX a_this_lampY a_this_right a_this_up a_this_keptRight a_this_keptUp a_this_name a_this_part a_this_codes a_this_above a_this_below a_this_length a_this_isMet v_thrown v_isBounce v_lamps v_squares v_intervals v_isBlock v_isSeen v_lampX v_lampY v_right v_up v_keptRight v_keptUp v_name v_part v_codes v_above v_below v_length v_isMet) H → va_S A s.heap H locs → ∀ (ls : Array Slot), lv_has ls 9 [(0, .ref a_this), (1, .int z1), (2, .int z2), (3, .int z3), (4, .int z4), (5, .int z5)] → jf_Mo_state_b14 v_thrown v_isBounce v_isBlock z1 z2 z3 z4 z5 s1 s2 s3 s4 = some R → W p l e jr_Mo_state s m ([.ref a_this, .int x1, .int x2, .int x3, .int x4, .int x5] : List Value).toArray below meth c H locs 0 0 Q (F0 m 14 ls [.int s4, .int s3, .int s2, .int s1, .ref a_this]) := by
    intro v_thrown v_isBounce z1 z2 z3 z4 z5 s1 s2 s3 s4 H locs hP hS ls hl hR
    rw [jf_Mo_state_b14] at hR
    obtain ⟨q_1, hq_1, hR⟩ := jbind hR
    try dsimp only at hR
    refine jcall_wi (ws' := jw_Mo g a_this a_this_isBlock a_this_isSeen a_this_lampX a_this_lampY a_this_right a_this_up a_this_keptRight a_this_keptUp a_this_name a_this_part a_this_codes a_this_above a_this_below a_this_length a_this_isMet q_1.2 v_isBounce v_lamps v_squares v_intervals v_isBlock v_isSeen v_lampX v_lampY v_right v_up v_keptRight v_keptUp v_name v_part v_codes v_above v_below v_length v_isMet) (va_runV (As := [.int s1, .int s2, .int s3, .int s4]) (rest := []) ⟨hx, hb, hml, hown, hts⟩ (jc_Mo_asksShot l g a_this a_this_isBlock a_this_isSeen a_this_lampX a_this_lampY a_this_right a_this_up a_this_keptRight a_this_keptUp a_this_name a_this_part a_this_codes a_this_above a_this_below a_this_length a_this_isMet v_thrown v_isBounce v_lamps v_squares v_intervals v_isBlock v_isSeen v_lampX v_lampY v_right v_up v_keptRight v_keptUp v_name v_part v_codes v_above v_below v_length v_isMet s1 s2 s3 s4 _ hq_1 _) (cwV 4 hts gX7_state_X7_asksShot rfl rfl rfl (by decide +kernel) ⟨Nat.le_of_ble_eq_true rfl, Nat.le_of_ble_eq_true rfl⟩) (jpw_v hK hP (jD_to hD rfl) (ci := 7) (q0 := 0) rfl rfl) rfl rfl hl.1 rfl (lv_room (Nat.le_of_ble_eq_true rfl)) dX7_state_14 ⟨Nat.zero_le _, Nat.zero_le _⟩) hP (jD_to hD rfl) hS hA [0, 1, 2, 3, 4, 5, 6, 7, 8, 9, 10, 11, 12, 13, 14, 15] [] [0, 1, 2, 3, 4, 5, 6, 7, 8, 9, 10, 11, 12, 13, 14, 15] rfl (by decide) rfl (fun H locs hP hS => ?_)
    refine lv_if_ne (tgt := 22) hx hb dX7_state_17 (by decide) (fun c_2 => ?_) (fun c_2 => ?_)
    · replace hR := Eq.trans (Eq.symm (if_neg c_2)) hR
      refine lv_iload_n hx hb dX7_state_22 rfl (lv_at hl 1 rfl) ?_
      refine lv_iload_n hx hb dX7_state_23 rfl (lv_at hl 2 rfl) ?_
      refine lv_iload_n hx hb dX7_state_24 rfl (lv_at hl 3 rfl) ?_
      refine lv_iload hx hb dX7_state_25 (lv_at hl 4 rfl) ?_
      refine jcall_ri (va_runS (As := [.int z1, .int z2, .int z3, .int z4]) (rest := []) ⟨hx, hb, hml, hown, hts⟩ (jc_Mo_stateOf l g  z1 z2 z3 z4 _ rfl) (va_cwS 4 hts gX7_state_X7_stateOf rfl rfl rfl (by decide +kernel) ⟨Nat.le_of_ble_eq_true rfl, Nat.le_of_ble_eq_true rfl⟩) (jpr_s hK (hP.sub (ws' := []) [] rfl)) rfl rfl hl.1 rfl (lv_room (Nat.le_of_ble_eq_true rfl)) dX7_state_27 ⟨Nat.zero_le _, Nat.zero_le _⟩) ?_
      refine jlet_i hR (fun y6_1 hR => ?_)
      try dsimp only at hR
      refine lv_istore (lv' := [(6, .int y6_1), (0, .ref a_this), (1, .int z1), (2, .int z2), (3, .int z3), (4, .int z4), (5, .int z5)]) hx hb dX7_state_30 hl (by decide) rfl (fun ls hl => ?_)
      refine lv_iload hx hb dX7_state_32 (lv_at hl 6 rfl) ?_
      refine lv_aload_n hx hb dX7_state_34 rfl (lv_at hl 1 rfl) ?_
      refine lv_iload hx hb dX7_state_35 (lv_at hl 0 rfl) ?_
      obtain ⟨q_2, hq_2, hR⟩ := jbind hR
      try dsimp only at hR
      refine jcall_wi (ws' := jw_Mo g a_this a_this_isBlock a_this_isSeen a_this_lampX a_this_lampY a_this_right a_this_up a_this_keptRight a_this_keptUp a_this_name a_this_part a_this_codes a_this_above a_this_below a_this_length a_this_isMet q_1.2 q_2.2 v_lamps v_squares v_intervals v_isBlock v_isSeen v_lampX v_lampY v_right v_up v_keptRight v_keptUp v_name v_part v_codes v_above v_below v_length v_isMet) (va_runV (As := [.int y6_1]) (rest := [.int z5]) ⟨hx, hb, hml, hown, hts⟩ (jc_Mo_periodOf l g a_this a_this_isBlock a_this_isSeen a_this_lampX a_this_lampY a_this_right a_this_up a_this_keptRight a_this_keptUp a_this_name a_this_part a_this_codes a_this_above a_this_below a_this_length a_this_isMet q_1.2 v_isBounce v_lamps v_squares v_intervals v_isBlock v_isSeen v_lampX v_lampY v_right v_up v_keptRight v_keptUp v_name v_part v_codes v_above v_below v_length v_isMet y6_1 _ hq_2 _) (cwV 1 hts gX7_state_X7_periodOf rfl rfl rfl (by decide +kernel) ⟨Nat.le_of_ble_eq_true rfl, Nat.le_of_ble_eq_true rfl⟩) (jpw_v hK hP (jD_to hD rfl) (ci := 7) (q0 := 0) rfl rfl) rfl rfl hl.1 rfl (lv_room (Nat.le_of_ble_eq_true rfl)) dX7_state_37 ⟨Nat.zero_le _, Nat.zero_le _⟩) hP (jD_to hD rfl) hS hA [0, 1, 2, 3, 4, 5, 6, 7, 8, 9, 10, 11, 12, 13, 14, 15] [] [0, 1, 2, 3, 4, 5, 6, 7, 8, 9, 10, 11, 12, 13, 14, 15] rfl (by decide) rfl (fun H locs hP hS => ?_)
      by_cases c_3 : q_2.1 = 0
      · replace hR := Eq.trans (Eq.symm (if_pos c_3)) hR
        cases hR
      replace hR := Eq.trans (Eq.symm (if_neg c_3)) hR
      refine lv_irem hx hb dX7_state_40 c_3 ?_
      refine jlet_i hR (fun y7_1 hR => ?_)
      try dsimp only at hR
      refine lv_istore (lv' := [(7, .int y7_1), (6, .int y6_1), (0, .ref a_this), (1, .int z1), (2, .int z2), (3, .int z3), (4, .int z4), (5, .int z5)]) hx hb dX7_state_41 hl (by decide) rfl (fun ls hl => ?_)
      refine lv_iconst (v := 0) hx hb dX7_state_43 (by decide) ?_
      refine lv_istore (lv' := [(8, .int 0), (7, .int y7_1), (6, .int y6_1), (0, .ref a_this), (1, .int z1), (2, .int z2), (3, .int z3), (4, .int z4), (5, .int z5)]) hx hb dX7_state_44 hl (by decide) rfl (fun ls hl => ?_)
      obtain ⟨q_4, hq_4, hR⟩ := jbind hR
      try dsimp only at hR
      refine L46 jF q_1.2 y7_1 y6_1 0 q_2.2 _ _ hP hS _ (lv_sub hl [3, 2, 1, 0] rfl) _ hq_4 (fun H locs hP hS ls hl => ?_)
      refine lv_iload hx hb dX7_state_67 (lv_at hl 0 rfl) ?_
      obtain rfl := (Option.some.inj hR)
      exact fin _ _ _ _ _ rfl hP hS dX7_state_69
    · replace hR := Eq.trans (Eq.symm (if_pos c_2)) hR
      refine lv_iconst (v := 0) hx hb dX7_state_20 (by decide) ?_
      obtain rfl := (Option.some.inj hR)
      exact fin _ _ _ _ _ rfl hP hS dX7_state_21
  rw [jf_Mo_state] at hR
  refine lv_aload_n hx hb dX7_state_0 rfl (lv_at hl 0 rfl) ?_
  refine lv_iload_n hx hb dX7_state_1 rfl (lv_at hl 1 rfl) ?_
  refine lv_iload_n hx hb dX7_state_2 rfl (lv_at hl 2 rfl) ?_
  refine lv_iload_n hx hb dX7_state_3 rfl (lv_at hl 3 rfl) ?_
  refine lv_iload hx hb dX7_state_4 (lv_at hl 5 rfl) ?_
  refine lv_if_lt (tgt := 13) hx hb dX7_state_6 (by decide) (fun c_1 => ?_) (fun c_1 => ?_)
  · replace hR := Eq.trans (Eq.symm (if_pos c_1)) hR
    refine lv_iconst (v := 0) hx hb dX7_state_13 (by decide) ?_
    exact J14 v_thrown v_isBounce x1 x2 x3 x4 x5 x1 x2 x3 0 _ _ hP hS _ (lv_sub hl [0, 1, 2, 3, 4, 5] rfl) hR
  · replace hR := Eq.trans (Eq.symm (if_neg c_1)) hR
    refine lv_iconst (v := 1) hx hb dX7_state_9 (by decide) ?_
    refine lv_goto (tgt := 14) hx hb dX7_state_10 (by decide) ?_
    exact J14 v_thrown v_isBounce x1 x2 x3 x4 x5 x1 x2 x3 1 _ _ hP hS _ (lv_sub hl [0, 1, 2, 3, 4, 5] rfl) hR
def jf_Mo_floors_b25 (self : Int32 → Int32 → Option Int32) (v_isBlock : Nat → Int32) (z2 : Int32) (s0 : Int32) (s1 : Int32) : Option Int32 :=
  jlet (s0 + s1) (fun y1_1 => self y1_1 (z2 + 1))
def jf_Mo_floors_L4 (v_isBlock : Nat → Int32) : Nat → Int32 → Int32 → Option Int32
  | 0, _, _ => none
  | n + 1, z1, z2 =>
    if 64 ≤ z2 then (some z1) else (if jin z2 64 = true then (if v_isBlock z2.toNatClampNeg = 0 then (jf_Mo_floors_b25 (jf_Mo_floors_L4 v_isBlock n) v_isBlock z2 z1 1) else (jf_Mo_floors_b25 (jf_Mo_floors_L4 v_isBlock n) v_isBlock z2 z1 0)) else none)
def jf_Mo_floors (v_isBlock : Nat → Int32) : Option Int32 :=
  Option.bind (jf_Mo_floors_L4 v_isBlock jF 0 0) (fun q_1 => some q_1)
abbrev jr_Mo_floors : Room := { frames := 0, cells := 0, slots := 0, locals := 0 }
set_option maxRecDepth 100000 in
set_option maxHeartbeats 4000000 in
theorem jc_Mo_floors (l : Launch) (g : jG) (a_this a_this_isBlock a_this_isSeen a_this_lampX a_this_lampY a_this_right a_this_up a_this_keptRight a_this_keptUp a_this_name a_this_part a_this_codes a_this_above a_this_below a_this_length a_this_isMet : Nat) (v_thrown : Int32) (v_isBounce : Int32) (v_lamps : Int32) (v_squares : Int32) (v_intervals : Int32) (v_isBlock : Nat → Int32) (v_isSeen : Nat → Int32) (v_lampX : Nat → Int32) (v_lampY : Nat → Int32) (v_right : Nat → Int32) (v_up : Nat → Int32) (v_keptRight : Nat → Int32) (v_keptUp : Nat → Int32) (v_name : Nat → Int32) (v_part : Nat → Int32) (v_codes : Nat → Int32) (v_above : Nat → Int32) (v_below : Nat → Int32) (v_length : Nat → Int32) (v_isMet : Nat → Int32) (R : Int32) (hR : jf_Mo_floors v_isBlock = some R) : Met l yX7_floors wsX7_floors jr_Mo_floors (jPr g [.ref a_this] (jw_Mo g a_this a_this_isBlock a_this_isSeen a_this_lampX a_this_lampY a_this_right a_this_up a_this_keptRight a_this_keptUp a_this_name a_this_part a_this_codes a_this_above a_this_below a_this_length a_this_isMet v_thrown v_isBounce v_lamps v_squares v_intervals v_isBlock v_isSeen v_lampX v_lampY v_right v_up v_keptRight v_keptUp v_name v_part v_codes v_above v_below v_length v_isMet)) (vp_Si (fun r => r = R)) 0 0 (fun _ => False) := by
  refine jm_ri (cc := cX7_floors) (maxL := 3) (by decide +kernel) rfl (Nat.le_of_ble_eq_true rfl) ?_
  intro p e s m below meth c Q hx hb hml hown hts hK hP fin ls hl
  have hl : lv_has ls 3 [(0, .ref a_this)] := hl
  have hown : s.vm.findClass RX7 = some m.cls := hown
  have w_X7 : ∀ w ∈ u_ws RX7 TX7 20, w ∈ wsX7_floors := by decide +kernel
  have w_f7 := hts (.fieldLink RX7 7 "BilliardryModel" "isBlock" "[Z") (by decide +kernel)
  have L4 : ∀ (n : Nat) (z1 : Int32) (z2 : Int32) (ls : Array Slot), lv_has ls 3 [(0, .ref a_this), (1, .int z1), (2, .int z2)] → ∀ q, jf_Mo_floors_L4 v_isBlock n z1 z2 = some q → (∀ ls : Array Slot, lv_has ls 3 [(1, .int q)] → W p l e jr_Mo_floors s m ([.ref a_this] : List Value).toArray below meth c s.heap [] 0 0 Q (F0 m 33 ls [])) → W p l e jr_Mo_floors s m ([.ref a_this] : List Value).toArray below meth c s.heap [] 0 0 Q (F0 m 4 ls []) := by
    intro n
    induction n with
    | zero =>
      intro z1 z2 ls hl q hR k
      cases hR
    | succ n ih =>
      have J25 : ∀ (z2 : Int32) (s0 : Int32) (s1 : Int32) (ls : Array Slot), lv_has ls 3 [(0, .ref a_this), (2, .int z2)] → ∀ q, jf_Mo_floors_b25 (jf_Mo_floors_L4 v_isBlock n) v_isBlock z2 s0 s1 = some q → (∀ ls : Array Slot, lv_has ls 3 [(1, .int q)] → W p l e jr_Mo_floors s m ([.ref a_this] : List Value).toArray below meth c s.heap [] 0 0 Q (F0 m 33 ls [])) → W p l e jr_Mo_floors s m ([.ref a_this] : List Value).toArray below meth c s.heap [] 0 0 Q (F0 m 25 ls [.int s1, .int s0]) := by
        intro z2 s0 s1 ls hl q hR k
        rw [jf_Mo_floors_b25] at hR
        refine lv_iadd hx hb dX7_floors_25 ?_
        refine jlet_i hR (fun y1_1 hR => ?_)
        try dsimp only at hR
        refine lv_istore_n (lv' := [(1, .int y1_1), (0, .ref a_this), (2, .int z2)]) hx hb dX7_floors_26 rfl hl (by decide) rfl (fun ls hl => ?_)
        refine lv_iinc (v := z2 + 1) (lv' := [(2, .int (z2 + 1)), (1, .int y1_1), (0, .ref a_this)]) hx hb dX7_floors_27 hl (k := 2) rfl (by first | rfl | decide) (by decide) rfl (fun ls hl => ?_)
        refine lv_goto (tgt := 4) hx hb dX7_floors_30 (by decide) ?_
        exact ih y1_1 (z2 + 1) _ (lv_sub hl [2, 1, 0] rfl) _ hR k
      intro z1 z2 ls hl q hR k
      rw [jf_Mo_floors_L4] at hR
      refine lv_iload_n hx hb dX7_floors_4 rfl (lv_at hl 2 rfl) ?_
      refine lv_bipush (v := 64) hx hb dX7_floors_5 (by decide) ?_
      refine lv_icmp_ge (tgt := 33) hx hb dX7_floors_7 (by decide) (fun c_1 => ?_) (fun c_1 => ?_)
      · replace hR := Eq.trans (Eq.symm (if_pos c_1)) hR
        cases hR
        exact k _ (lv_sub hl [1] rfl)
      · replace hR := Eq.trans (Eq.symm (if_neg c_1)) hR
        refine lv_iload_n hx hb dX7_floors_10 rfl (lv_at hl 1 rfl) ?_
        refine lv_aload_n hx hb dX7_floors_11 rfl (lv_at hl 0 rfl) ?_
        refine va_get (D := g.1) (ci := 7) (v := .ref a_this_isBlock) (C := RX7) (T := TX7) (N := 20) hx hb hts w_X7 hown hK.1 hP 0 rfl rfl 1 (by decide) w_f7 (fun _ h9 => h9) rfl dX7_floors_12 ?_
        refine lv_iload_n hx hb dX7_floors_15 rfl (lv_at hl 2 rfl) ?_
        by_cases c_2 : jin z2 64 = true
        case neg => replace hR := Eq.trans (Eq.symm (if_neg c_2)) hR; cases hR
        replace hR := Eq.trans (Eq.symm (if_pos c_2)) hR
        refine va_zald hx hb hK.1 hP 1 2 rfl rfl (jin_in c_2) dX7_floors_16 ?_
        refine lv_if_eq (tgt := 24) hx hb dX7_floors_17 (by decide) (fun c_3 => ?_) (fun c_3 => ?_)
        · replace hR := Eq.trans (Eq.symm (if_pos c_3)) hR
          refine lv_iconst (v := 1) hx hb dX7_floors_24 (by decide) ?_
          exact J25 z2 z1 1 _ (lv_sub hl [0, 2] rfl) _ hR k
        · replace hR := Eq.trans (Eq.symm (if_neg c_3)) hR
          refine lv_iconst (v := 0) hx hb dX7_floors_20 (by decide) ?_
          refine lv_goto (tgt := 25) hx hb dX7_floors_21 (by decide) ?_
          exact J25 z2 z1 0 _ (lv_sub hl [0, 2] rfl) _ hR k
  rw [jf_Mo_floors] at hR
  refine lv_iconst (v := 0) hx hb dX7_floors_0 (by decide) ?_
  refine lv_istore_n (lv' := [(1, .int 0), (0, .ref a_this)]) hx hb dX7_floors_1 rfl hl (by decide) rfl (fun ls hl => ?_)
  refine lv_iconst (v := 0) hx hb dX7_floors_2 (by decide) ?_
  refine lv_istore_n (lv' := [(2, .int 0), (1, .int 0), (0, .ref a_this)]) hx hb dX7_floors_3 rfl hl (by decide) rfl (fun ls hl => ?_)
  obtain ⟨q_1, hq_1, hR⟩ := jbind hR
  try dsimp only at hR
  refine L4 jF 0 0 _ (lv_sub hl [2, 1, 0] rfl) _ hq_1 (fun ls hl => ?_)
  refine lv_iload_n hx hb dX7_floors_33 rfl (lv_at hl 0 rfl) ?_
  exact fin _ _ _ (Option.some.inj hR) dX7_floors_34
def jf_Mo_paths_b71 (self : Int32 → Int32 → Int32 → (Nat → Int32) → Option (Int32 × Int32 × (Nat → Int32))) (v_isBounce : Int32) (v_isBlock : Nat → Int32) (v_isSeen : Nat → Int32) (z1 : Int32) (z2 : Int32) : Option (Int32 × Int32 × (Nat → Int32)) :=
  self z1 (z2 + 1) v_isBounce v_isSeen
def jf_Mo_paths_L46 (v_isBlock : Nat → Int32) (z1 : Int32) (z2 : Int32) : Nat → Int32 → Int32 → (Nat → Int32) → Option (Int32 × (Nat → Int32))
  | 0, _, _, _ => none
  | n + 1, z3, v_isBounce, v_isSeen =>
    if jin z3 512 = true then (if v_isSeen z3.toNatClampNeg = 0 then (if jin z3 512 = true then (Option.bind (jf_Mo_step v_isBounce v_isBlock z3) (fun q_2 => (jf_Mo_paths_L46 v_isBlock z1 z2 n) q_2.1 q_2.2 (upd v_isSeen z3.toNatClampNeg (1 &&& 1)))) else none) else (some (v_isBounce, v_isSeen))) else none
def jf_Mo_paths_L13 (v_isBlock : Nat → Int32) : Nat → Int32 → Int32 → Int32 → (Nat → Int32) → Option (Int32 × Int32 × (Nat → Int32))
  | 0, _, _, _, _ => none
  | n + 1, z1, z2, v_isBounce, v_isSeen =>
    if 512 ≤ z2 then (some (z1, v_isBounce, v_isSeen)) else (if jin (z2 - z2 / 64 * 64) 64 = true then (if v_isBlock (z2 - z2 / 64 * 64).toNatClampNeg = 0 then (if jin z2 512 = true then (if v_isSeen z2.toNatClampNeg = 0 then (Option.bind (jf_Mo_paths_L46 v_isBlock (z1 + 1) z2 jF z2 v_isBounce v_isSeen) (fun q_3 => jf_Mo_paths_b71 (jf_Mo_paths_L13 v_isBlock n) q_3.1 v_isBlock q_3.2 (z1 + 1) z2)) else (jf_Mo_paths_b71 (jf_Mo_paths_L13 v_isBlock n) v_isBounce v_isBlock v_isSeen z1 z2)) else none) else (jf_Mo_paths_b71 (jf_Mo_paths_L13 v_isBlock n) v_isBounce v_isBlock v_isSeen z1 z2)) else none)
def jf_Mo_paths (v_thrown : Int32) (v_isBounce : Int32) (v_isBlock : Nat → Int32) (v_isSeen : Nat → Int32) : Option (Int32 × Int32 × Int32 × (Nat → Int32)) :=
  Option.bind (jf_Mo_forgets v_isSeen) (fun q_1 => Option.bind (jf_Mo_paths_L13 v_isBlock jF 0 0 v_isBounce q_1) (fun q_4 => some (q_4.1, 0, q_4.2.1, q_4.2.2)))
abbrev jr_Mo_paths : Room := { frames := 4, cells := 0, slots := 0, locals := 96 }
set_option maxRecDepth 100000 in
set_option maxHeartbeats 4000000 in
theorem jc_Mo_paths (l : Launch) (g : jG) (a_this a_this_isBlock a_this_isSeen a_this_lampX a_this_lampY a_this_right a_this_up a_this_keptRight a_this_keptUp a_this_name a_this_part a_this_codes a_this_above a_this_below a_this_length a_this_isMet : Nat) (v_thrown : Int32) (v_isBounce : Int32) (v_lamps : Int32) (v_squares : Int32) (v_intervals : Int32) (v_isBlock : Nat → Int32) (v_isSeen : Nat → Int32) (v_lampX : Nat → Int32) (v_lampY : Nat → Int32) (v_right : Nat → Int32) (v_up : Nat → Int32) (v_keptRight : Nat → Int32) (v_keptUp : Nat → Int32) (v_name : Nat → Int32) (v_part : Nat → Int32) (v_codes : Nat → Int32) (v_above : Nat → Int32) (v_below : Nat → Int32) (v_length : Nat → Int32) (v_isMet : Nat → Int32) (R : Int32 × Int32 × Int32 × (Nat → Int32)) (hR : jf_Mo_paths v_thrown v_isBounce v_isBlock v_isSeen = some R) (sz : Nat) : Met l yX7_paths wsX7_paths jr_Mo_paths (jPw g [.ref a_this] (jw_Mo g a_this a_this_isBlock a_this_isSeen a_this_lampX a_this_lampY a_this_right a_this_up a_this_keptRight a_this_keptUp a_this_name a_this_part a_this_codes a_this_above a_this_below a_this_length a_this_isMet v_thrown v_isBounce v_lamps v_squares v_intervals v_isBlock v_isSeen v_lampX v_lampY v_right v_up v_keptRight v_keptUp v_name v_part v_codes v_above v_below v_length v_isMet) sz) (jQi g R.1 (jw_Mo g a_this a_this_isBlock a_this_isSeen a_this_lampX a_this_lampY a_this_right a_this_up a_this_keptRight a_this_keptUp a_this_name a_this_part a_this_codes a_this_above a_this_below a_this_length a_this_isMet R.2.1 R.2.2.1 v_lamps v_squares v_intervals v_isBlock R.2.2.2 v_lampX v_lampY v_right v_up v_keptRight v_keptUp v_name v_part v_codes v_above v_below v_length v_isMet) (va_A (jw_Mo g a_this a_this_isBlock a_this_isSeen a_this_lampX a_this_lampY a_this_right a_this_up a_this_keptRight a_this_keptUp a_this_name a_this_part a_this_codes a_this_above a_this_below a_this_length a_this_isMet v_thrown v_isBounce v_lamps v_squares v_intervals v_isBlock v_isSeen v_lampX v_lampY v_right v_up v_keptRight v_keptUp v_name v_part v_codes v_above v_below v_length v_isMet) sz)) 0 0 (va_A (jw_Mo g a_this a_this_isBlock a_this_isSeen a_this_lampX a_this_lampY a_this_right a_this_up a_this_keptRight a_this_keptUp a_this_name a_this_part a_this_codes a_this_above a_this_below a_this_length a_this_isMet v_thrown v_isBounce v_lamps v_squares v_intervals v_isBlock v_isSeen v_lampX v_lampY v_right v_up v_keptRight v_keptUp v_name v_part v_codes v_above v_below v_length v_isMet) sz) := by
  refine jm_wi (cc := cX7_paths) (maxL := 4) (by decide +kernel) rfl (Nat.le_of_ble_eq_true rfl) ?_
  intro p e s m below meth c A Q hx hb hml hown hts hK hP hD hA hS fin ls hl
  have hl : lv_has ls 4 [(0, .ref a_this)] := hl
  have hown : s.vm.findClass RX7 = some m.cls := hown
  have w_X7 : ∀ w ∈ u_ws RX7 TX7 20, w ∈ wsX7_paths := by decide +kernel
  have w_f60 := hts (.fieldLink RX7 60 "BilliardryModel" "thrown" "I") (by decide +kernel)
  have w_f7 := hts (.fieldLink RX7 7 "BilliardryModel" "isBlock" "[Z") (by decide +kernel)
  have w_f13 := hts (.fieldLink RX7 13 "BilliardryModel" "isSeen" "[Z") (by decide +kernel)
  have L13 : ∀ (n : Nat) (v_thrown : Int32) (z1 : Int32) (z2 : Int32) (v_isBounce : Int32) (v_isSeen : Nat → Int32) (H : Heap) (locs : List Loc), va_P g.1 vwCl (jw_Mo g a_this a_this_isBlock a_this_isSeen a_this_lampX a_this_lampY a_this_right a_this_up a_this_keptRight a_this_keptUp a_this_name a_this_part a_this_codes a_this_above a_this_below a_this_length a_this_isMet v_thrown v_isBounce v_lamps v_squares v_intervals v_isBlock v_isSeen v_lampX v_lampY v_right v_up v_keptRight v_keptUp v_name v_part v_codes v_above v_below v_length v_isMet) H → va_S A s.heap H locs → ∀ (ls : Array Slot), lv_has ls 4 [(0, .ref a_this), (1, .int z1), (2, .int z2)] → ∀ q, jf_Mo_paths_L13 v_isBlock n z1 z2 v_isBounce v_isSeen = some q → (∀ (H : Heap) (locs : List Loc), va_P g.1 vwCl (jw_Mo g a_this a_this_isBlock a_this_isSeen a_this_lampX a_this_lampY a_this_right a_this_up a_this_keptRight a_this_keptUp a_this_name a_this_part a_this_codes a_this_above a_this_below a_this_length a_this_isMet v_thrown q.2.1 v_lamps v_squares v_intervals v_isBlock q.2.2 v_lampX v_lampY v_right v_up v_keptRight v_keptUp v_name v_part v_codes v_above v_below v_length v_isMet) H → va_S A s.heap H locs → ∀ ls : Array Slot, lv_has ls 4 [(1, .int q.1)] → W p l e jr_Mo_paths s m ([.ref a_this] : List Value).toArray below meth c H locs 0 0 Q (F0 m 77 ls [])) → W p l e jr_Mo_paths s m ([.ref a_this] : List Value).toArray below meth c H locs 0 0 Q (F0 m 13 ls []) := by
    intro n v_thrown
    induction n with
    | zero =>
      intro z1 z2 v_isBounce v_isSeen H locs hP hS ls hl q hR k
      cases hR
    | succ n ih =>
      have J71 : ∀ (v_isBounce : Int32) (v_isSeen : Nat → Int32) (z1 : Int32) (z2 : Int32) (H : Heap) (locs : List Loc), va_P g.1 vwCl (jw_Mo g a_this a_this_isBlock a_this_isSeen a_this_lampX a_this_lampY a_this_right a_this_up a_this_keptRight a_this_keptUp a_this_name a_this_part a_this_codes a_this_above a_this_below a_this_length a_this_isMet v_thrown v_isBounce v_lamps v_squares v_intervals v_isBlock v_isSeen v_lampX v_lampY v_right v_up v_keptRight v_keptUp v_name v_part v_codes v_above v_below v_length v_isMet) H → va_S A s.heap H locs → ∀ (ls : Array Slot), lv_has ls 4 [(0, .ref a_this), (1, .int z1), (2, .int z2)] → ∀ q, jf_Mo_paths_b71 (jf_Mo_paths_L13 v_isBlock n) v_isBounce v_isBlock v_isSeen z1 z2 = some q → (∀ (H : Heap) (locs : List Loc), va_P g.1 vwCl (jw_Mo g a_this a_this_isBlock a_this_isSeen a_this_lampX a_this_lampY a_this_right a_this_up a_this_keptRight a_this_keptUp a_this_name a_this_part a_this_codes a_this_above a_this_below a_this_length a_this_isMet v_thrown q.2.1 v_lamps v_squares v_intervals v_isBlock q.2.2 v_lampX v_lampY v_right v_up v_keptRight v_keptUp v_name v_part v_codes v_above v_below v_length v_isMet) H → va_S A s.heap H locs → ∀ ls : Array Slot, lv_has ls 4 [(1, .int q.1)] → W p l e jr_Mo_paths s m ([.ref a_this] : List Value).toArray below meth c H locs 0 0 Q (F0 m 77 ls [])) → W p l e jr_Mo_paths s m ([.ref a_this] : List Value).toArray below meth c H locs 0 0 Q (F0 m 71 ls []) := by
        intro v_isBounce v_isSeen z1 z2 H locs hP hS ls hl q hR k
        rw [jf_Mo_paths_b71] at hR
        refine lv_iinc (v := z2 + 1) (lv' := [(2, .int (z2 + 1)), (0, .ref a_this), (1, .int z1)]) hx hb dX7_paths_71 hl (k := 2) rfl (by first | rfl | decide) (by decide) rfl (fun ls hl => ?_)
        refine lv_goto (tgt := 13) hx hb dX7_paths_74 (by decide) ?_
        exact ih z1 (z2 + 1) v_isBounce v_isSeen _ _ hP hS _ (lv_sub hl [1, 2, 0] rfl) _ hR k
      have L46 : ∀ (n : Nat) (v_thrown : Int32) (z1 : Int32) (z2 : Int32) (z3 : Int32) (v_isBounce : Int32) (v_isSeen : Nat → Int32) (H : Heap) (locs : List Loc), va_P g.1 vwCl (jw_Mo g a_this a_this_isBlock a_this_isSeen a_this_lampX a_this_lampY a_this_right a_this_up a_this_keptRight a_this_keptUp a_this_name a_this_part a_this_codes a_this_above a_this_below a_this_length a_this_isMet v_thrown v_isBounce v_lamps v_squares v_intervals v_isBlock v_isSeen v_lampX v_lampY v_right v_up v_keptRight v_keptUp v_name v_part v_codes v_above v_below v_length v_isMet) H → va_S A s.heap H locs → ∀ (ls : Array Slot), lv_has ls 4 [(0, .ref a_this), (1, .int z1), (2, .int z2), (3, .int z3)] → ∀ q, jf_Mo_paths_L46 v_isBlock z1 z2 n z3 v_isBounce v_isSeen = some q → (∀ (H : Heap) (locs : List Loc), va_P g.1 vwCl (jw_Mo g a_this a_this_isBlock a_this_isSeen a_this_lampX a_this_lampY a_this_right a_this_up a_this_keptRight a_this_keptUp a_this_name a_this_part a_this_codes a_this_above a_this_below a_this_length a_this_isMet v_thrown q.1 v_lamps v_squares v_intervals v_isBlock q.2 v_lampX v_lampY v_right v_up v_keptRight v_keptUp v_name v_part v_codes v_above v_below v_length v_isMet) H → va_S A s.heap H locs → ∀ ls : Array Slot, lv_has ls 4 [(0, .ref a_this), (1, .int z1), (2, .int z2)] → W p l e jr_Mo_paths s m ([.ref a_this] : List Value).toArray below meth c H locs 0 0 Q (F0 m 71 ls [])) → W p l e jr_Mo_paths s m ([.ref a_this] : List Value).toArray below meth c H locs 0 0 Q (F0 m 46 ls []) := by
        intro n v_thrown z1 z2
        induction n with
        | zero =>
          intro z3 v_isBounce v_isSeen H locs hP hS ls hl q hR k
          cases hR
        | succ n ih =>
          intro z3 v_isBounce v_isSeen H locs hP hS ls hl q hR k
          rw [jf_Mo_paths_L46] at hR
          refine lv_aload_n hx hb dX7_paths_46 rfl (lv_at hl 0 rfl) ?_
          refine va_get (D := g.1) (ci := 7) (v := .ref a_this_isSeen) (C := RX7) (T := TX7) (N := 20) hx hb hts w_X7 hown hK.1 hP 0 rfl rfl 3 (by decide) w_f13 (fun _ h9 => h9) rfl dX7_paths_47 ?_
          refine lv_iload_n hx hb dX7_paths_50 rfl (lv_at hl 3 rfl) ?_
          by_cases c_6 : jin z3 512 = true
          case neg => replace hR := Eq.trans (Eq.symm (if_neg c_6)) hR; cases hR
          replace hR := Eq.trans (Eq.symm (if_pos c_6)) hR
          refine va_zald hx hb hK.1 hP 2 2 rfl rfl (jin_in c_6) dX7_paths_51 ?_
          refine lv_if_ne (tgt := 71) hx hb dX7_paths_52 (by decide) (fun c_7 => ?_) (fun c_7 => ?_)
          · replace hR := Eq.trans (Eq.symm (if_neg c_7)) hR
            cases hR
            exact k _ _ hP hS _ (lv_sub hl [0, 1, 2] rfl)
          · replace hR := Eq.trans (Eq.symm (if_pos c_7)) hR
            refine lv_aload_n hx hb dX7_paths_55 rfl (lv_at hl 0 rfl) ?_
            refine va_get (D := g.1) (ci := 7) (v := .ref a_this_isSeen) (C := RX7) (T := TX7) (N := 20) hx hb hts w_X7 hown hK.1 hP 0 rfl rfl 3 (by decide) w_f13 (fun _ h9 => h9) rfl dX7_paths_56 ?_
            refine lv_iload_n hx hb dX7_paths_59 rfl (lv_at hl 3 rfl) ?_
            refine lv_iconst (v := 1) hx hb dX7_paths_60 (by decide) ?_
            by_cases c_8 : jin z3 512 = true
            case neg => replace hR := Eq.trans (Eq.symm (if_neg c_8)) hR; cases hR
            replace hR := Eq.trans (Eq.symm (if_pos c_8)) hR
            refine va_zast hx hb hK.1 hP (jD_to hD rfl) hS 2 2 rfl rfl (jin_in c_8) dX7_paths_61 (fun H locs hP _ hS => ?_)
            have hP : va_P g.1 vwCl (jw_Mo g a_this a_this_isBlock a_this_isSeen a_this_lampX a_this_lampY a_this_right a_this_up a_this_keptRight a_this_keptUp a_this_name a_this_part a_this_codes a_this_above a_this_below a_this_length a_this_isMet v_thrown v_isBounce v_lamps v_squares v_intervals v_isBlock (upd v_isSeen z3.toNatClampNeg (1 &&& 1)) v_lampX v_lampY v_right v_up v_keptRight v_keptUp v_name v_part v_codes v_above v_below v_length v_isMet) H := hP
            refine lv_aload_n hx hb dX7_paths_62 rfl (lv_at hl 0 rfl) ?_
            refine lv_iload_n hx hb dX7_paths_63 rfl (lv_at hl 3 rfl) ?_
            obtain ⟨q_2, hq_2, hR⟩ := jbind hR
            try dsimp only at hR
            refine jcall_wi (ws' := jw_Mo g a_this a_this_isBlock a_this_isSeen a_this_lampX a_this_lampY a_this_right a_this_up a_this_keptRight a_this_keptUp a_this_name a_this_part a_this_codes a_this_above a_this_below a_this_length a_this_isMet v_thrown q_2.2 v_lamps v_squares v_intervals v_isBlock (upd v_isSeen z3.toNatClampNeg (1 &&& 1)) v_lampX v_lampY v_right v_up v_keptRight v_keptUp v_name v_part v_codes v_above v_below v_length v_isMet) (va_runV (As := [.int z3]) (rest := []) ⟨hx, hb, hml, hown, hts⟩ (jc_Mo_step l g a_this a_this_isBlock a_this_isSeen a_this_lampX a_this_lampY a_this_right a_this_up a_this_keptRight a_this_keptUp a_this_name a_this_part a_this_codes a_this_above a_this_below a_this_length a_this_isMet v_thrown v_isBounce v_lamps v_squares v_intervals v_isBlock (upd v_isSeen z3.toNatClampNeg (1 &&& 1)) v_lampX v_lampY v_right v_up v_keptRight v_keptUp v_name v_part v_codes v_above v_below v_length v_isMet z3 _ hq_2 _) (cwV 1 hts gX7_paths_X7_step rfl rfl rfl (by decide +kernel) ⟨Nat.le_of_ble_eq_true rfl, Nat.le_of_ble_eq_true rfl⟩) (jpw_v hK hP (jD_to hD rfl) (ci := 7) (q0 := 0) rfl rfl) rfl rfl hl.1 rfl (lv_room (Nat.le_of_ble_eq_true rfl)) dX7_paths_64 ⟨Nat.zero_le _, Nat.zero_le _⟩) hP (jD_to hD rfl) hS hA [0, 1, 2, 3, 4, 5, 6, 7, 8, 9, 10, 11, 12, 13, 14, 15] [] [0, 1, 2, 3, 4, 5, 6, 7, 8, 9, 10, 11, 12, 13, 14, 15] rfl (by decide) rfl (fun H locs hP hS => ?_)
            refine lv_istore_n (lv' := [(3, .int q_2.1), (0, .ref a_this), (1, .int z1), (2, .int z2)]) hx hb dX7_paths_67 rfl hl (by decide) rfl (fun ls hl => ?_)
            refine lv_goto (tgt := 46) hx hb dX7_paths_68 (by decide) ?_
            exact ih q_2.1 q_2.2 (upd v_isSeen z3.toNatClampNeg (1 &&& 1)) _ _ hP hS _ (lv_sub hl [1, 2, 3, 0] rfl) _ hR k
      intro z1 z2 v_isBounce v_isSeen H locs hP hS ls hl q hR k
      rw [jf_Mo_paths_L13] at hR
      refine lv_iload_n hx hb dX7_paths_13 rfl (lv_at hl 2 rfl) ?_
      refine lv_sipush (v := 512) hx hb dX7_paths_14 (by decide) ?_
      refine lv_icmp_ge (tgt := 77) hx hb dX7_paths_17 (by decide) (fun c_1 => ?_) (fun c_1 => ?_)
      · replace hR := Eq.trans (Eq.symm (if_pos c_1)) hR
        cases hR
        exact k _ _ hP hS _ (lv_sub hl [1] rfl)
      · replace hR := Eq.trans (Eq.symm (if_neg c_1)) hR
        refine lv_aload_n hx hb dX7_paths_20 rfl (lv_at hl 0 rfl) ?_
        refine va_get (D := g.1) (ci := 7) (v := .ref a_this_isBlock) (C := RX7) (T := TX7) (N := 20) hx hb hts w_X7 hown hK.1 hP 0 rfl rfl 1 (by decide) w_f7 (fun _ h9 => h9) rfl dX7_paths_21 ?_
        refine lv_iload_n hx hb dX7_paths_24 rfl (lv_at hl 2 rfl) ?_
        refine lv_bipush (v := 64) hx hb dX7_paths_25 (by decide) ?_
        refine lv_irem hx hb dX7_paths_27 (by decide) ?_
        by_cases c_2 : jin (z2 - z2 / 64 * 64) 64 = true
        case neg => replace hR := Eq.trans (Eq.symm (if_neg c_2)) hR; cases hR
        replace hR := Eq.trans (Eq.symm (if_pos c_2)) hR
        refine va_zald hx hb hK.1 hP 1 2 rfl rfl (jin_in c_2) dX7_paths_28 ?_
        refine lv_if_ne (tgt := 71) hx hb dX7_paths_29 (by decide) (fun c_3 => ?_) (fun c_3 => ?_)
        · replace hR := Eq.trans (Eq.symm (if_neg c_3)) hR
          exact J71 v_isBounce v_isSeen z1 z2 _ _ hP hS _ (lv_sub hl [0, 1, 2] rfl) _ hR k
        · replace hR := Eq.trans (Eq.symm (if_pos c_3)) hR
          refine lv_aload_n hx hb dX7_paths_32 rfl (lv_at hl 0 rfl) ?_
          refine va_get (D := g.1) (ci := 7) (v := .ref a_this_isSeen) (C := RX7) (T := TX7) (N := 20) hx hb hts w_X7 hown hK.1 hP 0 rfl rfl 3 (by decide) w_f13 (fun _ h9 => h9) rfl dX7_paths_33 ?_
          refine lv_iload_n hx hb dX7_paths_36 rfl (lv_at hl 2 rfl) ?_
          by_cases c_4 : jin z2 512 = true
          case neg => replace hR := Eq.trans (Eq.symm (if_neg c_4)) hR; cases hR
          replace hR := Eq.trans (Eq.symm (if_pos c_4)) hR
          refine va_zald hx hb hK.1 hP 2 2 rfl rfl (jin_in c_4) dX7_paths_37 ?_
          refine lv_if_ne (tgt := 71) hx hb dX7_paths_38 (by decide) (fun c_5 => ?_) (fun c_5 => ?_)
          · replace hR := Eq.trans (Eq.symm (if_neg c_5)) hR
            exact J71 v_isBounce v_isSeen z1 z2 _ _ hP hS _ (lv_sub hl [0, 1, 2] rfl) _ hR k
          · replace hR := Eq.trans (Eq.symm (if_pos c_5)) hR
            refine lv_iinc (v := z1 + 1) (lv' := [(1, .int (z1 + 1)), (0, .ref a_this), (2, .int z2)]) hx hb dX7_paths_41 hl (k := 1) rfl (by first | rfl | decide) (by decide) rfl (fun ls hl => ?_)
            refine lv_iload_n hx hb dX7_paths_44 rfl (lv_at hl 2 rfl) ?_
            refine lv_istore_n (lv' := [(3, .int z2), (1, .int (z1 + 1)), (0, .ref a_this), (2, .int z2)]) hx hb dX7_paths_45 rfl hl (by decide) rfl (fun ls hl => ?_)
            obtain ⟨q_3, hq_3, hR⟩ := jbind hR
            try dsimp only at hR
            refine L46 jF v_thrown (z1 + 1) z2 z2 v_isBounce v_isSeen _ _ hP hS _ (lv_sub hl [2, 1, 3, 0] rfl) _ hq_3 (fun H locs hP hS ls hl => ?_)
            exact J71 q_3.1 q_3.2 (z1 + 1) z2 _ _ hP hS _ (lv_sub hl [0, 1, 2] rfl) _ hR k
  rw [jf_Mo_paths] at hR
  refine lv_aload_n hx hb dX7_paths_0 rfl (lv_at hl 0 rfl) ?_
  refine lv_iconst (v := 0) hx hb dX7_paths_1 (by decide) ?_
  refine va_put (D := g.1) (ci := 7) (v := .int 0) (ty := .int) (C := RX7) (T := TX7) (N := 20) hx hb hts w_X7 tyX7 tyX7_ok nmX7 hown hK.1 hP (jD_to hD rfl) hS 0 rfl rfl 0 (by decide) w_f60 (fun _ h9 => h9) rfl (by decide +kernel) rfl rfl (Nat.le_of_ble_eq_true rfl) dX7_paths_2 (fun H locs hP _ hS => ?_)
  have hP : va_P g.1 vwCl (jw_Mo g a_this a_this_isBlock a_this_isSeen a_this_lampX a_this_lampY a_this_right a_this_up a_this_keptRight a_this_keptUp a_this_name a_this_part a_this_codes a_this_above a_this_below a_this_length a_this_isMet 0 v_isBounce v_lamps v_squares v_intervals v_isBlock v_isSeen v_lampX v_lampY v_right v_up v_keptRight v_keptUp v_name v_part v_codes v_above v_below v_length v_isMet) H := hP
  refine lv_aload_n hx hb dX7_paths_5 rfl (lv_at hl 0 rfl) ?_
  obtain ⟨q_1, hq_1, hR⟩ := jbind hR
  try dsimp only at hR
  refine jcall_wv (ws' := jw_Mo g a_this a_this_isBlock a_this_isSeen a_this_lampX a_this_lampY a_this_right a_this_up a_this_keptRight a_this_keptUp a_this_name a_this_part a_this_codes a_this_above a_this_below a_this_length a_this_isMet 0 v_isBounce v_lamps v_squares v_intervals v_isBlock q_1 v_lampX v_lampY v_right v_up v_keptRight v_keptUp v_name v_part v_codes v_above v_below v_length v_isMet) (va_runV (As := []) (rest := []) ⟨hx, hb, hml, hown, hts⟩ (jc_Mo_forgets l g a_this a_this_isBlock a_this_isSeen a_this_lampX a_this_lampY a_this_right a_this_up a_this_keptRight a_this_keptUp a_this_name a_this_part a_this_codes a_this_above a_this_below a_this_length a_this_isMet 0 v_isBounce v_lamps v_squares v_intervals v_isBlock v_isSeen v_lampX v_lampY v_right v_up v_keptRight v_keptUp v_name v_part v_codes v_above v_below v_length v_isMet _ hq_1 _) (cwV 0 hts gX7_paths_X7_forgets rfl rfl rfl (by decide +kernel) ⟨Nat.le_of_ble_eq_true rfl, Nat.le_of_ble_eq_true rfl⟩) (jpw_v hK hP (jD_to hD rfl) (ci := 7) (q0 := 0) rfl rfl) rfl rfl hl.1 rfl (lv_room (Nat.le_of_ble_eq_true rfl)) dX7_paths_6 ⟨Nat.zero_le _, Nat.zero_le _⟩) hP (jD_to hD rfl) hS hA [0, 1, 2, 3, 4, 5, 6, 7, 8, 9, 10, 11, 12, 13, 14, 15] [] [0, 1, 2, 3, 4, 5, 6, 7, 8, 9, 10, 11, 12, 13, 14, 15] rfl (by decide) rfl (fun H locs hP hS => ?_)
  refine lv_iconst (v := 0) hx hb dX7_paths_9 (by decide) ?_
  refine lv_istore_n (lv' := [(1, .int 0), (0, .ref a_this)]) hx hb dX7_paths_10 rfl hl (by decide) rfl (fun ls hl => ?_)
  refine lv_iconst (v := 0) hx hb dX7_paths_11 (by decide) ?_
  refine lv_istore_n (lv' := [(2, .int 0), (1, .int 0), (0, .ref a_this)]) hx hb dX7_paths_12 rfl hl (by decide) rfl (fun ls hl => ?_)
  obtain ⟨q_4, hq_4, hR⟩ := jbind hR
  try dsimp only at hR
  refine L13 jF 0 0 0 v_isBounce q_1 _ _ hP hS _ (lv_sub hl [2, 1, 0] rfl) _ hq_4 (fun H locs hP hS ls hl => ?_)
  refine lv_iload_n hx hb dX7_paths_77 rfl (lv_at hl 0 rfl) ?_
  obtain rfl := (Option.some.inj hR)
  exact fin _ _ _ _ _ rfl hP hS dX7_paths_78
def jf_Mo_mean (v_thrown : Int32) (v_isBounce : Int32) (v_isBlock : Nat → Int32) (v_isSeen : Nat → Int32) : Option (UInt32 × Int32 × Int32 × (Nat → Int32)) :=
  Option.bind (jf_Mo_paths v_thrown v_isBounce v_isBlock v_isSeen) (fun q_1 => if q_1.1 = 0 then (some (FP.fconst0, q_1.2.1, q_1.2.2.1, q_1.2.2.2)) else (Option.bind (jf_Mo_floors v_isBlock) (fun q_2 => if jnn (FP.fdiv (FP.i2f (8 * q_2)) (FP.i2f q_1.1)) = true then (some (FP.fdiv (FP.i2f (8 * q_2)) (FP.i2f q_1.1), q_1.2.1, q_1.2.2.1, q_1.2.2.2)) else none)))
abbrev jr_Mo_mean : Room := { frames := 5, cells := 0, slots := 0, locals := 119 }
set_option maxRecDepth 100000 in
set_option maxHeartbeats 4000000 in
theorem jc_Mo_mean (l : Launch) (g : jG) (a_this a_this_isBlock a_this_isSeen a_this_lampX a_this_lampY a_this_right a_this_up a_this_keptRight a_this_keptUp a_this_name a_this_part a_this_codes a_this_above a_this_below a_this_length a_this_isMet : Nat) (v_thrown : Int32) (v_isBounce : Int32) (v_lamps : Int32) (v_squares : Int32) (v_intervals : Int32) (v_isBlock : Nat → Int32) (v_isSeen : Nat → Int32) (v_lampX : Nat → Int32) (v_lampY : Nat → Int32) (v_right : Nat → Int32) (v_up : Nat → Int32) (v_keptRight : Nat → Int32) (v_keptUp : Nat → Int32) (v_name : Nat → Int32) (v_part : Nat → Int32) (v_codes : Nat → Int32) (v_above : Nat → Int32) (v_below : Nat → Int32) (v_length : Nat → Int32) (v_isMet : Nat → Int32) (R : UInt32 × Int32 × Int32 × (Nat → Int32)) (hR : jf_Mo_mean v_thrown v_isBounce v_isBlock v_isSeen = some R) (sz : Nat) : Met l yX7_mean wsX7_mean jr_Mo_mean (jPw g [.ref a_this] (jw_Mo g a_this a_this_isBlock a_this_isSeen a_this_lampX a_this_lampY a_this_right a_this_up a_this_keptRight a_this_keptUp a_this_name a_this_part a_this_codes a_this_above a_this_below a_this_length a_this_isMet v_thrown v_isBounce v_lamps v_squares v_intervals v_isBlock v_isSeen v_lampX v_lampY v_right v_up v_keptRight v_keptUp v_name v_part v_codes v_above v_below v_length v_isMet) sz) (jQf g R.1 (jw_Mo g a_this a_this_isBlock a_this_isSeen a_this_lampX a_this_lampY a_this_right a_this_up a_this_keptRight a_this_keptUp a_this_name a_this_part a_this_codes a_this_above a_this_below a_this_length a_this_isMet R.2.1 R.2.2.1 v_lamps v_squares v_intervals v_isBlock R.2.2.2 v_lampX v_lampY v_right v_up v_keptRight v_keptUp v_name v_part v_codes v_above v_below v_length v_isMet) (va_A (jw_Mo g a_this a_this_isBlock a_this_isSeen a_this_lampX a_this_lampY a_this_right a_this_up a_this_keptRight a_this_keptUp a_this_name a_this_part a_this_codes a_this_above a_this_below a_this_length a_this_isMet v_thrown v_isBounce v_lamps v_squares v_intervals v_isBlock v_isSeen v_lampX v_lampY v_right v_up v_keptRight v_keptUp v_name v_part v_codes v_above v_below v_length v_isMet) sz)) 0 0 (va_A (jw_Mo g a_this a_this_isBlock a_this_isSeen a_this_lampX a_this_lampY a_this_right a_this_up a_this_keptRight a_this_keptUp a_this_name a_this_part a_this_codes a_this_above a_this_below a_this_length a_this_isMet v_thrown v_isBounce v_lamps v_squares v_intervals v_isBlock v_isSeen v_lampX v_lampY v_right v_up v_keptRight v_keptUp v_name v_part v_codes v_above v_below v_length v_isMet) sz) := by
  refine jm_wf (cc := cX7_mean) (maxL := 2) (by decide +kernel) rfl (Nat.le_of_ble_eq_true rfl) ?_
  intro p e s m below meth c A Q hx hb hml hown hts hK hP hD hA hS fin ls hl
  have hl : lv_has ls 2 [(0, .ref a_this)] := hl
  have hown : s.vm.findClass RX7 = some m.cls := hown
  rw [jf_Mo_mean] at hR
  refine lv_aload_n hx hb dX7_mean_0 rfl (lv_at hl 0 rfl) ?_
  obtain ⟨q_1, hq_1, hR⟩ := jbind hR
  try dsimp only at hR
  refine jcall_wi (ws' := jw_Mo g a_this a_this_isBlock a_this_isSeen a_this_lampX a_this_lampY a_this_right a_this_up a_this_keptRight a_this_keptUp a_this_name a_this_part a_this_codes a_this_above a_this_below a_this_length a_this_isMet q_1.2.1 q_1.2.2.1 v_lamps v_squares v_intervals v_isBlock q_1.2.2.2 v_lampX v_lampY v_right v_up v_keptRight v_keptUp v_name v_part v_codes v_above v_below v_length v_isMet) (va_runV (As := []) (rest := []) ⟨hx, hb, hml, hown, hts⟩ (jc_Mo_paths l g a_this a_this_isBlock a_this_isSeen a_this_lampX a_this_lampY a_this_right a_this_up a_this_keptRight a_this_keptUp a_this_name a_this_part a_this_codes a_this_above a_this_below a_this_length a_this_isMet v_thrown v_isBounce v_lamps v_squares v_intervals v_isBlock v_isSeen v_lampX v_lampY v_right v_up v_keptRight v_keptUp v_name v_part v_codes v_above v_below v_length v_isMet _ hq_1 _) (cwV 0 hts gX7_mean_X7_paths rfl rfl rfl (by decide +kernel) ⟨Nat.le_of_ble_eq_true rfl, Nat.le_of_ble_eq_true rfl⟩) (jpw_v hK hP (jD_to hD rfl) (ci := 7) (q0 := 0) rfl rfl) rfl rfl hl.1 rfl (lv_room (Nat.le_of_ble_eq_true rfl)) dX7_mean_1 ⟨Nat.zero_le _, Nat.zero_le _⟩) hP (jD_to hD rfl) hS hA [0, 1, 2, 3, 4, 5, 6, 7, 8, 9, 10, 11, 12, 13, 14, 15] [] [0, 1, 2, 3, 4, 5, 6, 7, 8, 9, 10, 11, 12, 13, 14, 15] rfl (by decide) rfl (fun H locs hP hS => ?_)
  refine lv_istore_n (lv' := [(1, .int q_1.1), (0, .ref a_this)]) hx hb dX7_mean_4 rfl hl (by decide) rfl (fun ls hl => ?_)
  refine lv_iload_n hx hb dX7_mean_5 rfl (lv_at hl 0 rfl) ?_
  refine lv_if_ne (tgt := 13) hx hb dX7_mean_6 (by decide) (fun c_1 => ?_) (fun c_1 => ?_)
  · replace hR := Eq.trans (Eq.symm (if_neg c_1)) hR
    refine lv_bipush (v := 8) hx hb dX7_mean_13 (by decide) ?_
    refine lv_aload_n hx hb dX7_mean_15 rfl (lv_at hl 1 rfl) ?_
    obtain ⟨q_2, hq_2, hR⟩ := jbind hR
    try dsimp only at hR
    refine jcall_ri (va_runV (As := []) (rest := [.int 8]) ⟨hx, hb, hml, hown, hts⟩ (jc_Mo_floors l g a_this a_this_isBlock a_this_isSeen a_this_lampX a_this_lampY a_this_right a_this_up a_this_keptRight a_this_keptUp a_this_name a_this_part a_this_codes a_this_above a_this_below a_this_length a_this_isMet q_1.2.1 q_1.2.2.1 v_lamps v_squares v_intervals v_isBlock q_1.2.2.2 v_lampX v_lampY v_right v_up v_keptRight v_keptUp v_name v_part v_codes v_above v_below v_length v_isMet _ hq_2) (cwV 0 hts gX7_mean_X7_floors rfl rfl rfl (by decide +kernel) ⟨Nat.le_of_ble_eq_true rfl, Nat.le_of_ble_eq_true rfl⟩) (jpr_v hK hP (ci := 7) (q0 := 0) rfl rfl) rfl rfl hl.1 rfl (lv_room (Nat.le_of_ble_eq_true rfl)) dX7_mean_16 ⟨Nat.zero_le _, Nat.zero_le _⟩) ?_
    refine lv_imul hx hb dX7_mean_19 ?_
    refine lv_i2f hx hb dX7_mean_20 ?_
    refine lv_iload_n hx hb dX7_mean_21 rfl (lv_at hl 0 rfl) ?_
    refine lv_i2f hx hb dX7_mean_22 ?_
    by_cases c_2 : jnn (FP.fdiv (FP.i2f (8 * q_2)) (FP.i2f q_1.1)) = true
    case neg => replace hR := Eq.trans (Eq.symm (if_neg c_2)) hR; cases hR
    replace hR := Eq.trans (Eq.symm (if_pos c_2)) hR
    refine lv_fdiv hx hb dX7_mean_23 (jnn_n c_2) ?_
    obtain rfl := (Option.some.inj hR)
    exact fin _ _ _ _ _ rfl hP hS dX7_mean_24
  · replace hR := Eq.trans (Eq.symm (if_pos c_1)) hR
    refine lv_fconst0 hx hb dX7_mean_9 ?_
    refine lv_goto (tgt := 24) hx hb dX7_mean_10 (by decide) ?_
    obtain rfl := (Option.some.inj hR)
    exact fin _ _ _ _ _ rfl hP hS dX7_mean_24
def jf_Mo_lamp_b27 (v_thrown : Int32) (v_lamps : Int32) (v_lampX : Nat → Int32) (v_lampY : Nat → Int32) (z1 : Int32) (z2 : Int32) (s1 : Int32) : Option (Int32 × Int32 × Int32 × (Nat → Int32) × (Nat → Int32)) :=
  if s1 ≤ 0 then (if jin v_lamps 6 = true then (if jin v_lamps 6 = true then (some ((v_lamps + 1) - 1, s1, v_lamps + 1, upd v_lampX v_lamps.toNatClampNeg z1, upd v_lampY v_lamps.toNatClampNeg z2)) else none) else none) else (some (0, s1, v_lamps, v_lampX, v_lampY))
def jf_Mo_lamp (v_thrown : Int32) (v_lamps : Int32) (v_lampX : Nat → Int32) (v_lampY : Nat → Int32) (x1 : Int32) (x2 : Int32) : Option (Int32 × Int32 × Int32 × (Nat → Int32) × (Nat → Int32)) :=
  if (jf_Mo_isCell x1 x2) = 0 then (jf_Mo_lamp_b27 v_thrown v_lamps v_lampX v_lampY x1 x2 1) else (if v_lamps = 6 then (jf_Mo_lamp_b27 v_thrown v_lamps v_lampX v_lampY x1 x2 2) else (jf_Mo_lamp_b27 v_thrown v_lamps v_lampX v_lampY x1 x2 0))
abbrev jr_Mo_lamp : Room := { frames := 2, cells := 0, slots := 0, locals := 43 }
set_option maxRecDepth 100000 in
set_option maxHeartbeats 4000000 in
theorem jc_Mo_lamp (l : Launch) (g : jG) (a_this a_this_isBlock a_this_isSeen a_this_lampX a_this_lampY a_this_right a_this_up a_this_keptRight a_this_keptUp a_this_name a_this_part a_this_codes a_this_above a_this_below a_this_length a_this_isMet : Nat) (v_thrown : Int32) (v_isBounce : Int32) (v_lamps : Int32) (v_squares : Int32) (v_intervals : Int32) (v_isBlock : Nat → Int32) (v_isSeen : Nat → Int32) (v_lampX : Nat → Int32) (v_lampY : Nat → Int32) (v_right : Nat → Int32) (v_up : Nat → Int32) (v_keptRight : Nat → Int32) (v_keptUp : Nat → Int32) (v_name : Nat → Int32) (v_part : Nat → Int32) (v_codes : Nat → Int32) (v_above : Nat → Int32) (v_below : Nat → Int32) (v_length : Nat → Int32) (v_isMet : Nat → Int32) (x1 : Int32) (x2 : Int32) (R : Int32 × Int32 × Int32 × (Nat → Int32) × (Nat → Int32)) (hR : jf_Mo_lamp v_thrown v_lamps v_lampX v_lampY x1 x2 = some R) (sz : Nat) : Met l yX7_lamp wsX7_lamp jr_Mo_lamp (jPw g [.ref a_this, .int x1, .int x2] (jw_Mo g a_this a_this_isBlock a_this_isSeen a_this_lampX a_this_lampY a_this_right a_this_up a_this_keptRight a_this_keptUp a_this_name a_this_part a_this_codes a_this_above a_this_below a_this_length a_this_isMet v_thrown v_isBounce v_lamps v_squares v_intervals v_isBlock v_isSeen v_lampX v_lampY v_right v_up v_keptRight v_keptUp v_name v_part v_codes v_above v_below v_length v_isMet) sz) (jQi g R.1 (jw_Mo g a_this a_this_isBlock a_this_isSeen a_this_lampX a_this_lampY a_this_right a_this_up a_this_keptRight a_this_keptUp a_this_name a_this_part a_this_codes a_this_above a_this_below a_this_length a_this_isMet R.2.1 v_isBounce R.2.2.1 v_squares v_intervals v_isBlock v_isSeen R.2.2.2.1 R.2.2.2.2 v_right v_up v_keptRight v_keptUp v_name v_part v_codes v_above v_below v_length v_isMet) (va_A (jw_Mo g a_this a_this_isBlock a_this_isSeen a_this_lampX a_this_lampY a_this_right a_this_up a_this_keptRight a_this_keptUp a_this_name a_this_part a_this_codes a_this_above a_this_below a_this_length a_this_isMet v_thrown v_isBounce v_lamps v_squares v_intervals v_isBlock v_isSeen v_lampX v_lampY v_right v_up v_keptRight v_keptUp v_name v_part v_codes v_above v_below v_length v_isMet) sz)) 0 0 (va_A (jw_Mo g a_this a_this_isBlock a_this_isSeen a_this_lampX a_this_lampY a_this_right a_this_up a_this_keptRight a_this_keptUp a_this_name a_this_part a_this_codes a_this_above a_this_below a_this_length a_this_isMet v_thrown v_isBounce v_lamps v_squares v_intervals v_isBlock v_isSeen v_lampX v_lampY v_right v_up v_keptRight v_keptUp v_name v_part v_codes v_above v_below v_length v_isMet) sz) := by
  refine jm_wi (cc := cX7_lamp) (maxL := 3) (by decide +kernel) rfl (Nat.le_of_ble_eq_true rfl) ?_
  intro p e s m below meth c A Q hx hb hml hown hts hK hP hD hA hS fin ls hl
  have hl : lv_has ls 3 [(0, .ref a_this), (1, .int x1), (2, .int x2)] := hl
  have hown : s.vm.findClass RX7 = some m.cls := hown
  have w_X7 : ∀ w ∈ u_ws RX7 TX7 20, w ∈ wsX7_lamp := by decide +kernel
  have w_f110 := hts (.fieldLink RX7 110 "BilliardryModel" "lamps" "I") (by decide +kernel)
  have w_f60 := hts (.fieldLink RX7 60 "BilliardryModel" "thrown" "I") (by decide +kernel)
  have w_f16 := hts (.fieldLink RX7 16 "BilliardryModel" "lampX" "[I") (by decide +kernel)
  have w_f20 := hts (.fieldLink RX7 20 "BilliardryModel" "lampY" "[I") (by decide +kernel)
  have J27 : ∀ (v_thrown : Int32) (v_lamps : Int32) (v_lampX : Nat → Int32) (v_lampY : Nat → Int32) (z1 : Int32) (z2 : Int32) (s1 : Int32) (H : Heap) (locs : List Loc), va_P g.1 vwCl (jw_Mo g a_this a_this_isBlock a_this_isSeen a_this_lampX a_this_lampY a_this_right a_this_up a_this_keptRight a_this_keptUp a_this_name a_this_part a_this_codes a_this_above a_this_below a_this_length a_this_isMet v_thrown v_isBounce v_lamps v_squares v_intervals v_isBlock v_isSeen v_lampX v_lampY v_right v_up v_keptRight v_keptUp v_name v_part v_codes v_above v_below v_length v_isMet) H → va_S A s.heap H locs → ∀ (ls : Array Slot), lv_has ls 3 [(0, .ref a_this), (1, .int z1), (2, .int z2)] → jf_Mo_lamp_b27 v_thrown v_lamps v_lampX v_lampY z1 z2 s1 = some R → W p l e jr_Mo_lamp s m ([.ref a_this, .int x1, .int x2] : List Value).toArray below meth c H locs 0 0 Q (F0 m 27 ls [.int s1, .ref a_this]) := by
    intro v_thrown v_lamps v_lampX v_lampY z1 z2 s1 H locs hP hS ls hl hR
    rw [jf_Mo_lamp_b27] at hR
    refine va_put (D := g.1) (ci := 7) (v := .int s1) (ty := .int) (C := RX7) (T := TX7) (N := 20) hx hb hts w_X7 tyX7 tyX7_ok nmX7 hown hK.1 hP (jD_to hD rfl) hS 0 rfl rfl 0 (by decide) w_f60 (fun _ h9 => h9) rfl (by decide +kernel) rfl rfl (Nat.le_of_ble_eq_true rfl) dX7_lamp_27 (fun H locs hP _ hS => ?_)
    have hP : va_P g.1 vwCl (jw_Mo g a_this a_this_isBlock a_this_isSeen a_this_lampX a_this_lampY a_this_right a_this_up a_this_keptRight a_this_keptUp a_this_name a_this_part a_this_codes a_this_above a_this_below a_this_length a_this_isMet s1 v_isBounce v_lamps v_squares v_intervals v_isBlock v_isSeen v_lampX v_lampY v_right v_up v_keptRight v_keptUp v_name v_part v_codes v_above v_below v_length v_isMet) H := hP
    refine lv_aload_n hx hb dX7_lamp_30 rfl (lv_at hl 0 rfl) ?_
    refine va_get (D := g.1) (ci := 7) (v := .int s1) (C := RX7) (T := TX7) (N := 20) hx hb hts w_X7 hown hK.1 hP 0 rfl rfl 0 (by decide) w_f60 (fun _ h9 => h9) rfl dX7_lamp_31 ?_
    refine lv_if_le (tgt := 39) hx hb dX7_lamp_34 (by decide) (fun c_3 => ?_) (fun c_3 => ?_)
    · replace hR := Eq.trans (Eq.symm (if_pos c_3)) hR
      refine lv_aload_n hx hb dX7_lamp_39 rfl (lv_at hl 0 rfl) ?_
      refine va_get (D := g.1) (ci := 7) (v := .ref a_this_lampX) (C := RX7) (T := TX7) (N := 20) hx hb hts w_X7 hown hK.1 hP 0 rfl rfl 5 (by decide) w_f16 (fun _ h9 => h9) rfl dX7_lamp_40 ?_
      refine lv_aload_n hx hb dX7_lamp_43 rfl (lv_at hl 0 rfl) ?_
      refine va_get (D := g.1) (ci := 7) (v := .int v_lamps) (C := RX7) (T := TX7) (N := 20) hx hb hts w_X7 hown hK.1 hP 0 rfl rfl 4 (by decide) w_f110 (fun _ h9 => h9) rfl dX7_lamp_44 ?_
      refine lv_iload_n hx hb dX7_lamp_47 rfl (lv_at hl 1 rfl) ?_
      by_cases c_4 : jin v_lamps 6 = true
      case neg => replace hR := Eq.trans (Eq.symm (if_neg c_4)) hR; cases hR
      replace hR := Eq.trans (Eq.symm (if_pos c_4)) hR
      refine va_iast hx hb hK.1 hP (jD_to hD rfl) hS 3 0 rfl rfl (jin_in c_4) dX7_lamp_48 (fun H locs hP _ hS => ?_)
      have hP : va_P g.1 vwCl (jw_Mo g a_this a_this_isBlock a_this_isSeen a_this_lampX a_this_lampY a_this_right a_this_up a_this_keptRight a_this_keptUp a_this_name a_this_part a_this_codes a_this_above a_this_below a_this_length a_this_isMet s1 v_isBounce v_lamps v_squares v_intervals v_isBlock v_isSeen (upd v_lampX v_lamps.toNatClampNeg z1) v_lampY v_right v_up v_keptRight v_keptUp v_name v_part v_codes v_above v_below v_length v_isMet) H := hP
      refine lv_aload_n hx hb dX7_lamp_49 rfl (lv_at hl 0 rfl) ?_
      refine va_get (D := g.1) (ci := 7) (v := .ref a_this_lampY) (C := RX7) (T := TX7) (N := 20) hx hb hts w_X7 hown hK.1 hP 0 rfl rfl 6 (by decide) w_f20 (fun _ h9 => h9) rfl dX7_lamp_50 ?_
      refine lv_aload_n hx hb dX7_lamp_53 rfl (lv_at hl 0 rfl) ?_
      refine va_get (D := g.1) (ci := 7) (v := .int v_lamps) (C := RX7) (T := TX7) (N := 20) hx hb hts w_X7 hown hK.1 hP 0 rfl rfl 4 (by decide) w_f110 (fun _ h9 => h9) rfl dX7_lamp_54 ?_
      refine lv_iload_n hx hb dX7_lamp_57 rfl (lv_at hl 2 rfl) ?_
      by_cases c_5 : jin v_lamps 6 = true
      case neg => replace hR := Eq.trans (Eq.symm (if_neg c_5)) hR; cases hR
      replace hR := Eq.trans (Eq.symm (if_pos c_5)) hR
      refine va_iast hx hb hK.1 hP (jD_to hD rfl) hS 4 0 rfl rfl (jin_in c_5) dX7_lamp_58 (fun H locs hP _ hS => ?_)
      have hP : va_P g.1 vwCl (jw_Mo g a_this a_this_isBlock a_this_isSeen a_this_lampX a_this_lampY a_this_right a_this_up a_this_keptRight a_this_keptUp a_this_name a_this_part a_this_codes a_this_above a_this_below a_this_length a_this_isMet s1 v_isBounce v_lamps v_squares v_intervals v_isBlock v_isSeen (upd v_lampX v_lamps.toNatClampNeg z1) (upd v_lampY v_lamps.toNatClampNeg z2) v_right v_up v_keptRight v_keptUp v_name v_part v_codes v_above v_below v_length v_isMet) H := hP
      refine lv_aload_n hx hb dX7_lamp_59 rfl (lv_at hl 0 rfl) ?_
      refine lv_dup hx hb dX7_lamp_60 rfl ?_
      refine va_get (D := g.1) (ci := 7) (v := .int v_lamps) (C := RX7) (T := TX7) (N := 20) hx hb hts w_X7 hown hK.1 hP 0 rfl rfl 4 (by decide) w_f110 (fun _ h9 => h9) rfl dX7_lamp_61 ?_
      refine lv_iconst (v := 1) hx hb dX7_lamp_64 (by decide) ?_
      refine lv_iadd hx hb dX7_lamp_65 ?_
      refine va_put (D := g.1) (ci := 7) (v := .int (v_lamps + 1)) (ty := .int) (C := RX7) (T := TX7) (N := 20) hx hb hts w_X7 tyX7 tyX7_ok nmX7 hown hK.1 hP (jD_to hD rfl) hS 0 rfl rfl 4 (by decide) w_f110 (fun _ h9 => h9) rfl (by decide +kernel) rfl rfl (Nat.le_of_ble_eq_true rfl) dX7_lamp_66 (fun H locs hP _ hS => ?_)
      have hP : va_P g.1 vwCl (jw_Mo g a_this a_this_isBlock a_this_isSeen a_this_lampX a_this_lampY a_this_right a_this_up a_this_keptRight a_this_keptUp a_this_name a_this_part a_this_codes a_this_above a_this_below a_this_length a_this_isMet s1 v_isBounce (v_lamps + 1) v_squares v_intervals v_isBlock v_isSeen (upd v_lampX v_lamps.toNatClampNeg z1) (upd v_lampY v_lamps.toNatClampNeg z2) v_right v_up v_keptRight v_keptUp v_name v_part v_codes v_above v_below v_length v_isMet) H := hP
      refine lv_aload_n hx hb dX7_lamp_69 rfl (lv_at hl 0 rfl) ?_
      refine va_get (D := g.1) (ci := 7) (v := .int (v_lamps + 1)) (C := RX7) (T := TX7) (N := 20) hx hb hts w_X7 hown hK.1 hP 0 rfl rfl 4 (by decide) w_f110 (fun _ h9 => h9) rfl dX7_lamp_70 ?_
      refine lv_iconst (v := 1) hx hb dX7_lamp_73 (by decide) ?_
      refine lv_isub hx hb dX7_lamp_74 ?_
      obtain rfl := (Option.some.inj hR)
      exact fin _ _ _ _ _ rfl hP hS dX7_lamp_75
    · replace hR := Eq.trans (Eq.symm (if_neg c_3)) hR
      refine lv_iconst (v := 0) hx hb dX7_lamp_37 (by decide) ?_
      obtain rfl := (Option.some.inj hR)
      exact fin _ _ _ _ _ rfl hP hS dX7_lamp_38
  rw [jf_Mo_lamp] at hR
  refine lv_aload_n hx hb dX7_lamp_0 rfl (lv_at hl 0 rfl) ?_
  refine lv_iload_n hx hb dX7_lamp_1 rfl (lv_at hl 1 rfl) ?_
  refine lv_iload_n hx hb dX7_lamp_2 rfl (lv_at hl 2 rfl) ?_
  refine jcall_ri (va_runS (As := [.int x1, .int x2]) (rest := [.ref a_this]) ⟨hx, hb, hml, hown, hts⟩ (jc_Mo_isCell l g  x1 x2 _ rfl) (va_cwS 2 hts gX7_lamp_X7_isCell rfl rfl rfl (by decide +kernel) ⟨Nat.le_of_ble_eq_true rfl, Nat.le_of_ble_eq_true rfl⟩) (jpr_s hK (hP.sub (ws' := []) [] rfl)) rfl rfl hl.1 rfl (lv_room (Nat.le_of_ble_eq_true rfl)) dX7_lamp_3 ⟨Nat.zero_le _, Nat.zero_le _⟩) ?_
  refine lv_if_ne (tgt := 13) hx hb dX7_lamp_6 (by decide) (fun c_1 => ?_) (fun c_1 => ?_)
  · replace hR := Eq.trans (Eq.symm (if_neg c_1)) hR
    refine lv_aload_n hx hb dX7_lamp_13 rfl (lv_at hl 0 rfl) ?_
    refine va_get (D := g.1) (ci := 7) (v := .int v_lamps) (C := RX7) (T := TX7) (N := 20) hx hb hts w_X7 hown hK.1 hP 0 rfl rfl 4 (by decide) w_f110 (fun _ h9 => h9) rfl dX7_lamp_14 ?_
    refine lv_bipush (v := 6) hx hb dX7_lamp_17 (by decide) ?_
    refine lv_icmp_ne (tgt := 26) hx hb dX7_lamp_19 (by decide) (fun c_2 => ?_) (fun c_2 => ?_)
    · replace hR := Eq.trans (Eq.symm (if_neg c_2)) hR
      refine lv_iconst (v := 0) hx hb dX7_lamp_26 (by decide) ?_
      exact J27 v_thrown v_lamps v_lampX v_lampY x1 x2 0 _ _ hP hS _ (lv_sub hl [0, 1, 2] rfl) hR
    · replace hR := Eq.trans (Eq.symm (if_pos c_2)) hR
      refine lv_iconst (v := 2) hx hb dX7_lamp_22 (by decide) ?_
      refine lv_goto (tgt := 27) hx hb dX7_lamp_23 (by decide) ?_
      exact J27 v_thrown v_lamps v_lampX v_lampY x1 x2 2 _ _ hP hS _ (lv_sub hl [0, 1, 2] rfl) hR
  · replace hR := Eq.trans (Eq.symm (if_pos c_1)) hR
    refine lv_iconst (v := 1) hx hb dX7_lamp_9 (by decide) ?_
    refine lv_goto (tgt := 27) hx hb dX7_lamp_10 (by decide) ?_
    exact J27 v_thrown v_lamps v_lampX v_lampY x1 x2 1 _ _ hP hS _ (lv_sub hl [0, 1, 2] rfl) hR
def jf_Mo_least (x0 : Int32) (x1 : Int32) : Int32 :=
  if x1 ≤ x0 then x1 else x0
abbrev jr_Mo_least : Room := { frames := 0, cells := 0, slots := 0, locals := 0 }
set_option maxRecDepth 100000 in
set_option maxHeartbeats 4000000 in
theorem jc_Mo_least (l : Launch) (g : jG) (x0 : Int32) (x1 : Int32) (R : Int32) (hR : jf_Mo_least x0 x1 = R) : Met l yX7_least wsX7_least jr_Mo_least (jPr g [.int x0, .int x1] ([])) (vp_Si (fun r => r = R)) 0 0 (fun _ => False) := by
  refine jm_ri (cc := cX7_least) (maxL := 2) (by decide +kernel) rfl (Nat.le_of_ble_eq_true rfl) ?_
  intro p e s m below meth c Q hx hb hml hown hts hK hP fin ls hl
  have hl : lv_has ls 2 [(0, .int x0), (1, .int x1)] := hl
  have hown : s.vm.findClass RX7 = some m.cls := hown
  rw [jf_Mo_least] at hR
  refine lv_iload_n hx hb dX7_least_0 rfl (lv_at hl 0 rfl) ?_
  refine lv_iload_n hx hb dX7_least_1 rfl (lv_at hl 1 rfl) ?_
  refine lv_icmp_ge (tgt := 9) hx hb dX7_least_2 (by decide) (fun c_1 => ?_) (fun c_1 => ?_)
  · replace hR := Eq.trans (Eq.symm (if_pos c_1)) hR
    refine lv_iload_n hx hb dX7_least_9 rfl (lv_at hl 1 rfl) ?_
    exact fin _ _ _ hR dX7_least_10
  · replace hR := Eq.trans (Eq.symm (if_neg c_1)) hR
    refine lv_iload_n hx hb dX7_least_5 rfl (lv_at hl 0 rfl) ?_
    refine lv_goto (tgt := 10) hx hb dX7_least_6 (by decide) ?_
    exact fin _ _ _ hR dX7_least_10
def jf_Mo_most (x0 : Int32) (x1 : Int32) : Int32 :=
  if x0 ≤ x1 then x1 else x0
abbrev jr_Mo_most : Room := { frames := 0, cells := 0, slots := 0, locals := 0 }
set_option maxRecDepth 100000 in
set_option maxHeartbeats 4000000 in
theorem jc_Mo_most (l : Launch) (g : jG) (x0 : Int32) (x1 : Int32) (R : Int32) (hR : jf_Mo_most x0 x1 = R) : Met l yX7_most wsX7_most jr_Mo_most (jPr g [.int x0, .int x1] ([])) (vp_Si (fun r => r = R)) 0 0 (fun _ => False) := by
  refine jm_ri (cc := cX7_most) (maxL := 2) (by decide +kernel) rfl (Nat.le_of_ble_eq_true rfl) ?_
  intro p e s m below meth c Q hx hb hml hown hts hK hP fin ls hl
  have hl : lv_has ls 2 [(0, .int x0), (1, .int x1)] := hl
  have hown : s.vm.findClass RX7 = some m.cls := hown
  rw [jf_Mo_most] at hR
  refine lv_iload_n hx hb dX7_most_0 rfl (lv_at hl 0 rfl) ?_
  refine lv_iload_n hx hb dX7_most_1 rfl (lv_at hl 1 rfl) ?_
  refine lv_icmp_le (tgt := 9) hx hb dX7_most_2 (by decide) (fun c_1 => ?_) (fun c_1 => ?_)
  · replace hR := Eq.trans (Eq.symm (if_pos c_1)) hR
    refine lv_iload_n hx hb dX7_most_9 rfl (lv_at hl 1 rfl) ?_
    exact fin _ _ _ hR dX7_most_10
  · replace hR := Eq.trans (Eq.symm (if_neg c_1)) hR
    refine lv_iload_n hx hb dX7_most_5 rfl (lv_at hl 0 rfl) ?_
    refine lv_goto (tgt := 10) hx hb dX7_most_6 (by decide) ?_
    exact fin _ _ _ hR dX7_most_10
def jf_Mo_sideOf (x0 : Int32) (x1 : Int32) (x2 : Int32) (x3 : Int32) (x4 : Int32) (x5 : Int32) : Int32 :=
  (x2 * (((2 * x5) - (2 * x1)) - 1)) - (x3 * (((2 * x4) - (2 * x0)) - 1))
abbrev jr_Mo_sideOf : Room := { frames := 0, cells := 0, slots := 0, locals := 0 }
set_option maxRecDepth 100000 in
set_option maxHeartbeats 4000000 in
theorem jc_Mo_sideOf (l : Launch) (g : jG) (x0 : Int32) (x1 : Int32) (x2 : Int32) (x3 : Int32) (x4 : Int32) (x5 : Int32) (R : Int32) (hR : jf_Mo_sideOf x0 x1 x2 x3 x4 x5 = R) : Met l yX7_sideOf wsX7_sideOf jr_Mo_sideOf (jPr g [.int x0, .int x1, .int x2, .int x3, .int x4, .int x5] ([])) (vp_Si (fun r => r = R)) 0 0 (fun _ => False) := by
  refine jm_ri (cc := cX7_sideOf) (maxL := 6) (by decide +kernel) rfl (Nat.le_of_ble_eq_true rfl) ?_
  intro p e s m below meth c Q hx hb hml hown hts hK hP fin ls hl
  have hl : lv_has ls 6 [(0, .int x0), (1, .int x1), (2, .int x2), (3, .int x3), (4, .int x4), (5, .int x5)] := hl
  have hown : s.vm.findClass RX7 = some m.cls := hown
  rw [jf_Mo_sideOf] at hR
  refine lv_iload_n hx hb dX7_sideOf_0 rfl (lv_at hl 2 rfl) ?_
  refine lv_iconst (v := 2) hx hb dX7_sideOf_1 (by decide) ?_
  refine lv_iload hx hb dX7_sideOf_2 (lv_at hl 5 rfl) ?_
  refine lv_imul hx hb dX7_sideOf_4 ?_
  refine lv_iconst (v := 2) hx hb dX7_sideOf_5 (by decide) ?_
  refine lv_iload_n hx hb dX7_sideOf_6 rfl (lv_at hl 1 rfl) ?_
  refine lv_imul hx hb dX7_sideOf_7 ?_
  refine lv_isub hx hb dX7_sideOf_8 ?_
  refine lv_iconst (v := 1) hx hb dX7_sideOf_9 (by decide) ?_
  refine lv_isub hx hb dX7_sideOf_10 ?_
  refine lv_imul hx hb dX7_sideOf_11 ?_
  refine lv_iload_n hx hb dX7_sideOf_12 rfl (lv_at hl 3 rfl) ?_
  refine lv_iconst (v := 2) hx hb dX7_sideOf_13 (by decide) ?_
  refine lv_iload hx hb dX7_sideOf_14 (lv_at hl 4 rfl) ?_
  refine lv_imul hx hb dX7_sideOf_16 ?_
  refine lv_iconst (v := 2) hx hb dX7_sideOf_17 (by decide) ?_
  refine lv_iload_n hx hb dX7_sideOf_18 rfl (lv_at hl 0 rfl) ?_
  refine lv_imul hx hb dX7_sideOf_19 ?_
  refine lv_isub hx hb dX7_sideOf_20 ?_
  refine lv_iconst (v := 1) hx hb dX7_sideOf_21 (by decide) ?_
  refine lv_isub hx hb dX7_sideOf_22 ?_
  refine lv_imul hx hb dX7_sideOf_23 ?_
  refine lv_isub hx hb dX7_sideOf_24 ?_
  exact fin _ _ _ hR dX7_sideOf_25
def jf_Mo_meets (x0 : Int32) (x1 : Int32) (x2 : Int32) (x3 : Int32) (x4 : Int32) (x5 : Int32) : Int32 :=
  if x4 < (jf_Mo_least x0 x2) then 0 else (if (jf_Mo_most x0 x2) < x4 then 0 else (if x5 < (jf_Mo_least x1 x3) then 0 else (if x5 ≤ (jf_Mo_most x1 x3) then (jlet (x2 - x0) (fun y6_1 => jlet (x3 - x1) (fun y7_1 => jlet (jf_Mo_sideOf x0 x1 y6_1 y7_1 x4 x5) (fun y8_1 => jlet (jf_Mo_sideOf x0 x1 y6_1 y7_1 (x4 + 1) x5) (fun y9_1 => jlet (jf_Mo_sideOf x0 x1 y6_1 y7_1 x4 (x5 + 1)) (fun y10_1 => jlet (jf_Mo_sideOf x0 x1 y6_1 y7_1 (x4 + 1) (x5 + 1)) (fun y11_1 => if 0 < (jf_Mo_least (jf_Mo_least y8_1 y9_1) (jf_Mo_least y10_1 y11_1)) then 0 else (if (jf_Mo_most (jf_Mo_most y8_1 y9_1) (jf_Mo_most y10_1 y11_1)) < 0 then 0 else 1)))))))) else 0)))
abbrev jr_Mo_meets : Room := { frames := 1, cells := 0, slots := 0, locals := 25 }
set_option maxRecDepth 100000 in
set_option maxHeartbeats 4000000 in
theorem jc_Mo_meets (l : Launch) (g : jG) (x0 : Int32) (x1 : Int32) (x2 : Int32) (x3 : Int32) (x4 : Int32) (x5 : Int32) (R : Int32) (hR : jf_Mo_meets x0 x1 x2 x3 x4 x5 = R) : Met l yX7_meets wsX7_meets jr_Mo_meets (jPr g [.int x0, .int x1, .int x2, .int x3, .int x4, .int x5] ([])) (vp_Si (fun r => r = R)) 0 0 (fun _ => False) := by
  refine jm_rz (cc := cX7_meets) (maxL := 12) (by decide +kernel) rfl (Nat.le_of_ble_eq_true rfl) ?_
  intro p e s m below meth c Q hx hb hml hown hts hK hP fin ls hl
  have hl : lv_has ls 12 [(0, .int x0), (1, .int x1), (2, .int x2), (3, .int x3), (4, .int x4), (5, .int x5)] := hl
  have hown : s.vm.findClass RX7 = some m.cls := hown
  rw [jf_Mo_meets] at hR
  refine lv_iload hx hb dX7_meets_0 (lv_at hl 4 rfl) ?_
  refine lv_iload_n hx hb dX7_meets_2 rfl (lv_at hl 0 rfl) ?_
  refine lv_iload_n hx hb dX7_meets_3 rfl (lv_at hl 2 rfl) ?_
  refine jcall_ri (va_runS (As := [.int x0, .int x2]) (rest := [.int x4]) ⟨hx, hb, hml, hown, hts⟩ (jc_Mo_least l g  x0 x2 _ rfl) (va_cwS 2 hts gX7_meets_X7_least rfl rfl rfl (by decide +kernel) ⟨Nat.le_of_ble_eq_true rfl, Nat.le_of_ble_eq_true rfl⟩) (jpr_s hK hP) rfl rfl hl.1 rfl (lv_room (Nat.le_of_ble_eq_true rfl)) dX7_meets_4 ⟨Nat.zero_le _, Nat.zero_le _⟩) ?_
  refine lv_icmp_lt (tgt := 40) hx hb dX7_meets_7 (by decide) (fun c_1 => ?_) (fun c_1 => ?_)
  · replace hR := Eq.trans (Eq.symm (if_pos c_1)) hR
    refine lv_iconst (v := 0) hx hb dX7_meets_40 (by decide) ?_
    exact fin _ _ _ (Eq.trans (by decide) hR) dX7_meets_41
  · replace hR := Eq.trans (Eq.symm (if_neg c_1)) hR
    refine lv_iload hx hb dX7_meets_10 (lv_at hl 4 rfl) ?_
    refine lv_iload_n hx hb dX7_meets_12 rfl (lv_at hl 0 rfl) ?_
    refine lv_iload_n hx hb dX7_meets_13 rfl (lv_at hl 2 rfl) ?_
    refine jcall_ri (va_runS (As := [.int x0, .int x2]) (rest := [.int x4]) ⟨hx, hb, hml, hown, hts⟩ (jc_Mo_most l g  x0 x2 _ rfl) (va_cwS 2 hts gX7_meets_X7_most rfl rfl rfl (by decide +kernel) ⟨Nat.le_of_ble_eq_true rfl, Nat.le_of_ble_eq_true rfl⟩) (jpr_s hK hP) rfl rfl hl.1 rfl (lv_room (Nat.le_of_ble_eq_true rfl)) dX7_meets_14 ⟨Nat.zero_le _, Nat.zero_le _⟩) ?_
    refine lv_icmp_gt (tgt := 40) hx hb dX7_meets_17 (by decide) (fun c_2 => ?_) (fun c_2 => ?_)
    · replace hR := Eq.trans (Eq.symm (if_pos c_2)) hR
      refine lv_iconst (v := 0) hx hb dX7_meets_40 (by decide) ?_
      exact fin _ _ _ (Eq.trans (by decide) hR) dX7_meets_41
    · replace hR := Eq.trans (Eq.symm (if_neg c_2)) hR
      refine lv_iload hx hb dX7_meets_20 (lv_at hl 5 rfl) ?_
      refine lv_iload_n hx hb dX7_meets_22 rfl (lv_at hl 1 rfl) ?_
      refine lv_iload_n hx hb dX7_meets_23 rfl (lv_at hl 3 rfl) ?_
      refine jcall_ri (va_runS (As := [.int x1, .int x3]) (rest := [.int x5]) ⟨hx, hb, hml, hown, hts⟩ (jc_Mo_least l g  x1 x3 _ rfl) (va_cwS 2 hts gX7_meets_X7_least rfl rfl rfl (by decide +kernel) ⟨Nat.le_of_ble_eq_true rfl, Nat.le_of_ble_eq_true rfl⟩) (jpr_s hK hP) rfl rfl hl.1 rfl (lv_room (Nat.le_of_ble_eq_true rfl)) dX7_meets_24 ⟨Nat.zero_le _, Nat.zero_le _⟩) ?_
      refine lv_icmp_lt (tgt := 40) hx hb dX7_meets_27 (by decide) (fun c_3 => ?_) (fun c_3 => ?_)
      · replace hR := Eq.trans (Eq.symm (if_pos c_3)) hR
        refine lv_iconst (v := 0) hx hb dX7_meets_40 (by decide) ?_
        exact fin _ _ _ (Eq.trans (by decide) hR) dX7_meets_41
      · replace hR := Eq.trans (Eq.symm (if_neg c_3)) hR
        refine lv_iload hx hb dX7_meets_30 (lv_at hl 5 rfl) ?_
        refine lv_iload_n hx hb dX7_meets_32 rfl (lv_at hl 1 rfl) ?_
        refine lv_iload_n hx hb dX7_meets_33 rfl (lv_at hl 3 rfl) ?_
        refine jcall_ri (va_runS (As := [.int x1, .int x3]) (rest := [.int x5]) ⟨hx, hb, hml, hown, hts⟩ (jc_Mo_most l g  x1 x3 _ rfl) (va_cwS 2 hts gX7_meets_X7_most rfl rfl rfl (by decide +kernel) ⟨Nat.le_of_ble_eq_true rfl, Nat.le_of_ble_eq_true rfl⟩) (jpr_s hK hP) rfl rfl hl.1 rfl (lv_room (Nat.le_of_ble_eq_true rfl)) dX7_meets_34 ⟨Nat.zero_le _, Nat.zero_le _⟩) ?_
        refine lv_icmp_le (tgt := 42) hx hb dX7_meets_37 (by decide) (fun c_4 => ?_) (fun c_4 => ?_)
        · replace hR := Eq.trans (Eq.symm (if_pos c_4)) hR
          refine lv_iload_n hx hb dX7_meets_42 rfl (lv_at hl 2 rfl) ?_
          refine lv_iload_n hx hb dX7_meets_43 rfl (lv_at hl 0 rfl) ?_
          refine lv_isub hx hb dX7_meets_44 ?_
          refine jlet_i hR (fun y6_1 hR => ?_)
          try dsimp only at hR
          refine lv_istore (lv' := [(6, .int y6_1), (0, .int x0), (1, .int x1), (2, .int x2), (3, .int x3), (4, .int x4), (5, .int x5)]) hx hb dX7_meets_45 hl (by decide) rfl (fun ls hl => ?_)
          refine lv_iload_n hx hb dX7_meets_47 rfl (lv_at hl 4 rfl) ?_
          refine lv_iload_n hx hb dX7_meets_48 rfl (lv_at hl 2 rfl) ?_
          refine lv_isub hx hb dX7_meets_49 ?_
          refine jlet_i hR (fun y7_1 hR => ?_)
          try dsimp only at hR
          refine lv_istore (lv' := [(7, .int y7_1), (6, .int y6_1), (0, .int x0), (1, .int x1), (2, .int x2), (3, .int x3), (4, .int x4), (5, .int x5)]) hx hb dX7_meets_50 hl (by decide) rfl (fun ls hl => ?_)
          refine lv_iload_n hx hb dX7_meets_52 rfl (lv_at hl 2 rfl) ?_
          refine lv_iload_n hx hb dX7_meets_53 rfl (lv_at hl 3 rfl) ?_
          refine lv_iload hx hb dX7_meets_54 (lv_at hl 1 rfl) ?_
          refine lv_iload hx hb dX7_meets_56 (lv_at hl 0 rfl) ?_
          refine lv_iload hx hb dX7_meets_58 (lv_at hl 6 rfl) ?_
          refine lv_iload hx hb dX7_meets_60 (lv_at hl 7 rfl) ?_
          refine jcall_ri (va_runS (As := [.int x0, .int x1, .int y6_1, .int y7_1, .int x4, .int x5]) (rest := []) ⟨hx, hb, hml, hown, hts⟩ (jc_Mo_sideOf l g  x0 x1 y6_1 y7_1 x4 x5 _ rfl) (va_cwS 6 hts gX7_meets_X7_sideOf rfl rfl rfl (by decide +kernel) ⟨Nat.le_of_ble_eq_true rfl, Nat.le_of_ble_eq_true rfl⟩) (jpr_s hK hP) rfl rfl hl.1 rfl (lv_room (Nat.le_of_ble_eq_true rfl)) dX7_meets_62 ⟨Nat.zero_le _, Nat.zero_le _⟩) ?_
          refine jlet_i hR (fun y8_1 hR => ?_)
          try dsimp only at hR
          refine lv_istore (lv' := [(8, .int y8_1), (7, .int y7_1), (6, .int y6_1), (0, .int x0), (1, .int x1), (2, .int x2), (3, .int x3), (4, .int x4), (5, .int x5)]) hx hb dX7_meets_65 hl (by decide) rfl (fun ls hl => ?_)
          refine lv_iload_n hx hb dX7_meets_67 rfl (lv_at hl 3 rfl) ?_
          refine lv_iload_n hx hb dX7_meets_68 rfl (lv_at hl 4 rfl) ?_
          refine lv_iload hx hb dX7_meets_69 (lv_at hl 2 rfl) ?_
          refine lv_iload hx hb dX7_meets_71 (lv_at hl 1 rfl) ?_
          refine lv_iload hx hb dX7_meets_73 (lv_at hl 7 rfl) ?_
          refine lv_iconst (v := 1) hx hb dX7_meets_75 (by decide) ?_
          refine lv_iadd hx hb dX7_meets_76 ?_
          refine lv_iload hx hb dX7_meets_77 (lv_at hl 8 rfl) ?_
          refine jcall_ri (va_runS (As := [.int x0, .int x1, .int y6_1, .int y7_1, .int (x4 + 1), .int x5]) (rest := []) ⟨hx, hb, hml, hown, hts⟩ (jc_Mo_sideOf l g  x0 x1 y6_1 y7_1 (x4 + 1) x5 _ rfl) (va_cwS 6 hts gX7_meets_X7_sideOf rfl rfl rfl (by decide +kernel) ⟨Nat.le_of_ble_eq_true rfl, Nat.le_of_ble_eq_true rfl⟩) (jpr_s hK hP) rfl rfl hl.1 rfl (lv_room (Nat.le_of_ble_eq_true rfl)) dX7_meets_79 ⟨Nat.zero_le _, Nat.zero_le _⟩) ?_
          refine jlet_i hR (fun y9_1 hR => ?_)
          try dsimp only at hR
          refine lv_istore (lv' := [(9, .int y9_1), (8, .int y8_1), (7, .int y7_1), (6, .int y6_1), (0, .int x0), (1, .int x1), (2, .int x2), (3, .int x3), (4, .int x4), (5, .int x5)]) hx hb dX7_meets_82 hl (by decide) rfl (fun ls hl => ?_)
          refine lv_iload_n hx hb dX7_meets_84 rfl (lv_at hl 4 rfl) ?_
          refine lv_iload_n hx hb dX7_meets_85 rfl (lv_at hl 5 rfl) ?_
          refine lv_iload hx hb dX7_meets_86 (lv_at hl 3 rfl) ?_
          refine lv_iload hx hb dX7_meets_88 (lv_at hl 2 rfl) ?_
          refine lv_iload hx hb dX7_meets_90 (lv_at hl 8 rfl) ?_
          refine lv_iload hx hb dX7_meets_92 (lv_at hl 9 rfl) ?_
          refine lv_iconst (v := 1) hx hb dX7_meets_94 (by decide) ?_
          refine lv_iadd hx hb dX7_meets_95 ?_
          refine jcall_ri (va_runS (As := [.int x0, .int x1, .int y6_1, .int y7_1, .int x4, .int (x5 + 1)]) (rest := []) ⟨hx, hb, hml, hown, hts⟩ (jc_Mo_sideOf l g  x0 x1 y6_1 y7_1 x4 (x5 + 1) _ rfl) (va_cwS 6 hts gX7_meets_X7_sideOf rfl rfl rfl (by decide +kernel) ⟨Nat.le_of_ble_eq_true rfl, Nat.le_of_ble_eq_true rfl⟩) (jpr_s hK hP) rfl rfl hl.1 rfl (lv_room (Nat.le_of_ble_eq_true rfl)) dX7_meets_96 ⟨Nat.zero_le _, Nat.zero_le _⟩) ?_
          refine jlet_i hR (fun y10_1 hR => ?_)
          try dsimp only at hR
          refine lv_istore (lv' := [(10, .int y10_1), (9, .int y9_1), (8, .int y8_1), (7, .int y7_1), (6, .int y6_1), (0, .int x0), (1, .int x1), (2, .int x2), (3, .int x3), (4, .int x4), (5, .int x5)]) hx hb dX7_meets_99 hl (by decide) rfl (fun ls hl => ?_)
          refine lv_iload_n hx hb dX7_meets_101 rfl (lv_at hl 5 rfl) ?_
          refine lv_iload_n hx hb dX7_meets_102 rfl (lv_at hl 6 rfl) ?_
          refine lv_iload hx hb dX7_meets_103 (lv_at hl 4 rfl) ?_
          refine lv_iload hx hb dX7_meets_105 (lv_at hl 3 rfl) ?_
          refine lv_iload hx hb dX7_meets_107 (lv_at hl 9 rfl) ?_
          refine lv_iconst (v := 1) hx hb dX7_meets_109 (by decide) ?_
          refine lv_iadd hx hb dX7_meets_110 ?_
          refine lv_iload hx hb dX7_meets_111 (lv_at hl 10 rfl) ?_
          refine lv_iconst (v := 1) hx hb dX7_meets_113 (by decide) ?_
          refine lv_iadd hx hb dX7_meets_114 ?_
          refine jcall_ri (va_runS (As := [.int x0, .int x1, .int y6_1, .int y7_1, .int (x4 + 1), .int (x5 + 1)]) (rest := []) ⟨hx, hb, hml, hown, hts⟩ (jc_Mo_sideOf l g  x0 x1 y6_1 y7_1 (x4 + 1) (x5 + 1) _ rfl) (va_cwS 6 hts gX7_meets_X7_sideOf rfl rfl rfl (by decide +kernel) ⟨Nat.le_of_ble_eq_true rfl, Nat.le_of_ble_eq_true rfl⟩) (jpr_s hK hP) rfl rfl hl.1 rfl (lv_room (Nat.le_of_ble_eq_true rfl)) dX7_meets_115 ⟨Nat.zero_le _, Nat.zero_le _⟩) ?_
          refine jlet_i hR (fun y11_1 hR => ?_)
          try dsimp only at hR
          refine lv_istore (lv' := [(11, .int y11_1), (10, .int y10_1), (9, .int y9_1), (8, .int y8_1), (7, .int y7_1), (6, .int y6_1), (0, .int x0), (1, .int x1), (2, .int x2), (3, .int x3), (4, .int x4), (5, .int x5)]) hx hb dX7_meets_118 hl (by decide) rfl (fun ls hl => ?_)
          refine lv_iload hx hb dX7_meets_120 (lv_at hl 3 rfl) ?_
          refine lv_iload hx hb dX7_meets_122 (lv_at hl 2 rfl) ?_
          refine jcall_ri (va_runS (As := [.int y8_1, .int y9_1]) (rest := []) ⟨hx, hb, hml, hown, hts⟩ (jc_Mo_least l g  y8_1 y9_1 _ rfl) (va_cwS 2 hts gX7_meets_X7_least rfl rfl rfl (by decide +kernel) ⟨Nat.le_of_ble_eq_true rfl, Nat.le_of_ble_eq_true rfl⟩) (jpr_s hK hP) rfl rfl hl.1 rfl (lv_room (Nat.le_of_ble_eq_true rfl)) dX7_meets_124 ⟨Nat.zero_le _, Nat.zero_le _⟩) ?_
          refine lv_iload hx hb dX7_meets_127 (lv_at hl 1 rfl) ?_
          refine lv_iload hx hb dX7_meets_129 (lv_at hl 0 rfl) ?_
          refine jcall_ri (va_runS (As := [.int y10_1, .int y11_1]) (rest := [.int (jf_Mo_least y8_1 y9_1)]) ⟨hx, hb, hml, hown, hts⟩ (jc_Mo_least l g  y10_1 y11_1 _ rfl) (va_cwS 2 hts gX7_meets_X7_least rfl rfl rfl (by decide +kernel) ⟨Nat.le_of_ble_eq_true rfl, Nat.le_of_ble_eq_true rfl⟩) (jpr_s hK hP) rfl rfl hl.1 rfl (lv_room (Nat.le_of_ble_eq_true rfl)) dX7_meets_131 ⟨Nat.zero_le _, Nat.zero_le _⟩) ?_
          refine jcall_ri (va_runS (As := [.int (jf_Mo_least y8_1 y9_1), .int (jf_Mo_least y10_1 y11_1)]) (rest := []) ⟨hx, hb, hml, hown, hts⟩ (jc_Mo_least l g  (jf_Mo_least y8_1 y9_1) (jf_Mo_least y10_1 y11_1) _ rfl) (va_cwS 2 hts gX7_meets_X7_least rfl rfl rfl (by decide +kernel) ⟨Nat.le_of_ble_eq_true rfl, Nat.le_of_ble_eq_true rfl⟩) (jpr_s hK hP) rfl rfl hl.1 rfl (lv_room (Nat.le_of_ble_eq_true rfl)) dX7_meets_134 ⟨Nat.zero_le _, Nat.zero_le _⟩) ?_
          refine lv_if_gt (tgt := 164) hx hb dX7_meets_137 (by decide) (fun c_5 => ?_) (fun c_5 => ?_)
          · replace hR := Eq.trans (Eq.symm (if_pos c_5)) hR
            refine lv_iconst (v := 0) hx hb dX7_meets_164 (by decide) ?_
            exact fin _ _ _ (Eq.trans (by decide) hR) dX7_meets_165
          · replace hR := Eq.trans (Eq.symm (if_neg c_5)) hR
            refine lv_iload hx hb dX7_meets_140 (lv_at hl 3 rfl) ?_
            refine lv_iload hx hb dX7_meets_142 (lv_at hl 2 rfl) ?_
            refine jcall_ri (va_runS (As := [.int y8_1, .int y9_1]) (rest := []) ⟨hx, hb, hml, hown, hts⟩ (jc_Mo_most l g  y8_1 y9_1 _ rfl) (va_cwS 2 hts gX7_meets_X7_most rfl rfl rfl (by decide +kernel) ⟨Nat.le_of_ble_eq_true rfl, Nat.le_of_ble_eq_true rfl⟩) (jpr_s hK hP) rfl rfl hl.1 rfl (lv_room (Nat.le_of_ble_eq_true rfl)) dX7_meets_144 ⟨Nat.zero_le _, Nat.zero_le _⟩) ?_
            refine lv_iload hx hb dX7_meets_147 (lv_at hl 1 rfl) ?_
            refine lv_iload hx hb dX7_meets_149 (lv_at hl 0 rfl) ?_
            refine jcall_ri (va_runS (As := [.int y10_1, .int y11_1]) (rest := [.int (jf_Mo_most y8_1 y9_1)]) ⟨hx, hb, hml, hown, hts⟩ (jc_Mo_most l g  y10_1 y11_1 _ rfl) (va_cwS 2 hts gX7_meets_X7_most rfl rfl rfl (by decide +kernel) ⟨Nat.le_of_ble_eq_true rfl, Nat.le_of_ble_eq_true rfl⟩) (jpr_s hK hP) rfl rfl hl.1 rfl (lv_room (Nat.le_of_ble_eq_true rfl)) dX7_meets_151 ⟨Nat.zero_le _, Nat.zero_le _⟩) ?_
            refine jcall_ri (va_runS (As := [.int (jf_Mo_most y8_1 y9_1), .int (jf_Mo_most y10_1 y11_1)]) (rest := []) ⟨hx, hb, hml, hown, hts⟩ (jc_Mo_most l g  (jf_Mo_most y8_1 y9_1) (jf_Mo_most y10_1 y11_1) _ rfl) (va_cwS 2 hts gX7_meets_X7_most rfl rfl rfl (by decide +kernel) ⟨Nat.le_of_ble_eq_true rfl, Nat.le_of_ble_eq_true rfl⟩) (jpr_s hK hP) rfl rfl hl.1 rfl (lv_room (Nat.le_of_ble_eq_true rfl)) dX7_meets_154 ⟨Nat.zero_le _, Nat.zero_le _⟩) ?_
            refine lv_if_lt (tgt := 164) hx hb dX7_meets_157 (by decide) (fun c_6 => ?_) (fun c_6 => ?_)
            · replace hR := Eq.trans (Eq.symm (if_pos c_6)) hR
              refine lv_iconst (v := 0) hx hb dX7_meets_164 (by decide) ?_
              exact fin _ _ _ (Eq.trans (by decide) hR) dX7_meets_165
            · replace hR := Eq.trans (Eq.symm (if_neg c_6)) hR
              refine lv_iconst (v := 1) hx hb dX7_meets_160 (by decide) ?_
              refine lv_goto (tgt := 165) hx hb dX7_meets_161 (by decide) ?_
              exact fin _ _ _ (Eq.trans (by decide) hR) dX7_meets_165
        · replace hR := Eq.trans (Eq.symm (if_neg c_4)) hR
          refine lv_iconst (v := 0) hx hb dX7_meets_40 (by decide) ?_
          exact fin _ _ _ (Eq.trans (by decide) hR) dX7_meets_41
def jf_Mo_areInSight_b77 (self : Int32 → Int32 → Option Int32) (v_isBlock : Nat → Int32) (z1 : Int32) (z2 : Int32) (z3 : Int32) (z4 : Int32) (z6 : Int32) (s0 : Int32) : Option Int32 :=
  self s0 (z6 + 1)
def jf_Mo_areInSight_b72 (self : Int32 → Int32 → Option Int32) (v_isBlock : Nat → Int32) (z1 : Int32) (z2 : Int32) (z3 : Int32) (z4 : Int32) (z6 : Int32) : Option Int32 :=
  jf_Mo_areInSight_b77 self v_isBlock z1 z2 z3 z4 z6 1
def jf_Mo_areInSight_L29 (v_isBlock : Nat → Int32) (z1 : Int32) (z2 : Int32) (z3 : Int32) (z4 : Int32) : Nat → Int32 → Int32 → Option Int32
  | 0, _, _ => none
  | n + 1, z5, z6 =>
    if 64 ≤ z6 then (some z5) else (if z5 = 0 then (some z5) else (if jin z6 64 = true then (if v_isBlock z6.toNatClampNeg = 0 then (jf_Mo_areInSight_b72 (jf_Mo_areInSight_L29 v_isBlock z1 z2 z3 z4 n) v_isBlock z1 z2 z3 z4 z6) else (if (jf_Mo_meets z1 z2 z3 z4 (z6 - z6 / 8 * 8) (z6 / 8)) = 0 then (jf_Mo_areInSight_b72 (jf_Mo_areInSight_L29 v_isBlock z1 z2 z3 z4 n) v_isBlock z1 z2 z3 z4 z6) else (jf_Mo_areInSight_b77 (jf_Mo_areInSight_L29 v_isBlock z1 z2 z3 z4 n) v_isBlock z1 z2 z3 z4 z6 0))) else none))
def jf_Mo_areInSight_b24 (v_isBlock : Nat → Int32) (z1 : Int32) (z2 : Int32) (z3 : Int32) (z4 : Int32) (s0 : Int32) : Option Int32 :=
  Option.bind (jf_Mo_areInSight_L29 v_isBlock z1 z2 z3 z4 jF s0 0) (fun q_2 => some (q_2 &&& 1))
def jf_Mo_areInSight_b23 (v_isBlock : Nat → Int32) (z1 : Int32) (z2 : Int32) (z3 : Int32) (z4 : Int32) : Option Int32 :=
  jf_Mo_areInSight_b24 v_isBlock z1 z2 z3 z4 0
def jf_Mo_areInSight (v_isBlock : Nat → Int32) (x1 : Int32) (x2 : Int32) (x3 : Int32) (x4 : Int32) : Option Int32 :=
  Option.bind (jf_Mo_isFloor v_isBlock x1 x2) (fun q_1 => if q_1 = 0 then (jf_Mo_areInSight_b23 v_isBlock x1 x2 x3 x4) else (Option.bind (jf_Mo_isFloor v_isBlock x3 x4) (fun q_3 => if q_3 = 0 then (jf_Mo_areInSight_b23 v_isBlock x1 x2 x3 x4) else (jf_Mo_areInSight_b24 v_isBlock x1 x2 x3 x4 1))))
abbrev jr_Mo_areInSight : Room := { frames := 3, cells := 0, slots := 0, locals := 65 }
set_option maxRecDepth 100000 in
set_option maxHeartbeats 4000000 in
theorem jc_Mo_areInSight (l : Launch) (g : jG) (a_this a_this_isBlock a_this_isSeen a_this_lampX a_this_lampY a_this_right a_this_up a_this_keptRight a_this_keptUp a_this_name a_this_part a_this_codes a_this_above a_this_below a_this_length a_this_isMet : Nat) (v_thrown : Int32) (v_isBounce : Int32) (v_lamps : Int32) (v_squares : Int32) (v_intervals : Int32) (v_isBlock : Nat → Int32) (v_isSeen : Nat → Int32) (v_lampX : Nat → Int32) (v_lampY : Nat → Int32) (v_right : Nat → Int32) (v_up : Nat → Int32) (v_keptRight : Nat → Int32) (v_keptUp : Nat → Int32) (v_name : Nat → Int32) (v_part : Nat → Int32) (v_codes : Nat → Int32) (v_above : Nat → Int32) (v_below : Nat → Int32) (v_length : Nat → Int32) (v_isMet : Nat → Int32) (x1 : Int32) (x2 : Int32) (x3 : Int32) (x4 : Int32) (R : Int32) (hR : jf_Mo_areInSight v_isBlock x1 x2 x3 x4 = some R) : Met l yX7_areInSight wsX7_areInSight jr_Mo_areInSight (jPr g [.ref a_this, .int x1, .int x2, .int x3, .int x4] (jw_Mo g a_this a_this_isBlock a_this_isSeen a_this_lampX a_this_lampY a_this_right a_this_up a_this_keptRight a_this_keptUp a_this_name a_this_part a_this_codes a_this_above a_this_below a_this_length a_this_isMet v_thrown v_isBounce v_lamps v_squares v_intervals v_isBlock v_isSeen v_lampX v_lampY v_right v_up v_keptRight v_keptUp v_name v_part v_codes v_above v_below v_length v_isMet)) (vp_Si (fun r => r = R)) 0 0 (fun _ => False) := by
  refine jm_rz (cc := cX7_areInSight) (maxL := 7) (by decide +kernel) rfl (Nat.le_of_ble_eq_true rfl) ?_
  intro p e s m below meth c Q hx hb hml hown hts hK hP fin ls hl
  have hl : lv_has ls 7 [(0, .ref a_this), (1, .int x1), (2, .int x2), (3, .int x3), (4, .int x4)] := hl
  have hown : s.vm.findClass RX7 = some m.cls := hown
  have w_X7 : ∀ w ∈ u_ws RX7 TX7 20, w ∈ wsX7_areInSight := by decide +kernel
  have w_f7 := hts (.fieldLink RX7 7 "BilliardryModel" "isBlock" "[Z") (by decide +kernel)
  have L29 : ∀ (n : Nat) (z1 : Int32) (z2 : Int32) (z3 : Int32) (z4 : Int32) (z5 : Int32) (z6 : Int32) (ls : Array Slot), lv_has ls 7 [(0, .ref a_this), (1, .int z1), (2, .int z2), (3, .int z3), (4, .int z4), (5, .int z5), (6, .int z6)] → ∀ q, jf_Mo_areInSight_L29 v_isBlock z1 z2 z3 z4 n z5 z6 = some q → (∀ ls : Array Slot, lv_has ls 7 [(5, .int q)] → W p l e jr_Mo_areInSight s m ([.ref a_this, .int x1, .int x2, .int x3, .int x4] : List Value).toArray below meth c s.heap [] 0 0 Q (F0 m 85 ls [])) → W p l e jr_Mo_areInSight s m ([.ref a_this, .int x1, .int x2, .int x3, .int x4] : List Value).toArray below meth c s.heap [] 0 0 Q (F0 m 29 ls []) := by
    intro n z1 z2 z3 z4
    induction n with
    | zero =>
      intro z5 z6 ls hl q hR k
      cases hR
    | succ n ih =>
      have J77 : ∀ (z6 : Int32) (s0 : Int32) (ls : Array Slot), lv_has ls 7 [(0, .ref a_this), (1, .int z1), (2, .int z2), (3, .int z3), (4, .int z4), (6, .int z6)] → ∀ q, jf_Mo_areInSight_b77 (jf_Mo_areInSight_L29 v_isBlock z1 z2 z3 z4 n) v_isBlock z1 z2 z3 z4 z6 s0 = some q → (∀ ls : Array Slot, lv_has ls 7 [(5, .int q)] → W p l e jr_Mo_areInSight s m ([.ref a_this, .int x1, .int x2, .int x3, .int x4] : List Value).toArray below meth c s.heap [] 0 0 Q (F0 m 85 ls [])) → W p l e jr_Mo_areInSight s m ([.ref a_this, .int x1, .int x2, .int x3, .int x4] : List Value).toArray below meth c s.heap [] 0 0 Q (F0 m 77 ls [.int s0]) := by
        intro z6 s0 ls hl q hR k
        rw [jf_Mo_areInSight_b77] at hR
        refine lv_istore (lv' := [(5, .int s0), (0, .ref a_this), (1, .int z1), (2, .int z2), (3, .int z3), (4, .int z4), (6, .int z6)]) hx hb dX7_areInSight_77 hl (by decide) rfl (fun ls hl => ?_)
        refine lv_iinc (v := z6 + 1) (lv' := [(6, .int (z6 + 1)), (5, .int s0), (0, .ref a_this), (1, .int z1), (2, .int z2), (3, .int z3), (4, .int z4)]) hx hb dX7_areInSight_79 hl (k := 6) rfl (by first | rfl | decide) (by decide) rfl (fun ls hl => ?_)
        refine lv_goto (tgt := 29) hx hb dX7_areInSight_82 (by decide) ?_
        exact ih s0 (z6 + 1) _ (lv_sub hl [2, 3, 4, 5, 6, 1, 0] rfl) _ hR k
      have J72 : ∀ (z6 : Int32) (ls : Array Slot), lv_has ls 7 [(0, .ref a_this), (1, .int z1), (2, .int z2), (3, .int z3), (4, .int z4), (6, .int z6)] → ∀ q, jf_Mo_areInSight_b72 (jf_Mo_areInSight_L29 v_isBlock z1 z2 z3 z4 n) v_isBlock z1 z2 z3 z4 z6 = some q → (∀ ls : Array Slot, lv_has ls 7 [(5, .int q)] → W p l e jr_Mo_areInSight s m ([.ref a_this, .int x1, .int x2, .int x3, .int x4] : List Value).toArray below meth c s.heap [] 0 0 Q (F0 m 85 ls [])) → W p l e jr_Mo_areInSight s m ([.ref a_this, .int x1, .int x2, .int x3, .int x4] : List Value).toArray below meth c s.heap [] 0 0 Q (F0 m 72 ls []) := by
        intro z6 ls hl q hR k
        rw [jf_Mo_areInSight_b72] at hR
        refine lv_iconst (v := 1) hx hb dX7_areInSight_72 (by decide) ?_
        refine lv_goto (tgt := 77) hx hb dX7_areInSight_73 (by decide) ?_
        exact J77 z6 1 _ (lv_sub hl [0, 1, 2, 3, 4, 5] rfl) _ hR k
      intro z5 z6 ls hl q hR k
      rw [jf_Mo_areInSight_L29] at hR
      refine lv_iload hx hb dX7_areInSight_29 (lv_at hl 6 rfl) ?_
      refine lv_bipush (v := 64) hx hb dX7_areInSight_31 (by decide) ?_
      refine lv_icmp_ge (tgt := 85) hx hb dX7_areInSight_33 (by decide) (fun c_2 => ?_) (fun c_2 => ?_)
      · replace hR := Eq.trans (Eq.symm (if_pos c_2)) hR
        cases hR
        exact k _ (lv_sub hl [5] rfl)
      · replace hR := Eq.trans (Eq.symm (if_neg c_2)) hR
        refine lv_iload hx hb dX7_areInSight_36 (lv_at hl 5 rfl) ?_
        refine lv_if_eq (tgt := 85) hx hb dX7_areInSight_38 (by decide) (fun c_3 => ?_) (fun c_3 => ?_)
        · replace hR := Eq.trans (Eq.symm (if_pos c_3)) hR
          cases hR
          exact k _ (lv_sub hl [5] rfl)
        · replace hR := Eq.trans (Eq.symm (if_neg c_3)) hR
          refine lv_aload_n hx hb dX7_areInSight_41 rfl (lv_at hl 0 rfl) ?_
          refine va_get (D := g.1) (ci := 7) (v := .ref a_this_isBlock) (C := RX7) (T := TX7) (N := 20) hx hb hts w_X7 hown hK.1 hP 0 rfl rfl 1 (by decide) w_f7 (fun _ h9 => h9) rfl dX7_areInSight_42 ?_
          refine lv_iload hx hb dX7_areInSight_45 (lv_at hl 6 rfl) ?_
          by_cases c_4 : jin z6 64 = true
          case neg => replace hR := Eq.trans (Eq.symm (if_neg c_4)) hR; cases hR
          replace hR := Eq.trans (Eq.symm (if_pos c_4)) hR
          refine va_zald hx hb hK.1 hP 1 2 rfl rfl (jin_in c_4) dX7_areInSight_47 ?_
          refine lv_if_eq (tgt := 72) hx hb dX7_areInSight_48 (by decide) (fun c_5 => ?_) (fun c_5 => ?_)
          · replace hR := Eq.trans (Eq.symm (if_pos c_5)) hR
            exact J72 z6 _ (lv_sub hl [0, 1, 2, 3, 4, 6] rfl) _ hR k
          · replace hR := Eq.trans (Eq.symm (if_neg c_5)) hR
            refine lv_iload_n hx hb dX7_areInSight_51 rfl (lv_at hl 1 rfl) ?_
            refine lv_iload_n hx hb dX7_areInSight_52 rfl (lv_at hl 2 rfl) ?_
            refine lv_iload_n hx hb dX7_areInSight_53 rfl (lv_at hl 3 rfl) ?_
            refine lv_iload hx hb dX7_areInSight_54 (lv_at hl 4 rfl) ?_
            refine lv_iload hx hb dX7_areInSight_56 (lv_at hl 6 rfl) ?_
            refine lv_bipush (v := 8) hx hb dX7_areInSight_58 (by decide) ?_
            refine lv_irem hx hb dX7_areInSight_60 (by decide) ?_
            refine lv_iload hx hb dX7_areInSight_61 (lv_at hl 6 rfl) ?_
            refine lv_bipush (v := 8) hx hb dX7_areInSight_63 (by decide) ?_
            refine lv_idiv hx hb dX7_areInSight_65 (by decide) ?_
            refine jcall_ri (va_runS (As := [.int z1, .int z2, .int z3, .int z4, .int (z6 - z6 / 8 * 8), .int (z6 / 8)]) (rest := []) ⟨hx, hb, hml, hown, hts⟩ (jc_Mo_meets l g  z1 z2 z3 z4 (z6 - z6 / 8 * 8) (z6 / 8) _ rfl) (va_cwS 6 hts gX7_areInSight_X7_meets rfl rfl rfl (by decide +kernel) ⟨Nat.le_of_ble_eq_true rfl, Nat.le_of_ble_eq_true rfl⟩) (jpr_s hK (hP.sub (ws' := []) [] rfl)) rfl rfl hl.1 rfl (lv_room (Nat.le_of_ble_eq_true rfl)) dX7_areInSight_66 ⟨Nat.zero_le _, Nat.zero_le _⟩) ?_
            refine lv_if_ne (tgt := 76) hx hb dX7_areInSight_69 (by decide) (fun c_6 => ?_) (fun c_6 => ?_)
            · replace hR := Eq.trans (Eq.symm (if_neg c_6)) hR
              refine lv_iconst (v := 0) hx hb dX7_areInSight_76 (by decide) ?_
              exact J77 z6 0 _ (lv_sub hl [0, 1, 2, 3, 4, 6] rfl) _ hR k
            · replace hR := Eq.trans (Eq.symm (if_pos c_6)) hR
              exact J72 z6 _ (lv_sub hl [0, 1, 2, 3, 4, 6] rfl) _ hR k
  have J24 : ∀ (z1 : Int32) (z2 : Int32) (z3 : Int32) (z4 : Int32) (s0 : Int32) (ls : Array Slot), lv_has ls 7 [(0, .ref a_this), (1, .int z1), (2, .int z2), (3, .int z3), (4, .int z4)] → jf_Mo_areInSight_b24 v_isBlock z1 z2 z3 z4 s0 = some R → W p l e jr_Mo_areInSight s m ([.ref a_this, .int x1, .int x2, .int x3, .int x4] : List Value).toArray below meth c s.heap [] 0 0 Q (F0 m 24 ls [.int s0]) := by
    intro z1 z2 z3 z4 s0 ls hl hR
    rw [jf_Mo_areInSight_b24] at hR
    refine lv_istore (lv' := [(5, .int s0), (0, .ref a_this), (1, .int z1), (2, .int z2), (3, .int z3), (4, .int z4)]) hx hb dX7_areInSight_24 hl (by decide) rfl (fun ls hl => ?_)
    refine lv_iconst (v := 0) hx hb dX7_areInSight_26 (by decide) ?_
    refine lv_istore (lv' := [(6, .int 0), (5, .int s0), (0, .ref a_this), (1, .int z1), (2, .int z2), (3, .int z3), (4, .int z4)]) hx hb dX7_areInSight_27 hl (by decide) rfl (fun ls hl => ?_)
    obtain ⟨q_2, hq_2, hR⟩ := jbind hR
    try dsimp only at hR
    refine L29 jF z1 z2 z3 z4 s0 0 _ (lv_sub hl [2, 3, 4, 5, 6, 1, 0] rfl) _ hq_2 (fun ls hl => ?_)
    refine lv_iload hx hb dX7_areInSight_85 (lv_at hl 0 rfl) ?_
    exact fin _ _ _ (Option.some.inj hR) dX7_areInSight_87
  have J23 : ∀ (z1 : Int32) (z2 : Int32) (z3 : Int32) (z4 : Int32) (ls : Array Slot), lv_has ls 7 [(0, .ref a_this), (1, .int z1), (2, .int z2), (3, .int z3), (4, .int z4)] → jf_Mo_areInSight_b23 v_isBlock z1 z2 z3 z4 = some R → W p l e jr_Mo_areInSight s m ([.ref a_this, .int x1, .int x2, .int x3, .int x4] : List Value).toArray below meth c s.heap [] 0 0 Q (F0 m 23 ls []) := by
    intro z1 z2 z3 z4 ls hl hR
    rw [jf_Mo_areInSight_b23] at hR
    refine lv_iconst (v := 0) hx hb dX7_areInSight_23 (by decide) ?_
    exact J24 z1 z2 z3 z4 0 _ (lv_sub hl [0, 1, 2, 3, 4] rfl) hR
  rw [jf_Mo_areInSight] at hR
  refine lv_aload_n hx hb dX7_areInSight_0 rfl (lv_at hl 0 rfl) ?_
  refine lv_iload_n hx hb dX7_areInSight_1 rfl (lv_at hl 1 rfl) ?_
  refine lv_iload_n hx hb dX7_areInSight_2 rfl (lv_at hl 2 rfl) ?_
  obtain ⟨q_1, hq_1, hR⟩ := jbind hR
  try dsimp only at hR
  refine jcall_ri (va_runV (As := [.int x1, .int x2]) (rest := []) ⟨hx, hb, hml, hown, hts⟩ (jc_Mo_isFloor l g a_this a_this_isBlock a_this_isSeen a_this_lampX a_this_lampY a_this_right a_this_up a_this_keptRight a_this_keptUp a_this_name a_this_part a_this_codes a_this_above a_this_below a_this_length a_this_isMet v_thrown v_isBounce v_lamps v_squares v_intervals v_isBlock v_isSeen v_lampX v_lampY v_right v_up v_keptRight v_keptUp v_name v_part v_codes v_above v_below v_length v_isMet x1 x2 _ hq_1) (cwV 2 hts gX7_areInSight_X7_isFloor rfl rfl rfl (by decide +kernel) ⟨Nat.le_of_ble_eq_true rfl, Nat.le_of_ble_eq_true rfl⟩) (jpr_v hK hP (ci := 7) (q0 := 0) rfl rfl) rfl rfl hl.1 rfl (lv_room (Nat.le_of_ble_eq_true rfl)) dX7_areInSight_3 ⟨Nat.zero_le _, Nat.zero_le _⟩) ?_
  refine lv_if_eq (tgt := 23) hx hb dX7_areInSight_6 (by decide) (fun c_1 => ?_) (fun c_1 => ?_)
  · replace hR := Eq.trans (Eq.symm (if_pos c_1)) hR
    exact J23 x1 x2 x3 x4 _ (lv_sub hl [0, 1, 2, 3, 4] rfl) hR
  · replace hR := Eq.trans (Eq.symm (if_neg c_1)) hR
    refine lv_aload_n hx hb dX7_areInSight_9 rfl (lv_at hl 0 rfl) ?_
    refine lv_iload_n hx hb dX7_areInSight_10 rfl (lv_at hl 3 rfl) ?_
    refine lv_iload hx hb dX7_areInSight_11 (lv_at hl 4 rfl) ?_
    obtain ⟨q_3, hq_3, hR⟩ := jbind hR
    try dsimp only at hR
    refine jcall_ri (va_runV (As := [.int x3, .int x4]) (rest := []) ⟨hx, hb, hml, hown, hts⟩ (jc_Mo_isFloor l g a_this a_this_isBlock a_this_isSeen a_this_lampX a_this_lampY a_this_right a_this_up a_this_keptRight a_this_keptUp a_this_name a_this_part a_this_codes a_this_above a_this_below a_this_length a_this_isMet v_thrown v_isBounce v_lamps v_squares v_intervals v_isBlock v_isSeen v_lampX v_lampY v_right v_up v_keptRight v_keptUp v_name v_part v_codes v_above v_below v_length v_isMet x3 x4 _ hq_3) (cwV 2 hts gX7_areInSight_X7_isFloor rfl rfl rfl (by decide +kernel) ⟨Nat.le_of_ble_eq_true rfl, Nat.le_of_ble_eq_true rfl⟩) (jpr_v hK hP (ci := 7) (q0 := 0) rfl rfl) rfl rfl hl.1 rfl (lv_room (Nat.le_of_ble_eq_true rfl)) dX7_areInSight_13 ⟨Nat.zero_le _, Nat.zero_le _⟩) ?_
    refine lv_if_eq (tgt := 23) hx hb dX7_areInSight_16 (by decide) (fun c_7 => ?_) (fun c_7 => ?_)
    · replace hR := Eq.trans (Eq.symm (if_pos c_7)) hR
      exact J23 x1 x2 x3 x4 _ (lv_sub hl [0, 1, 2, 3, 4] rfl) hR
    · replace hR := Eq.trans (Eq.symm (if_neg c_7)) hR
      refine lv_iconst (v := 1) hx hb dX7_areInSight_19 (by decide) ?_
      refine lv_goto (tgt := 24) hx hb dX7_areInSight_20 (by decide) ?_
      exact J24 x1 x2 x3 x4 1 _ (lv_sub hl [0, 1, 2, 3, 4] rfl) hR
def jf_Mo_sees_b23 (v_thrown : Int32) (v_isBlock : Nat → Int32) (z1 : Int32) (z2 : Int32) (z3 : Int32) (z4 : Int32) (s1 : Int32) : Option (Int32 × Int32) :=
  if s1 = 0 then (Option.bind (jf_Mo_areInSight v_isBlock z1 z2 z3 z4) (fun q_1 => if q_1 = 0 then (some (0, s1)) else (some (1, s1)))) else (some (0, s1))
def jf_Mo_sees_b22 (v_thrown : Int32) (v_isBlock : Nat → Int32) (z1 : Int32) (z2 : Int32) (z3 : Int32) (z4 : Int32) : Option (Int32 × Int32) :=
  jf_Mo_sees_b23 v_thrown v_isBlock z1 z2 z3 z4 1
def jf_Mo_sees (v_thrown : Int32) (v_isBlock : Nat → Int32) (x1 : Int32) (x2 : Int32) (x3 : Int32) (x4 : Int32) : Option (Int32 × Int32) :=
  if (jf_Mo_isCell x1 x2) = 0 then (jf_Mo_sees_b22 v_thrown v_isBlock x1 x2 x3 x4) else (if (jf_Mo_isCell x3 x4) = 0 then (jf_Mo_sees_b22 v_thrown v_isBlock x1 x2 x3 x4) else (jf_Mo_sees_b23 v_thrown v_isBlock x1 x2 x3 x4 0))
abbrev jr_Mo_sees : Room := { frames := 4, cells := 0, slots := 0, locals := 91 }
set_option maxRecDepth 100000 in
set_option maxHeartbeats 4000000 in
theorem jc_Mo_sees (l : Launch) (g : jG) (a_this a_this_isBlock a_this_isSeen a_this_lampX a_this_lampY a_this_right a_this_up a_this_keptRight a_this_keptUp a_this_name a_this_part a_this_codes a_this_above a_this_below a_this_length a_this_isMet : Nat) (v_thrown : Int32) (v_isBounce : Int32) (v_lamps : Int32) (v_squares : Int32) (v_intervals : Int32) (v_isBlock : Nat → Int32) (v_isSeen : Nat → Int32) (v_lampX : Nat → Int32) (v_lampY : Nat → Int32) (v_right : Nat → Int32) (v_up : Nat → Int32) (v_keptRight : Nat → Int32) (v_keptUp : Nat → Int32) (v_name : Nat → Int32) (v_part : Nat → Int32) (v_codes : Nat → Int32) (v_above : Nat → Int32) (v_below : Nat → Int32) (v_length : Nat → Int32) (v_isMet : Nat → Int32) (x1 : Int32) (x2 : Int32) (x3 : Int32) (x4 : Int32) (R : Int32 × Int32) (hR : jf_Mo_sees v_thrown v_isBlock x1 x2 x3 x4 = some R) (sz : Nat) : Met l yX7_sees wsX7_sees jr_Mo_sees (jPw g [.ref a_this, .int x1, .int x2, .int x3, .int x4] (jw_Mo g a_this a_this_isBlock a_this_isSeen a_this_lampX a_this_lampY a_this_right a_this_up a_this_keptRight a_this_keptUp a_this_name a_this_part a_this_codes a_this_above a_this_below a_this_length a_this_isMet v_thrown v_isBounce v_lamps v_squares v_intervals v_isBlock v_isSeen v_lampX v_lampY v_right v_up v_keptRight v_keptUp v_name v_part v_codes v_above v_below v_length v_isMet) sz) (jQi g R.1 (jw_Mo g a_this a_this_isBlock a_this_isSeen a_this_lampX a_this_lampY a_this_right a_this_up a_this_keptRight a_this_keptUp a_this_name a_this_part a_this_codes a_this_above a_this_below a_this_length a_this_isMet R.2 v_isBounce v_lamps v_squares v_intervals v_isBlock v_isSeen v_lampX v_lampY v_right v_up v_keptRight v_keptUp v_name v_part v_codes v_above v_below v_length v_isMet) (va_A (jw_Mo g a_this a_this_isBlock a_this_isSeen a_this_lampX a_this_lampY a_this_right a_this_up a_this_keptRight a_this_keptUp a_this_name a_this_part a_this_codes a_this_above a_this_below a_this_length a_this_isMet v_thrown v_isBounce v_lamps v_squares v_intervals v_isBlock v_isSeen v_lampX v_lampY v_right v_up v_keptRight v_keptUp v_name v_part v_codes v_above v_below v_length v_isMet) sz)) 0 0 (va_A (jw_Mo g a_this a_this_isBlock a_this_isSeen a_this_lampX a_this_lampY a_this_right a_this_up a_this_keptRight a_this_keptUp a_this_name a_this_part a_this_codes a_this_above a_this_below a_this_length a_this_isMet v_thrown v_isBounce v_lamps v_squares v_intervals v_isBlock v_isSeen v_lampX v_lampY v_right v_up v_keptRight v_keptUp v_name v_part v_codes v_above v_below v_length v_isMet) sz) := by
  refine jm_wz (cc := cX7_sees) (maxL := 5) (by decide +kernel) rfl (Nat.le_of_ble_eq_true rfl) ?_
  intro p e s m below meth c A Q hx hb hml hown hts hK hP hD hA hS fin ls hl
  have hl : lv_has ls 5 [(0, .ref a_this), (1, .int x1), (2, .int x2), (3, .int x3), (4, .int x4)] := hl
  have hown : s.vm.findClass RX7 = some m.cls := hown
  have w_X7 : ∀ w ∈ u_ws RX7 TX7 20, w ∈ wsX7_sees := by decide +kernel
  have w_f60 := hts (.fieldLink RX7 60 "BilliardryModel" "thrown" "I") (by decide +kernel)
  have J23 : ∀ (v_thrown : Int32) (z1 : Int32) (z2 : Int32) (z3 : Int32) (z4 : Int32) (s1 : Int32) (H : Heap) (locs : List Loc), va_P g.1 vwCl (jw_Mo g a_this a_this_isBlock a_this_isSeen a_this_lampX a_this_lampY a_this_right a_this_up a_this_keptRight a_this_keptUp a_this_name a_this_part a_this_codes a_this_above a_this_below a_this_length a_this_isMet v_thrown v_isBounce v_lamps v_squares v_intervals v_isBlock v_isSeen v_lampX v_lampY v_right v_up v_keptRight v_keptUp v_name v_part v_codes v_above v_below v_length v_isMet) H → va_S A s.heap H locs → ∀ (ls : Array Slot), lv_has ls 5 [(0, .ref a_this), (1, .int z1), (2, .int z2), (3, .int z3), (4, .int z4)] → jf_Mo_sees_b23 v_thrown v_isBlock z1 z2 z3 z4 s1 = some R → W p l e jr_Mo_sees s m ([.ref a_this, .int x1, .int x2, .int x3, .int x4] : List Value).toArray below meth c H locs 0 0 Q (F0 m 23 ls [.int s1, .ref a_this]) := by
    intro v_thrown z1 z2 z3 z4 s1 H locs hP hS ls hl hR
    rw [jf_Mo_sees_b23] at hR
    refine va_put (D := g.1) (ci := 7) (v := .int s1) (ty := .int) (C := RX7) (T := TX7) (N := 20) hx hb hts w_X7 tyX7 tyX7_ok nmX7 hown hK.1 hP (jD_to hD rfl) hS 0 rfl rfl 0 (by decide) w_f60 (fun _ h9 => h9) rfl (by decide +kernel) rfl rfl (Nat.le_of_ble_eq_true rfl) dX7_sees_23 (fun H locs hP _ hS => ?_)
    have hP : va_P g.1 vwCl (jw_Mo g a_this a_this_isBlock a_this_isSeen a_this_lampX a_this_lampY a_this_right a_this_up a_this_keptRight a_this_keptUp a_this_name a_this_part a_this_codes a_this_above a_this_below a_this_length a_this_isMet s1 v_isBounce v_lamps v_squares v_intervals v_isBlock v_isSeen v_lampX v_lampY v_right v_up v_keptRight v_keptUp v_name v_part v_codes v_above v_below v_length v_isMet) H := hP
    refine lv_aload_n hx hb dX7_sees_26 rfl (lv_at hl 0 rfl) ?_
    refine va_get (D := g.1) (ci := 7) (v := .int s1) (C := RX7) (T := TX7) (N := 20) hx hb hts w_X7 hown hK.1 hP 0 rfl rfl 0 (by decide) w_f60 (fun _ h9 => h9) rfl dX7_sees_27 ?_
    refine lv_if_ne (tgt := 49) hx hb dX7_sees_30 (by decide) (fun c_2 => ?_) (fun c_2 => ?_)
    · replace hR := Eq.trans (Eq.symm (if_neg c_2)) hR
      refine lv_iconst (v := 0) hx hb dX7_sees_49 (by decide) ?_
      obtain rfl := (Option.some.inj hR)
      exact fin _ _ _ _ _ (by first | rfl | decide) hP hS dX7_sees_50
    · replace hR := Eq.trans (Eq.symm (if_pos c_2)) hR
      refine lv_aload_n hx hb dX7_sees_33 rfl (lv_at hl 0 rfl) ?_
      refine lv_iload_n hx hb dX7_sees_34 rfl (lv_at hl 1 rfl) ?_
      refine lv_iload_n hx hb dX7_sees_35 rfl (lv_at hl 2 rfl) ?_
      refine lv_iload_n hx hb dX7_sees_36 rfl (lv_at hl 3 rfl) ?_
      refine lv_iload hx hb dX7_sees_37 (lv_at hl 4 rfl) ?_
      obtain ⟨q_1, hq_1, hR⟩ := jbind hR
      try dsimp only at hR
      refine jcall_ri (va_runV (As := [.int z1, .int z2, .int z3, .int z4]) (rest := []) ⟨hx, hb, hml, hown, hts⟩ (jc_Mo_areInSight l g a_this a_this_isBlock a_this_isSeen a_this_lampX a_this_lampY a_this_right a_this_up a_this_keptRight a_this_keptUp a_this_name a_this_part a_this_codes a_this_above a_this_below a_this_length a_this_isMet s1 v_isBounce v_lamps v_squares v_intervals v_isBlock v_isSeen v_lampX v_lampY v_right v_up v_keptRight v_keptUp v_name v_part v_codes v_above v_below v_length v_isMet z1 z2 z3 z4 _ hq_1) (cwV 4 hts gX7_sees_X7_areInSight rfl rfl rfl (by decide +kernel) ⟨Nat.le_of_ble_eq_true rfl, Nat.le_of_ble_eq_true rfl⟩) (jpr_v hK hP (ci := 7) (q0 := 0) rfl rfl) rfl rfl hl.1 rfl (lv_room (Nat.le_of_ble_eq_true rfl)) dX7_sees_39 ⟨Nat.zero_le _, Nat.zero_le _⟩) ?_
      refine lv_if_eq (tgt := 49) hx hb dX7_sees_42 (by decide) (fun c_3 => ?_) (fun c_3 => ?_)
      · replace hR := Eq.trans (Eq.symm (if_pos c_3)) hR
        refine lv_iconst (v := 0) hx hb dX7_sees_49 (by decide) ?_
        obtain rfl := (Option.some.inj hR)
        exact fin _ _ _ _ _ (by first | rfl | decide) hP hS dX7_sees_50
      · replace hR := Eq.trans (Eq.symm (if_neg c_3)) hR
        refine lv_iconst (v := 1) hx hb dX7_sees_45 (by decide) ?_
        refine lv_goto (tgt := 50) hx hb dX7_sees_46 (by decide) ?_
        obtain rfl := (Option.some.inj hR)
        exact fin _ _ _ _ _ (by first | rfl | decide) hP hS dX7_sees_50
  have J22 : ∀ (v_thrown : Int32) (z1 : Int32) (z2 : Int32) (z3 : Int32) (z4 : Int32) (H : Heap) (locs : List Loc), va_P g.1 vwCl (jw_Mo g a_this a_this_isBlock a_this_isSeen a_this_lampX a_this_lampY a_this_right a_this_up a_this_keptRight a_this_keptUp a_this_name a_this_part a_this_codes a_this_above a_this_below a_this_length a_this_isMet v_thrown v_isBounce v_lamps v_squares v_intervals v_isBlock v_isSeen v_lampX v_lampY v_right v_up v_keptRight v_keptUp v_name v_part v_codes v_above v_below v_length v_isMet) H → va_S A s.heap H locs → ∀ (ls : Array Slot), lv_has ls 5 [(0, .ref a_this), (1, .int z1), (2, .int z2), (3, .int z3), (4, .int z4)] → jf_Mo_sees_b22 v_thrown v_isBlock z1 z2 z3 z4 = some R → W p l e jr_Mo_sees s m ([.ref a_this, .int x1, .int x2, .int x3, .int x4] : List Value).toArray below meth c H locs 0 0 Q (F0 m 22 ls [.ref a_this]) := by
    intro v_thrown z1 z2 z3 z4 H locs hP hS ls hl hR
    rw [jf_Mo_sees_b22] at hR
    refine lv_iconst (v := 1) hx hb dX7_sees_22 (by decide) ?_
    exact J23 v_thrown z1 z2 z3 z4 1 _ _ hP hS _ (lv_sub hl [0, 1, 2, 3, 4] rfl) hR
  rw [jf_Mo_sees] at hR
  refine lv_aload_n hx hb dX7_sees_0 rfl (lv_at hl 0 rfl) ?_
  refine lv_iload_n hx hb dX7_sees_1 rfl (lv_at hl 1 rfl) ?_
  refine lv_iload_n hx hb dX7_sees_2 rfl (lv_at hl 2 rfl) ?_
  refine jcall_ri (va_runS (As := [.int x1, .int x2]) (rest := [.ref a_this]) ⟨hx, hb, hml, hown, hts⟩ (jc_Mo_isCell l g  x1 x2 _ rfl) (va_cwS 2 hts gX7_sees_X7_isCell rfl rfl rfl (by decide +kernel) ⟨Nat.le_of_ble_eq_true rfl, Nat.le_of_ble_eq_true rfl⟩) (jpr_s hK (hP.sub (ws' := []) [] rfl)) rfl rfl hl.1 rfl (lv_room (Nat.le_of_ble_eq_true rfl)) dX7_sees_3 ⟨Nat.zero_le _, Nat.zero_le _⟩) ?_
  refine lv_if_eq (tgt := 22) hx hb dX7_sees_6 (by decide) (fun c_1 => ?_) (fun c_1 => ?_)
  · replace hR := Eq.trans (Eq.symm (if_pos c_1)) hR
    exact J22 v_thrown x1 x2 x3 x4 _ _ hP hS _ (lv_sub hl [0, 1, 2, 3, 4] rfl) hR
  · replace hR := Eq.trans (Eq.symm (if_neg c_1)) hR
    refine lv_iload_n hx hb dX7_sees_9 rfl (lv_at hl 3 rfl) ?_
    refine lv_iload hx hb dX7_sees_10 (lv_at hl 4 rfl) ?_
    refine jcall_ri (va_runS (As := [.int x3, .int x4]) (rest := [.ref a_this]) ⟨hx, hb, hml, hown, hts⟩ (jc_Mo_isCell l g  x3 x4 _ rfl) (va_cwS 2 hts gX7_sees_X7_isCell rfl rfl rfl (by decide +kernel) ⟨Nat.le_of_ble_eq_true rfl, Nat.le_of_ble_eq_true rfl⟩) (jpr_s hK (hP.sub (ws' := []) [] rfl)) rfl rfl hl.1 rfl (lv_room (Nat.le_of_ble_eq_true rfl)) dX7_sees_12 ⟨Nat.zero_le _, Nat.zero_le _⟩) ?_
    refine lv_if_eq (tgt := 22) hx hb dX7_sees_15 (by decide) (fun c_4 => ?_) (fun c_4 => ?_)
    · replace hR := Eq.trans (Eq.symm (if_pos c_4)) hR
      exact J22 v_thrown x1 x2 x3 x4 _ _ hP hS _ (lv_sub hl [0, 1, 2, 3, 4] rfl) hR
    · replace hR := Eq.trans (Eq.symm (if_neg c_4)) hR
      refine lv_iconst (v := 0) hx hb dX7_sees_18 (by decide) ?_
      refine lv_goto (tgt := 23) hx hb dX7_sees_19 (by decide) ?_
      exact J23 v_thrown x1 x2 x3 x4 0 _ _ hP hS _ (lv_sub hl [0, 1, 2, 3, 4] rfl) hR
def jf_Mo_seesAnew (v_thrown : Int32) (v_isBlock : Nat → Int32) (x1 : Int32) (x2 : Int32) (x3 : Int32) (x4 : Int32) : Option (Int32 × Int32) :=
  Option.bind (jf_Mo_sees v_thrown v_isBlock x1 x2 x3 x4) (fun q_1 => some (q_1.1 &&& 1, q_1.2))
abbrev jr_Mo_seesAnew : Room := { frames := 5, cells := 0, slots := 0, locals := 115 }
set_option maxRecDepth 100000 in
set_option maxHeartbeats 4000000 in
theorem jc_Mo_seesAnew (l : Launch) (g : jG) (a_this a_this_isBlock a_this_isSeen a_this_lampX a_this_lampY a_this_right a_this_up a_this_keptRight a_this_keptUp a_this_name a_this_part a_this_codes a_this_above a_this_below a_this_length a_this_isMet : Nat) (v_thrown : Int32) (v_isBounce : Int32) (v_lamps : Int32) (v_squares : Int32) (v_intervals : Int32) (v_isBlock : Nat → Int32) (v_isSeen : Nat → Int32) (v_lampX : Nat → Int32) (v_lampY : Nat → Int32) (v_right : Nat → Int32) (v_up : Nat → Int32) (v_keptRight : Nat → Int32) (v_keptUp : Nat → Int32) (v_name : Nat → Int32) (v_part : Nat → Int32) (v_codes : Nat → Int32) (v_above : Nat → Int32) (v_below : Nat → Int32) (v_length : Nat → Int32) (v_isMet : Nat → Int32) (x1 : Int32) (x2 : Int32) (x3 : Int32) (x4 : Int32) (R : Int32 × Int32) (hR : jf_Mo_seesAnew v_thrown v_isBlock x1 x2 x3 x4 = some R) (sz : Nat) : Met l yX7_seesAnew wsX7_seesAnew jr_Mo_seesAnew (jPw g [.ref a_this, .int x1, .int x2, .int x3, .int x4] (jw_Mo g a_this a_this_isBlock a_this_isSeen a_this_lampX a_this_lampY a_this_right a_this_up a_this_keptRight a_this_keptUp a_this_name a_this_part a_this_codes a_this_above a_this_below a_this_length a_this_isMet v_thrown v_isBounce v_lamps v_squares v_intervals v_isBlock v_isSeen v_lampX v_lampY v_right v_up v_keptRight v_keptUp v_name v_part v_codes v_above v_below v_length v_isMet) sz) (jQi g R.1 (jw_Mo g a_this a_this_isBlock a_this_isSeen a_this_lampX a_this_lampY a_this_right a_this_up a_this_keptRight a_this_keptUp a_this_name a_this_part a_this_codes a_this_above a_this_below a_this_length a_this_isMet R.2 v_isBounce v_lamps v_squares v_intervals v_isBlock v_isSeen v_lampX v_lampY v_right v_up v_keptRight v_keptUp v_name v_part v_codes v_above v_below v_length v_isMet) (va_A (jw_Mo g a_this a_this_isBlock a_this_isSeen a_this_lampX a_this_lampY a_this_right a_this_up a_this_keptRight a_this_keptUp a_this_name a_this_part a_this_codes a_this_above a_this_below a_this_length a_this_isMet v_thrown v_isBounce v_lamps v_squares v_intervals v_isBlock v_isSeen v_lampX v_lampY v_right v_up v_keptRight v_keptUp v_name v_part v_codes v_above v_below v_length v_isMet) sz)) 0 0 (va_A (jw_Mo g a_this a_this_isBlock a_this_isSeen a_this_lampX a_this_lampY a_this_right a_this_up a_this_keptRight a_this_keptUp a_this_name a_this_part a_this_codes a_this_above a_this_below a_this_length a_this_isMet v_thrown v_isBounce v_lamps v_squares v_intervals v_isBlock v_isSeen v_lampX v_lampY v_right v_up v_keptRight v_keptUp v_name v_part v_codes v_above v_below v_length v_isMet) sz) := by
  refine jm_wz (cc := cX7_seesAnew) (maxL := 5) (by decide +kernel) rfl (Nat.le_of_ble_eq_true rfl) ?_
  intro p e s m below meth c A Q hx hb hml hown hts hK hP hD hA hS fin ls hl
  have hl : lv_has ls 5 [(0, .ref a_this), (1, .int x1), (2, .int x2), (3, .int x3), (4, .int x4)] := hl
  have hown : s.vm.findClass RX7 = some m.cls := hown
  rw [jf_Mo_seesAnew] at hR
  refine lv_aload_n hx hb dX7_seesAnew_0 rfl (lv_at hl 0 rfl) ?_
  refine lv_iload_n hx hb dX7_seesAnew_1 rfl (lv_at hl 1 rfl) ?_
  refine lv_iload_n hx hb dX7_seesAnew_2 rfl (lv_at hl 2 rfl) ?_
  refine lv_iload_n hx hb dX7_seesAnew_3 rfl (lv_at hl 3 rfl) ?_
  refine lv_iload hx hb dX7_seesAnew_4 (lv_at hl 4 rfl) ?_
  obtain ⟨q_1, hq_1, hR⟩ := jbind hR
  try dsimp only at hR
  refine jcall_wi (ws' := jw_Mo g a_this a_this_isBlock a_this_isSeen a_this_lampX a_this_lampY a_this_right a_this_up a_this_keptRight a_this_keptUp a_this_name a_this_part a_this_codes a_this_above a_this_below a_this_length a_this_isMet q_1.2 v_isBounce v_lamps v_squares v_intervals v_isBlock v_isSeen v_lampX v_lampY v_right v_up v_keptRight v_keptUp v_name v_part v_codes v_above v_below v_length v_isMet) (va_runV (As := [.int x1, .int x2, .int x3, .int x4]) (rest := []) ⟨hx, hb, hml, hown, hts⟩ (jc_Mo_sees l g a_this a_this_isBlock a_this_isSeen a_this_lampX a_this_lampY a_this_right a_this_up a_this_keptRight a_this_keptUp a_this_name a_this_part a_this_codes a_this_above a_this_below a_this_length a_this_isMet v_thrown v_isBounce v_lamps v_squares v_intervals v_isBlock v_isSeen v_lampX v_lampY v_right v_up v_keptRight v_keptUp v_name v_part v_codes v_above v_below v_length v_isMet x1 x2 x3 x4 _ hq_1 _) (cwV 4 hts gX7_seesAnew_X7_sees rfl rfl rfl (by decide +kernel) ⟨Nat.le_of_ble_eq_true rfl, Nat.le_of_ble_eq_true rfl⟩) (jpw_v hK hP (jD_to hD rfl) (ci := 7) (q0 := 0) rfl rfl) rfl rfl hl.1 rfl (lv_room (Nat.le_of_ble_eq_true rfl)) dX7_seesAnew_6 ⟨Nat.zero_le _, Nat.zero_le _⟩) hP (jD_to hD rfl) hS hA [0, 1, 2, 3, 4, 5, 6, 7, 8, 9, 10, 11, 12, 13, 14, 15] [] [0, 1, 2, 3, 4, 5, 6, 7, 8, 9, 10, 11, 12, 13, 14, 15] rfl (by decide) rfl (fun H locs hP hS => ?_)
  obtain rfl := (Option.some.inj hR)
  exact fin _ _ _ _ _ (by first | rfl | decide) hP hS dX7_seesAnew_9
def jf_Mo_lit_b67 (self : Int32 → Int32 → Option Int32) (v_lamps : Int32) (v_isBlock : Nat → Int32) (v_lampX : Nat → Int32) (v_lampY : Nat → Int32) (z1 : Int32) (z2 : Int32) (z4 : Int32) (s0 : Int32) : Option Int32 :=
  self s0 (z4 + 1)
def jf_Mo_lit_b62 (self : Int32 → Int32 → Option Int32) (v_lamps : Int32) (v_isBlock : Nat → Int32) (v_lampX : Nat → Int32) (v_lampY : Nat → Int32) (z1 : Int32) (z2 : Int32) (z4 : Int32) : Option Int32 :=
  jf_Mo_lit_b67 self v_lamps v_isBlock v_lampX v_lampY z1 z2 z4 1
def jf_Mo_lit_L20 (v_lamps : Int32) (v_isBlock : Nat → Int32) (v_lampX : Nat → Int32) (v_lampY : Nat → Int32) (z1 : Int32) (z2 : Int32) : Nat → Int32 → Int32 → Option Int32
  | 0, _, _ => none
  | n + 1, z3, z4 =>
    if v_lamps ≤ z4 then (some z3) else (if z3 = 0 then (if jin z4 6 = true then (if jin z4 6 = true then (Option.bind (jf_Mo_areInSight v_isBlock (z2 - z2 / 8 * 8) (z2 / 8) (v_lampX z4.toNatClampNeg) (v_lampY z4.toNatClampNeg)) (fun q_1 => if q_1 = 0 then (jf_Mo_lit_b67 (jf_Mo_lit_L20 v_lamps v_isBlock v_lampX v_lampY z1 z2 n) v_lamps v_isBlock v_lampX v_lampY z1 z2 z4 0) else (jf_Mo_lit_b62 (jf_Mo_lit_L20 v_lamps v_isBlock v_lampX v_lampY z1 z2 n) v_lamps v_isBlock v_lampX v_lampY z1 z2 z4))) else none) else none) else (jf_Mo_lit_b62 (jf_Mo_lit_L20 v_lamps v_isBlock v_lampX v_lampY z1 z2 n) v_lamps v_isBlock v_lampX v_lampY z1 z2 z4))
def jf_Mo_lit_b84 (self : Int32 → Int32 → Option Int32) (v_lamps : Int32) (v_isBlock : Nat → Int32) (v_lampX : Nat → Int32) (v_lampY : Nat → Int32) (z2 : Int32) (s0 : Int32) (s1 : Int32) : Option Int32 :=
  jlet (s0 + s1) (fun y1_1 => self y1_1 (z2 + 1))
def jf_Mo_lit_L9 (v_lamps : Int32) (v_isBlock : Nat → Int32) (v_lampX : Nat → Int32) (v_lampY : Nat → Int32) : Nat → Int32 → Int32 → Option Int32
  | 0, _, _ => none
  | n + 1, z1, z2 =>
    if 64 ≤ z2 then (some z1) else (Option.bind (jf_Mo_lit_L20 v_lamps v_isBlock v_lampX v_lampY z1 z2 jF 0 0) (fun q_2 => if q_2 = 0 then (jf_Mo_lit_b84 (jf_Mo_lit_L9 v_lamps v_isBlock v_lampX v_lampY n) v_lamps v_isBlock v_lampX v_lampY z2 z1 0) else (jf_Mo_lit_b84 (jf_Mo_lit_L9 v_lamps v_isBlock v_lampX v_lampY n) v_lamps v_isBlock v_lampX v_lampY z2 z1 1)))
def jf_Mo_lit (v_thrown : Int32) (v_lamps : Int32) (v_isBlock : Nat → Int32) (v_lampX : Nat → Int32) (v_lampY : Nat → Int32) : Option (Int32 × Int32) :=
  Option.bind (jf_Mo_lit_L9 v_lamps v_isBlock v_lampX v_lampY jF 0 0) (fun q_3 => some (q_3, 0))
abbrev jr_Mo_lit : Room := { frames := 4, cells := 0, slots := 0, locals := 91 }
set_option maxRecDepth 100000 in
set_option maxHeartbeats 4000000 in
theorem jc_Mo_lit (l : Launch) (g : jG) (a_this a_this_isBlock a_this_isSeen a_this_lampX a_this_lampY a_this_right a_this_up a_this_keptRight a_this_keptUp a_this_name a_this_part a_this_codes a_this_above a_this_below a_this_length a_this_isMet : Nat) (v_thrown : Int32) (v_isBounce : Int32) (v_lamps : Int32) (v_squares : Int32) (v_intervals : Int32) (v_isBlock : Nat → Int32) (v_isSeen : Nat → Int32) (v_lampX : Nat → Int32) (v_lampY : Nat → Int32) (v_right : Nat → Int32) (v_up : Nat → Int32) (v_keptRight : Nat → Int32) (v_keptUp : Nat → Int32) (v_name : Nat → Int32) (v_part : Nat → Int32) (v_codes : Nat → Int32) (v_above : Nat → Int32) (v_below : Nat → Int32) (v_length : Nat → Int32) (v_isMet : Nat → Int32) (R : Int32 × Int32) (hR : jf_Mo_lit v_thrown v_lamps v_isBlock v_lampX v_lampY = some R) (sz : Nat) : Met l yX7_lit wsX7_lit jr_Mo_lit (jPw g [.ref a_this] (jw_Mo g a_this a_this_isBlock a_this_isSeen a_this_lampX a_this_lampY a_this_right a_this_up a_this_keptRight a_this_keptUp a_this_name a_this_part a_this_codes a_this_above a_this_below a_this_length a_this_isMet v_thrown v_isBounce v_lamps v_squares v_intervals v_isBlock v_isSeen v_lampX v_lampY v_right v_up v_keptRight v_keptUp v_name v_part v_codes v_above v_below v_length v_isMet) sz) (jQi g R.1 (jw_Mo g a_this a_this_isBlock a_this_isSeen a_this_lampX a_this_lampY a_this_right a_this_up a_this_keptRight a_this_keptUp a_this_name a_this_part a_this_codes a_this_above a_this_below a_this_length a_this_isMet R.2 v_isBounce v_lamps v_squares v_intervals v_isBlock v_isSeen v_lampX v_lampY v_right v_up v_keptRight v_keptUp v_name v_part v_codes v_above v_below v_length v_isMet) (va_A (jw_Mo g a_this a_this_isBlock a_this_isSeen a_this_lampX a_this_lampY a_this_right a_this_up a_this_keptRight a_this_keptUp a_this_name a_this_part a_this_codes a_this_above a_this_below a_this_length a_this_isMet v_thrown v_isBounce v_lamps v_squares v_intervals v_isBlock v_isSeen v_lampX v_lampY v_right v_up v_keptRight v_keptUp v_name v_part v_codes v_above v_below v_length v_isMet) sz)) 0 0 (va_A (jw_Mo g a_this a_this_isBlock a_this_isSeen a_this_lampX a_this_lampY a_this_right a_this_up a_this_keptRight a_this_keptUp a_this_name a_this_part a_this_codes a_this_above a_this_below a_this_length a_this_isMet v_thrown v_isBounce v_lamps v_squares v_intervals v_isBlock v_isSeen v_lampX v_lampY v_right v_up v_keptRight v_keptUp v_name v_part v_codes v_above v_below v_length v_isMet) sz) := by
  refine jm_wi (cc := cX7_lit) (maxL := 5) (by decide +kernel) rfl (Nat.le_of_ble_eq_true rfl) ?_
  intro p e s m below meth c A Q hx hb hml hown hts hK hP hD hA hS fin ls hl
  have hl : lv_has ls 5 [(0, .ref a_this)] := hl
  have hown : s.vm.findClass RX7 = some m.cls := hown
  have w_X7 : ∀ w ∈ u_ws RX7 TX7 20, w ∈ wsX7_lit := by decide +kernel
  have w_f60 := hts (.fieldLink RX7 60 "BilliardryModel" "thrown" "I") (by decide +kernel)
  have w_f110 := hts (.fieldLink RX7 110 "BilliardryModel" "lamps" "I") (by decide +kernel)
  have w_f16 := hts (.fieldLink RX7 16 "BilliardryModel" "lampX" "[I") (by decide +kernel)
  have w_f20 := hts (.fieldLink RX7 20 "BilliardryModel" "lampY" "[I") (by decide +kernel)
  have L9 : ∀ (n : Nat) (v_thrown : Int32) (z1 : Int32) (z2 : Int32) (H : Heap) (locs : List Loc), va_P g.1 vwCl (jw_Mo g a_this a_this_isBlock a_this_isSeen a_this_lampX a_this_lampY a_this_right a_this_up a_this_keptRight a_this_keptUp a_this_name a_this_part a_this_codes a_this_above a_this_below a_this_length a_this_isMet v_thrown v_isBounce v_lamps v_squares v_intervals v_isBlock v_isSeen v_lampX v_lampY v_right v_up v_keptRight v_keptUp v_name v_part v_codes v_above v_below v_length v_isMet) H → va_S A s.heap H locs → ∀ (ls : Array Slot), lv_has ls 5 [(0, .ref a_this), (1, .int z1), (2, .int z2)] → ∀ q, jf_Mo_lit_L9 v_lamps v_isBlock v_lampX v_lampY n z1 z2 = some q → (∀ (H : Heap) (locs : List Loc), va_P g.1 vwCl (jw_Mo g a_this a_this_isBlock a_this_isSeen a_this_lampX a_this_lampY a_this_right a_this_up a_this_keptRight a_this_keptUp a_this_name a_this_part a_this_codes a_this_above a_this_below a_this_length a_this_isMet v_thrown v_isBounce v_lamps v_squares v_intervals v_isBlock v_isSeen v_lampX v_lampY v_right v_up v_keptRight v_keptUp v_name v_part v_codes v_above v_below v_length v_isMet) H → va_S A s.heap H locs → ∀ ls : Array Slot, lv_has ls 5 [(1, .int q)] → W p l e jr_Mo_lit s m ([.ref a_this] : List Value).toArray below meth c H locs 0 0 Q (F0 m 92 ls [])) → W p l e jr_Mo_lit s m ([.ref a_this] : List Value).toArray below meth c H locs 0 0 Q (F0 m 9 ls []) := by
    intro n v_thrown
    induction n with
    | zero =>
      intro z1 z2 H locs hP hS ls hl q hR k
      cases hR
    | succ n ih =>
      have L20 : ∀ (n : Nat) (v_thrown : Int32) (z1 : Int32) (z2 : Int32) (z3 : Int32) (z4 : Int32) (H : Heap) (locs : List Loc), va_P g.1 vwCl (jw_Mo g a_this a_this_isBlock a_this_isSeen a_this_lampX a_this_lampY a_this_right a_this_up a_this_keptRight a_this_keptUp a_this_name a_this_part a_this_codes a_this_above a_this_below a_this_length a_this_isMet v_thrown v_isBounce v_lamps v_squares v_intervals v_isBlock v_isSeen v_lampX v_lampY v_right v_up v_keptRight v_keptUp v_name v_part v_codes v_above v_below v_length v_isMet) H → va_S A s.heap H locs → ∀ (ls : Array Slot), lv_has ls 5 [(0, .ref a_this), (1, .int z1), (2, .int z2), (3, .int z3), (4, .int z4)] → ∀ q, jf_Mo_lit_L20 v_lamps v_isBlock v_lampX v_lampY z1 z2 n z3 z4 = some q → (∀ (H : Heap) (locs : List Loc), va_P g.1 vwCl (jw_Mo g a_this a_this_isBlock a_this_isSeen a_this_lampX a_this_lampY a_this_right a_this_up a_this_keptRight a_this_keptUp a_this_name a_this_part a_this_codes a_this_above a_this_below a_this_length a_this_isMet v_thrown v_isBounce v_lamps v_squares v_intervals v_isBlock v_isSeen v_lampX v_lampY v_right v_up v_keptRight v_keptUp v_name v_part v_codes v_above v_below v_length v_isMet) H → va_S A s.heap H locs → ∀ ls : Array Slot, lv_has ls 5 [(0, .ref a_this), (1, .int z1), (2, .int z2), (3, .int q)] → W p l e jr_Mo_lit s m ([.ref a_this] : List Value).toArray below meth c H locs 0 0 Q (F0 m 74 ls [])) → W p l e jr_Mo_lit s m ([.ref a_this] : List Value).toArray below meth c H locs 0 0 Q (F0 m 20 ls []) := by
        intro n v_thrown z1 z2
        induction n with
        | zero =>
          intro z3 z4 H locs hP hS ls hl q hR k
          cases hR
        | succ n ih =>
          have J67 : ∀ (z4 : Int32) (s0 : Int32) (H : Heap) (locs : List Loc), va_P g.1 vwCl (jw_Mo g a_this a_this_isBlock a_this_isSeen a_this_lampX a_this_lampY a_this_right a_this_up a_this_keptRight a_this_keptUp a_this_name a_this_part a_this_codes a_this_above a_this_below a_this_length a_this_isMet v_thrown v_isBounce v_lamps v_squares v_intervals v_isBlock v_isSeen v_lampX v_lampY v_right v_up v_keptRight v_keptUp v_name v_part v_codes v_above v_below v_length v_isMet) H → va_S A s.heap H locs → ∀ (ls : Array Slot), lv_has ls 5 [(0, .ref a_this), (1, .int z1), (2, .int z2), (4, .int z4)] → ∀ q, jf_Mo_lit_b67 (jf_Mo_lit_L20 v_lamps v_isBlock v_lampX v_lampY z1 z2 n) v_lamps v_isBlock v_lampX v_lampY z1 z2 z4 s0 = some q → (∀ (H : Heap) (locs : List Loc), va_P g.1 vwCl (jw_Mo g a_this a_this_isBlock a_this_isSeen a_this_lampX a_this_lampY a_this_right a_this_up a_this_keptRight a_this_keptUp a_this_name a_this_part a_this_codes a_this_above a_this_below a_this_length a_this_isMet v_thrown v_isBounce v_lamps v_squares v_intervals v_isBlock v_isSeen v_lampX v_lampY v_right v_up v_keptRight v_keptUp v_name v_part v_codes v_above v_below v_length v_isMet) H → va_S A s.heap H locs → ∀ ls : Array Slot, lv_has ls 5 [(0, .ref a_this), (1, .int z1), (2, .int z2), (3, .int q)] → W p l e jr_Mo_lit s m ([.ref a_this] : List Value).toArray below meth c H locs 0 0 Q (F0 m 74 ls [])) → W p l e jr_Mo_lit s m ([.ref a_this] : List Value).toArray below meth c H locs 0 0 Q (F0 m 67 ls [.int s0]) := by
            intro z4 s0 H locs hP hS ls hl q hR k
            rw [jf_Mo_lit_b67] at hR
            refine lv_istore_n (lv' := [(3, .int s0), (0, .ref a_this), (1, .int z1), (2, .int z2), (4, .int z4)]) hx hb dX7_lit_67 rfl hl (by decide) rfl (fun ls hl => ?_)
            refine lv_iinc (v := z4 + 1) (lv' := [(4, .int (z4 + 1)), (3, .int s0), (0, .ref a_this), (1, .int z1), (2, .int z2)]) hx hb dX7_lit_68 hl (k := 4) rfl (by first | rfl | decide) (by decide) rfl (fun ls hl => ?_)
            refine lv_goto (tgt := 20) hx hb dX7_lit_71 (by decide) ?_
            exact ih s0 (z4 + 1) _ _ hP hS _ (lv_sub hl [2, 3, 4, 1, 0] rfl) _ hR k
          have J62 : ∀ (z4 : Int32) (H : Heap) (locs : List Loc), va_P g.1 vwCl (jw_Mo g a_this a_this_isBlock a_this_isSeen a_this_lampX a_this_lampY a_this_right a_this_up a_this_keptRight a_this_keptUp a_this_name a_this_part a_this_codes a_this_above a_this_below a_this_length a_this_isMet v_thrown v_isBounce v_lamps v_squares v_intervals v_isBlock v_isSeen v_lampX v_lampY v_right v_up v_keptRight v_keptUp v_name v_part v_codes v_above v_below v_length v_isMet) H → va_S A s.heap H locs → ∀ (ls : Array Slot), lv_has ls 5 [(0, .ref a_this), (1, .int z1), (2, .int z2), (4, .int z4)] → ∀ q, jf_Mo_lit_b62 (jf_Mo_lit_L20 v_lamps v_isBlock v_lampX v_lampY z1 z2 n) v_lamps v_isBlock v_lampX v_lampY z1 z2 z4 = some q → (∀ (H : Heap) (locs : List Loc), va_P g.1 vwCl (jw_Mo g a_this a_this_isBlock a_this_isSeen a_this_lampX a_this_lampY a_this_right a_this_up a_this_keptRight a_this_keptUp a_this_name a_this_part a_this_codes a_this_above a_this_below a_this_length a_this_isMet v_thrown v_isBounce v_lamps v_squares v_intervals v_isBlock v_isSeen v_lampX v_lampY v_right v_up v_keptRight v_keptUp v_name v_part v_codes v_above v_below v_length v_isMet) H → va_S A s.heap H locs → ∀ ls : Array Slot, lv_has ls 5 [(0, .ref a_this), (1, .int z1), (2, .int z2), (3, .int q)] → W p l e jr_Mo_lit s m ([.ref a_this] : List Value).toArray below meth c H locs 0 0 Q (F0 m 74 ls [])) → W p l e jr_Mo_lit s m ([.ref a_this] : List Value).toArray below meth c H locs 0 0 Q (F0 m 62 ls []) := by
            intro z4 H locs hP hS ls hl q hR k
            rw [jf_Mo_lit_b62] at hR
            refine lv_iconst (v := 1) hx hb dX7_lit_62 (by decide) ?_
            refine lv_goto (tgt := 67) hx hb dX7_lit_63 (by decide) ?_
            exact J67 z4 1 _ _ hP hS _ (lv_sub hl [0, 1, 2, 3] rfl) _ hR k
          intro z3 z4 H locs hP hS ls hl q hR k
          rw [jf_Mo_lit_L20] at hR
          refine lv_iload hx hb dX7_lit_20 (lv_at hl 4 rfl) ?_
          refine lv_aload_n hx hb dX7_lit_22 rfl (lv_at hl 0 rfl) ?_
          refine va_get (D := g.1) (ci := 7) (v := .int v_lamps) (C := RX7) (T := TX7) (N := 20) hx hb hts w_X7 hown hK.1 hP 0 rfl rfl 4 (by decide) w_f110 (fun _ h9 => h9) rfl dX7_lit_23 ?_
          refine lv_icmp_ge (tgt := 74) hx hb dX7_lit_26 (by decide) (fun c_2 => ?_) (fun c_2 => ?_)
          · replace hR := Eq.trans (Eq.symm (if_pos c_2)) hR
            cases hR
            exact k _ _ hP hS _ (lv_sub hl [0, 1, 2, 3] rfl)
          · replace hR := Eq.trans (Eq.symm (if_neg c_2)) hR
            refine lv_iload_n hx hb dX7_lit_29 rfl (lv_at hl 3 rfl) ?_
            refine lv_if_ne (tgt := 62) hx hb dX7_lit_30 (by decide) (fun c_3 => ?_) (fun c_3 => ?_)
            · replace hR := Eq.trans (Eq.symm (if_neg c_3)) hR
              exact J62 z4 _ _ hP hS _ (lv_sub hl [0, 1, 2, 4] rfl) _ hR k
            · replace hR := Eq.trans (Eq.symm (if_pos c_3)) hR
              refine lv_aload_n hx hb dX7_lit_33 rfl (lv_at hl 0 rfl) ?_
              refine lv_iload_n hx hb dX7_lit_34 rfl (lv_at hl 2 rfl) ?_
              refine lv_bipush (v := 8) hx hb dX7_lit_35 (by decide) ?_
              refine lv_irem hx hb dX7_lit_37 (by decide) ?_
              refine lv_iload_n hx hb dX7_lit_38 rfl (lv_at hl 2 rfl) ?_
              refine lv_bipush (v := 8) hx hb dX7_lit_39 (by decide) ?_
              refine lv_idiv hx hb dX7_lit_41 (by decide) ?_
              refine lv_aload_n hx hb dX7_lit_42 rfl (lv_at hl 0 rfl) ?_
              refine va_get (D := g.1) (ci := 7) (v := .ref a_this_lampX) (C := RX7) (T := TX7) (N := 20) hx hb hts w_X7 hown hK.1 hP 0 rfl rfl 5 (by decide) w_f16 (fun _ h9 => h9) rfl dX7_lit_43 ?_
              refine lv_iload hx hb dX7_lit_46 (lv_at hl 4 rfl) ?_
              by_cases c_4 : jin z4 6 = true
              case neg => replace hR := Eq.trans (Eq.symm (if_neg c_4)) hR; cases hR
              replace hR := Eq.trans (Eq.symm (if_pos c_4)) hR
              refine va_iald hx hb hK.1 hP 3 0 rfl rfl (jin_in c_4) dX7_lit_48 ?_
              refine lv_aload_n hx hb dX7_lit_49 rfl (lv_at hl 0 rfl) ?_
              refine va_get (D := g.1) (ci := 7) (v := .ref a_this_lampY) (C := RX7) (T := TX7) (N := 20) hx hb hts w_X7 hown hK.1 hP 0 rfl rfl 6 (by decide) w_f20 (fun _ h9 => h9) rfl dX7_lit_50 ?_
              refine lv_iload hx hb dX7_lit_53 (lv_at hl 4 rfl) ?_
              by_cases c_5 : jin z4 6 = true
              case neg => replace hR := Eq.trans (Eq.symm (if_neg c_5)) hR; cases hR
              replace hR := Eq.trans (Eq.symm (if_pos c_5)) hR
              refine va_iald hx hb hK.1 hP 4 0 rfl rfl (jin_in c_5) dX7_lit_55 ?_
              obtain ⟨q_1, hq_1, hR⟩ := jbind hR
              try dsimp only at hR
              refine jcall_ri (va_runV (As := [.int (z2 - z2 / 8 * 8), .int (z2 / 8), .int (v_lampX z4.toNatClampNeg), .int (v_lampY z4.toNatClampNeg)]) (rest := []) ⟨hx, hb, hml, hown, hts⟩ (jc_Mo_areInSight l g a_this a_this_isBlock a_this_isSeen a_this_lampX a_this_lampY a_this_right a_this_up a_this_keptRight a_this_keptUp a_this_name a_this_part a_this_codes a_this_above a_this_below a_this_length a_this_isMet v_thrown v_isBounce v_lamps v_squares v_intervals v_isBlock v_isSeen v_lampX v_lampY v_right v_up v_keptRight v_keptUp v_name v_part v_codes v_above v_below v_length v_isMet (z2 - z2 / 8 * 8) (z2 / 8) (v_lampX z4.toNatClampNeg) (v_lampY z4.toNatClampNeg) _ hq_1) (cwV 4 hts gX7_lit_X7_areInSight rfl rfl rfl (by decide +kernel) ⟨Nat.le_of_ble_eq_true rfl, Nat.le_of_ble_eq_true rfl⟩) (jpr_v hK hP (ci := 7) (q0 := 0) rfl rfl) rfl rfl hl.1 rfl (lv_room (Nat.le_of_ble_eq_true rfl)) dX7_lit_56 ⟨Nat.zero_le _, Nat.zero_le _⟩) ?_
              refine lv_if_eq (tgt := 66) hx hb dX7_lit_59 (by decide) (fun c_6 => ?_) (fun c_6 => ?_)
              · replace hR := Eq.trans (Eq.symm (if_pos c_6)) hR
                refine lv_iconst (v := 0) hx hb dX7_lit_66 (by decide) ?_
                exact J67 z4 0 _ _ hP hS _ (lv_sub hl [0, 1, 2, 4] rfl) _ hR k
              · replace hR := Eq.trans (Eq.symm (if_neg c_6)) hR
                exact J62 z4 _ _ hP hS _ (lv_sub hl [0, 1, 2, 4] rfl) _ hR k
      have J84 : ∀ (z2 : Int32) (s0 : Int32) (s1 : Int32) (H : Heap) (locs : List Loc), va_P g.1 vwCl (jw_Mo g a_this a_this_isBlock a_this_isSeen a_this_lampX a_this_lampY a_this_right a_this_up a_this_keptRight a_this_keptUp a_this_name a_this_part a_this_codes a_this_above a_this_below a_this_length a_this_isMet v_thrown v_isBounce v_lamps v_squares v_intervals v_isBlock v_isSeen v_lampX v_lampY v_right v_up v_keptRight v_keptUp v_name v_part v_codes v_above v_below v_length v_isMet) H → va_S A s.heap H locs → ∀ (ls : Array Slot), lv_has ls 5 [(0, .ref a_this), (2, .int z2)] → ∀ q, jf_Mo_lit_b84 (jf_Mo_lit_L9 v_lamps v_isBlock v_lampX v_lampY n) v_lamps v_isBlock v_lampX v_lampY z2 s0 s1 = some q → (∀ (H : Heap) (locs : List Loc), va_P g.1 vwCl (jw_Mo g a_this a_this_isBlock a_this_isSeen a_this_lampX a_this_lampY a_this_right a_this_up a_this_keptRight a_this_keptUp a_this_name a_this_part a_this_codes a_this_above a_this_below a_this_length a_this_isMet v_thrown v_isBounce v_lamps v_squares v_intervals v_isBlock v_isSeen v_lampX v_lampY v_right v_up v_keptRight v_keptUp v_name v_part v_codes v_above v_below v_length v_isMet) H → va_S A s.heap H locs → ∀ ls : Array Slot, lv_has ls 5 [(1, .int q)] → W p l e jr_Mo_lit s m ([.ref a_this] : List Value).toArray below meth c H locs 0 0 Q (F0 m 92 ls [])) → W p l e jr_Mo_lit s m ([.ref a_this] : List Value).toArray below meth c H locs 0 0 Q (F0 m 84 ls [.int s1, .int s0]) := by
        intro z2 s0 s1 H locs hP hS ls hl q hR k
        rw [jf_Mo_lit_b84] at hR
        refine lv_iadd hx hb dX7_lit_84 ?_
        refine jlet_i hR (fun y1_1 hR => ?_)
        try dsimp only at hR
        refine lv_istore_n (lv' := [(1, .int y1_1), (0, .ref a_this), (2, .int z2)]) hx hb dX7_lit_85 rfl hl (by decide) rfl (fun ls hl => ?_)
        refine lv_iinc (v := z2 + 1) (lv' := [(2, .int (z2 + 1)), (1, .int y1_1), (0, .ref a_this)]) hx hb dX7_lit_86 hl (k := 2) rfl (by first | rfl | decide) (by decide) rfl (fun ls hl => ?_)
        refine lv_goto (tgt := 9) hx hb dX7_lit_89 (by decide) ?_
        exact ih y1_1 (z2 + 1) _ _ hP hS _ (lv_sub hl [2, 1, 0] rfl) _ hR k
      intro z1 z2 H locs hP hS ls hl q hR k
      rw [jf_Mo_lit_L9] at hR
      refine lv_iload_n hx hb dX7_lit_9 rfl (lv_at hl 2 rfl) ?_
      refine lv_bipush (v := 64) hx hb dX7_lit_10 (by decide) ?_
      refine lv_icmp_ge (tgt := 92) hx hb dX7_lit_12 (by decide) (fun c_1 => ?_) (fun c_1 => ?_)
      · replace hR := Eq.trans (Eq.symm (if_pos c_1)) hR
        cases hR
        exact k _ _ hP hS _ (lv_sub hl [1] rfl)
      · replace hR := Eq.trans (Eq.symm (if_neg c_1)) hR
        refine lv_iconst (v := 0) hx hb dX7_lit_15 (by decide) ?_
        refine lv_istore_n (lv' := [(3, .int 0), (0, .ref a_this), (1, .int z1), (2, .int z2)]) hx hb dX7_lit_16 rfl hl (by decide) rfl (fun ls hl => ?_)
        refine lv_iconst (v := 0) hx hb dX7_lit_17 (by decide) ?_
        refine lv_istore (lv' := [(4, .int 0), (3, .int 0), (0, .ref a_this), (1, .int z1), (2, .int z2)]) hx hb dX7_lit_18 hl (by decide) rfl (fun ls hl => ?_)
        obtain ⟨q_2, hq_2, hR⟩ := jbind hR
        try dsimp only at hR
        refine L20 jF v_thrown z1 z2 0 0 _ _ hP hS _ (lv_sub hl [2, 3, 4, 1, 0] rfl) _ hq_2 (fun H locs hP hS ls hl => ?_)
        refine lv_iload_n hx hb dX7_lit_74 rfl (lv_at hl 1 rfl) ?_
        refine lv_iload_n hx hb dX7_lit_75 rfl (lv_at hl 3 rfl) ?_
        refine lv_if_eq (tgt := 83) hx hb dX7_lit_76 (by decide) (fun c_7 => ?_) (fun c_7 => ?_)
        · replace hR := Eq.trans (Eq.symm (if_pos c_7)) hR
          refine lv_iconst (v := 0) hx hb dX7_lit_83 (by decide) ?_
          exact J84 z2 z1 0 _ _ hP hS _ (lv_sub hl [0, 2] rfl) _ hR k
        · replace hR := Eq.trans (Eq.symm (if_neg c_7)) hR
          refine lv_iconst (v := 1) hx hb dX7_lit_79 (by decide) ?_
          refine lv_goto (tgt := 84) hx hb dX7_lit_80 (by decide) ?_
          exact J84 z2 z1 1 _ _ hP hS _ (lv_sub hl [0, 2] rfl) _ hR k
  rw [jf_Mo_lit] at hR
  refine lv_aload_n hx hb dX7_lit_0 rfl (lv_at hl 0 rfl) ?_
  refine lv_iconst (v := 0) hx hb dX7_lit_1 (by decide) ?_
  refine va_put (D := g.1) (ci := 7) (v := .int 0) (ty := .int) (C := RX7) (T := TX7) (N := 20) hx hb hts w_X7 tyX7 tyX7_ok nmX7 hown hK.1 hP (jD_to hD rfl) hS 0 rfl rfl 0 (by decide) w_f60 (fun _ h9 => h9) rfl (by decide +kernel) rfl rfl (Nat.le_of_ble_eq_true rfl) dX7_lit_2 (fun H locs hP _ hS => ?_)
  have hP : va_P g.1 vwCl (jw_Mo g a_this a_this_isBlock a_this_isSeen a_this_lampX a_this_lampY a_this_right a_this_up a_this_keptRight a_this_keptUp a_this_name a_this_part a_this_codes a_this_above a_this_below a_this_length a_this_isMet 0 v_isBounce v_lamps v_squares v_intervals v_isBlock v_isSeen v_lampX v_lampY v_right v_up v_keptRight v_keptUp v_name v_part v_codes v_above v_below v_length v_isMet) H := hP
  refine lv_iconst (v := 0) hx hb dX7_lit_5 (by decide) ?_
  refine lv_istore_n (lv' := [(1, .int 0), (0, .ref a_this)]) hx hb dX7_lit_6 rfl hl (by decide) rfl (fun ls hl => ?_)
  refine lv_iconst (v := 0) hx hb dX7_lit_7 (by decide) ?_
  refine lv_istore_n (lv' := [(2, .int 0), (1, .int 0), (0, .ref a_this)]) hx hb dX7_lit_8 rfl hl (by decide) rfl (fun ls hl => ?_)
  obtain ⟨q_3, hq_3, hR⟩ := jbind hR
  try dsimp only at hR
  refine L9 jF 0 0 0 _ _ hP hS _ (lv_sub hl [2, 1, 0] rfl) _ hq_3 (fun H locs hP hS ls hl => ?_)
  refine lv_iload_n hx hb dX7_lit_92 rfl (lv_at hl 0 rfl) ?_
  obtain rfl := (Option.some.inj hR)
  exact fin _ _ _ _ _ rfl hP hS dX7_lit_93
def jf_Mo_share (v_thrown : Int32) (v_lamps : Int32) (v_isBlock : Nat → Int32) (v_lampX : Nat → Int32) (v_lampY : Nat → Int32) : Option (UInt32 × Int32) :=
  Option.bind (jf_Mo_lit v_thrown v_lamps v_isBlock v_lampX v_lampY) (fun q_1 => Option.bind (jf_Mo_floors v_isBlock) (fun q_2 => if q_2 = 0 then (some (FP.fconst0, q_1.2)) else (Option.bind (jf_Mo_floors v_isBlock) (fun q_3 => if jnn (FP.fdiv (FP.i2f q_1.1) (FP.i2f q_3)) = true then (some (FP.fdiv (FP.i2f q_1.1) (FP.i2f q_3), q_1.2)) else none))))
abbrev jr_Mo_share : Room := { frames := 5, cells := 0, slots := 0, locals := 115 }
set_option maxRecDepth 100000 in
set_option maxHeartbeats 4000000 in
theorem jc_Mo_share (l : Launch) (g : jG) (a_this a_this_isBlock a_this_isSeen a_this_lampX a_this_lampY a_this_right a_this_up a_this_keptRight a_this_keptUp a_this_name a_this_part a_this_codes a_this_above a_this_below a_this_length a_this_isMet : Nat) (v_thrown : Int32) (v_isBounce : Int32) (v_lamps : Int32) (v_squares : Int32) (v_intervals : Int32) (v_isBlock : Nat → Int32) (v_isSeen : Nat → Int32) (v_lampX : Nat → Int32) (v_lampY : Nat → Int32) (v_right : Nat → Int32) (v_up : Nat → Int32) (v_keptRight : Nat → Int32) (v_keptUp : Nat → Int32) (v_name : Nat → Int32) (v_part : Nat → Int32) (v_codes : Nat → Int32) (v_above : Nat → Int32) (v_below : Nat → Int32) (v_length : Nat → Int32) (v_isMet : Nat → Int32) (R : UInt32 × Int32) (hR : jf_Mo_share v_thrown v_lamps v_isBlock v_lampX v_lampY = some R) (sz : Nat) : Met l yX7_share wsX7_share jr_Mo_share (jPw g [.ref a_this] (jw_Mo g a_this a_this_isBlock a_this_isSeen a_this_lampX a_this_lampY a_this_right a_this_up a_this_keptRight a_this_keptUp a_this_name a_this_part a_this_codes a_this_above a_this_below a_this_length a_this_isMet v_thrown v_isBounce v_lamps v_squares v_intervals v_isBlock v_isSeen v_lampX v_lampY v_right v_up v_keptRight v_keptUp v_name v_part v_codes v_above v_below v_length v_isMet) sz) (jQf g R.1 (jw_Mo g a_this a_this_isBlock a_this_isSeen a_this_lampX a_this_lampY a_this_right a_this_up a_this_keptRight a_this_keptUp a_this_name a_this_part a_this_codes a_this_above a_this_below a_this_length a_this_isMet R.2 v_isBounce v_lamps v_squares v_intervals v_isBlock v_isSeen v_lampX v_lampY v_right v_up v_keptRight v_keptUp v_name v_part v_codes v_above v_below v_length v_isMet) (va_A (jw_Mo g a_this a_this_isBlock a_this_isSeen a_this_lampX a_this_lampY a_this_right a_this_up a_this_keptRight a_this_keptUp a_this_name a_this_part a_this_codes a_this_above a_this_below a_this_length a_this_isMet v_thrown v_isBounce v_lamps v_squares v_intervals v_isBlock v_isSeen v_lampX v_lampY v_right v_up v_keptRight v_keptUp v_name v_part v_codes v_above v_below v_length v_isMet) sz)) 0 0 (va_A (jw_Mo g a_this a_this_isBlock a_this_isSeen a_this_lampX a_this_lampY a_this_right a_this_up a_this_keptRight a_this_keptUp a_this_name a_this_part a_this_codes a_this_above a_this_below a_this_length a_this_isMet v_thrown v_isBounce v_lamps v_squares v_intervals v_isBlock v_isSeen v_lampX v_lampY v_right v_up v_keptRight v_keptUp v_name v_part v_codes v_above v_below v_length v_isMet) sz) := by
  refine jm_wf (cc := cX7_share) (maxL := 2) (by decide +kernel) rfl (Nat.le_of_ble_eq_true rfl) ?_
  intro p e s m below meth c A Q hx hb hml hown hts hK hP hD hA hS fin ls hl
  have hl : lv_has ls 2 [(0, .ref a_this)] := hl
  have hown : s.vm.findClass RX7 = some m.cls := hown
  rw [jf_Mo_share] at hR
  refine lv_aload_n hx hb dX7_share_0 rfl (lv_at hl 0 rfl) ?_
  obtain ⟨q_1, hq_1, hR⟩ := jbind hR
  try dsimp only at hR
  refine jcall_wi (ws' := jw_Mo g a_this a_this_isBlock a_this_isSeen a_this_lampX a_this_lampY a_this_right a_this_up a_this_keptRight a_this_keptUp a_this_name a_this_part a_this_codes a_this_above a_this_below a_this_length a_this_isMet q_1.2 v_isBounce v_lamps v_squares v_intervals v_isBlock v_isSeen v_lampX v_lampY v_right v_up v_keptRight v_keptUp v_name v_part v_codes v_above v_below v_length v_isMet) (va_runV (As := []) (rest := []) ⟨hx, hb, hml, hown, hts⟩ (jc_Mo_lit l g a_this a_this_isBlock a_this_isSeen a_this_lampX a_this_lampY a_this_right a_this_up a_this_keptRight a_this_keptUp a_this_name a_this_part a_this_codes a_this_above a_this_below a_this_length a_this_isMet v_thrown v_isBounce v_lamps v_squares v_intervals v_isBlock v_isSeen v_lampX v_lampY v_right v_up v_keptRight v_keptUp v_name v_part v_codes v_above v_below v_length v_isMet _ hq_1 _) (cwV 0 hts gX7_share_X7_lit rfl rfl rfl (by decide +kernel) ⟨Nat.le_of_ble_eq_true rfl, Nat.le_of_ble_eq_true rfl⟩) (jpw_v hK hP (jD_to hD rfl) (ci := 7) (q0 := 0) rfl rfl) rfl rfl hl.1 rfl (lv_room (Nat.le_of_ble_eq_true rfl)) dX7_share_1 ⟨Nat.zero_le _, Nat.zero_le _⟩) hP (jD_to hD rfl) hS hA [0, 1, 2, 3, 4, 5, 6, 7, 8, 9, 10, 11, 12, 13, 14, 15] [] [0, 1, 2, 3, 4, 5, 6, 7, 8, 9, 10, 11, 12, 13, 14, 15] rfl (by decide) rfl (fun H locs hP hS => ?_)
  refine lv_istore_n (lv' := [(1, .int q_1.1), (0, .ref a_this)]) hx hb dX7_share_4 rfl hl (by decide) rfl (fun ls hl => ?_)
  refine lv_aload_n hx hb dX7_share_5 rfl (lv_at hl 1 rfl) ?_
  obtain ⟨q_2, hq_2, hR⟩ := jbind hR
  try dsimp only at hR
  refine jcall_ri (va_runV (As := []) (rest := []) ⟨hx, hb, hml, hown, hts⟩ (jc_Mo_floors l g a_this a_this_isBlock a_this_isSeen a_this_lampX a_this_lampY a_this_right a_this_up a_this_keptRight a_this_keptUp a_this_name a_this_part a_this_codes a_this_above a_this_below a_this_length a_this_isMet q_1.2 v_isBounce v_lamps v_squares v_intervals v_isBlock v_isSeen v_lampX v_lampY v_right v_up v_keptRight v_keptUp v_name v_part v_codes v_above v_below v_length v_isMet _ hq_2) (cwV 0 hts gX7_share_X7_floors rfl rfl rfl (by decide +kernel) ⟨Nat.le_of_ble_eq_true rfl, Nat.le_of_ble_eq_true rfl⟩) (jpr_v hK hP (ci := 7) (q0 := 0) rfl rfl) rfl rfl hl.1 rfl (lv_room (Nat.le_of_ble_eq_true rfl)) dX7_share_6 ⟨Nat.zero_le _, Nat.zero_le _⟩) ?_
  refine lv_if_ne (tgt := 16) hx hb dX7_share_9 (by decide) (fun c_1 => ?_) (fun c_1 => ?_)
  · replace hR := Eq.trans (Eq.symm (if_neg c_1)) hR
    refine lv_iload_n hx hb dX7_share_16 rfl (lv_at hl 0 rfl) ?_
    refine lv_i2f hx hb dX7_share_17 ?_
    refine lv_aload_n hx hb dX7_share_18 rfl (lv_at hl 1 rfl) ?_
    obtain ⟨q_3, hq_3, hR⟩ := jbind hR
    try dsimp only at hR
    refine jcall_ri (va_runV (As := []) (rest := [.float (FP.i2f q_1.1)]) ⟨hx, hb, hml, hown, hts⟩ (jc_Mo_floors l g a_this a_this_isBlock a_this_isSeen a_this_lampX a_this_lampY a_this_right a_this_up a_this_keptRight a_this_keptUp a_this_name a_this_part a_this_codes a_this_above a_this_below a_this_length a_this_isMet q_1.2 v_isBounce v_lamps v_squares v_intervals v_isBlock v_isSeen v_lampX v_lampY v_right v_up v_keptRight v_keptUp v_name v_part v_codes v_above v_below v_length v_isMet _ hq_3) (cwV 0 hts gX7_share_X7_floors rfl rfl rfl (by decide +kernel) ⟨Nat.le_of_ble_eq_true rfl, Nat.le_of_ble_eq_true rfl⟩) (jpr_v hK hP (ci := 7) (q0 := 0) rfl rfl) rfl rfl hl.1 rfl (lv_room (Nat.le_of_ble_eq_true rfl)) dX7_share_19 ⟨Nat.zero_le _, Nat.zero_le _⟩) ?_
    refine lv_i2f hx hb dX7_share_22 ?_
    by_cases c_2 : jnn (FP.fdiv (FP.i2f q_1.1) (FP.i2f q_3)) = true
    case neg => replace hR := Eq.trans (Eq.symm (if_neg c_2)) hR; cases hR
    replace hR := Eq.trans (Eq.symm (if_pos c_2)) hR
    refine lv_fdiv hx hb dX7_share_23 (jnn_n c_2) ?_
    obtain rfl := (Option.some.inj hR)
    exact fin _ _ _ _ _ rfl hP hS dX7_share_24
  · replace hR := Eq.trans (Eq.symm (if_pos c_1)) hR
    refine lv_fconst0 hx hb dX7_share_12 ?_
    refine lv_goto (tgt := 24) hx hb dX7_share_13 (by decide) ?_
    obtain rfl := (Option.some.inj hR)
    exact fin _ _ _ _ _ rfl hP hS dX7_share_24
def jf_Mo_surface_L39 (z1 : Int32) (z2 : Int32) : Nat → Int32 → (Nat → Int32) → (Nat → Int32) → Option ((Nat → Int32) × (Nat → Int32))
  | 0, _, _, _ => none
  | n + 1, z3, v_right, v_up =>
    if z1 ≤ z3 then (some (v_right, v_up)) else (if jin z3 5 = true then (if jin z3 5 = true then ((jf_Mo_surface_L39 z1 z2 n) (z3 + 1) (upd v_right z3.toNatClampNeg z3) (upd v_up z3.toNatClampNeg z3)) else none) else none)
def jf_Mo_surface_b15 (v_thrown : Int32) (v_squares : Int32) (v_right : Nat → Int32) (v_up : Nat → Int32) (z1 : Int32) (s1 : Int32) : Option (Int32 × Int32 × Int32 × (Nat → Int32) × (Nat → Int32)) :=
  if s1 ≤ 0 then (Option.bind (jf_Mo_surface_L39 z1 v_squares jF 0 v_right v_up) (fun q_1 => some (v_squares, s1, z1, q_1.1, q_1.2))) else (some (0, s1, v_squares, v_right, v_up))
def jf_Mo_surface (v_thrown : Int32) (v_squares : Int32) (v_right : Nat → Int32) (v_up : Nat → Int32) (x1 : Int32) : Option (Int32 × Int32 × Int32 × (Nat → Int32) × (Nat → Int32)) :=
  if (jf_Mo_in x1 1 5) = 0 then (jf_Mo_surface_b15 v_thrown v_squares v_right v_up x1 1) else (jf_Mo_surface_b15 v_thrown v_squares v_right v_up x1 0)
abbrev jr_Mo_surface : Room := { frames := 1, cells := 0, slots := 0, locals := 22 }
set_option maxRecDepth 100000 in
set_option maxHeartbeats 4000000 in
theorem jc_Mo_surface (l : Launch) (g : jG) (a_this a_this_isBlock a_this_isSeen a_this_lampX a_this_lampY a_this_right a_this_up a_this_keptRight a_this_keptUp a_this_name a_this_part a_this_codes a_this_above a_this_below a_this_length a_this_isMet : Nat) (v_thrown : Int32) (v_isBounce : Int32) (v_lamps : Int32) (v_squares : Int32) (v_intervals : Int32) (v_isBlock : Nat → Int32) (v_isSeen : Nat → Int32) (v_lampX : Nat → Int32) (v_lampY : Nat → Int32) (v_right : Nat → Int32) (v_up : Nat → Int32) (v_keptRight : Nat → Int32) (v_keptUp : Nat → Int32) (v_name : Nat → Int32) (v_part : Nat → Int32) (v_codes : Nat → Int32) (v_above : Nat → Int32) (v_below : Nat → Int32) (v_length : Nat → Int32) (v_isMet : Nat → Int32) (x1 : Int32) (R : Int32 × Int32 × Int32 × (Nat → Int32) × (Nat → Int32)) (hR : jf_Mo_surface v_thrown v_squares v_right v_up x1 = some R) (sz : Nat) : Met l yX7_surface wsX7_surface jr_Mo_surface (jPw g [.ref a_this, .int x1] (jw_Mo g a_this a_this_isBlock a_this_isSeen a_this_lampX a_this_lampY a_this_right a_this_up a_this_keptRight a_this_keptUp a_this_name a_this_part a_this_codes a_this_above a_this_below a_this_length a_this_isMet v_thrown v_isBounce v_lamps v_squares v_intervals v_isBlock v_isSeen v_lampX v_lampY v_right v_up v_keptRight v_keptUp v_name v_part v_codes v_above v_below v_length v_isMet) sz) (jQi g R.1 (jw_Mo g a_this a_this_isBlock a_this_isSeen a_this_lampX a_this_lampY a_this_right a_this_up a_this_keptRight a_this_keptUp a_this_name a_this_part a_this_codes a_this_above a_this_below a_this_length a_this_isMet R.2.1 v_isBounce v_lamps R.2.2.1 v_intervals v_isBlock v_isSeen v_lampX v_lampY R.2.2.2.1 R.2.2.2.2 v_keptRight v_keptUp v_name v_part v_codes v_above v_below v_length v_isMet) (va_A (jw_Mo g a_this a_this_isBlock a_this_isSeen a_this_lampX a_this_lampY a_this_right a_this_up a_this_keptRight a_this_keptUp a_this_name a_this_part a_this_codes a_this_above a_this_below a_this_length a_this_isMet v_thrown v_isBounce v_lamps v_squares v_intervals v_isBlock v_isSeen v_lampX v_lampY v_right v_up v_keptRight v_keptUp v_name v_part v_codes v_above v_below v_length v_isMet) sz)) 0 0 (va_A (jw_Mo g a_this a_this_isBlock a_this_isSeen a_this_lampX a_this_lampY a_this_right a_this_up a_this_keptRight a_this_keptUp a_this_name a_this_part a_this_codes a_this_above a_this_below a_this_length a_this_isMet v_thrown v_isBounce v_lamps v_squares v_intervals v_isBlock v_isSeen v_lampX v_lampY v_right v_up v_keptRight v_keptUp v_name v_part v_codes v_above v_below v_length v_isMet) sz) := by
  refine jm_wi (cc := cX7_surface) (maxL := 4) (by decide +kernel) rfl (Nat.le_of_ble_eq_true rfl) ?_
  intro p e s m below meth c A Q hx hb hml hown hts hK hP hD hA hS fin ls hl
  have hl : lv_has ls 4 [(0, .ref a_this), (1, .int x1)] := hl
  have hown : s.vm.findClass RX7 = some m.cls := hown
  have w_X7 : ∀ w ∈ u_ws RX7 TX7 20, w ∈ wsX7_surface := by decide +kernel
  have w_f60 := hts (.fieldLink RX7 60 "BilliardryModel" "thrown" "I") (by decide +kernel)
  have w_f23 := hts (.fieldLink RX7 23 "BilliardryModel" "squares" "I") (by decide +kernel)
  have w_f27 := hts (.fieldLink RX7 27 "BilliardryModel" "right" "[I") (by decide +kernel)
  have w_f30 := hts (.fieldLink RX7 30 "BilliardryModel" "up" "[I") (by decide +kernel)
  have L39 : ∀ (n : Nat) (v_thrown : Int32) (v_squares : Int32) (z1 : Int32) (z2 : Int32) (z3 : Int32) (v_right : Nat → Int32) (v_up : Nat → Int32) (H : Heap) (locs : List Loc), va_P g.1 vwCl (jw_Mo g a_this a_this_isBlock a_this_isSeen a_this_lampX a_this_lampY a_this_right a_this_up a_this_keptRight a_this_keptUp a_this_name a_this_part a_this_codes a_this_above a_this_below a_this_length a_this_isMet v_thrown v_isBounce v_lamps v_squares v_intervals v_isBlock v_isSeen v_lampX v_lampY v_right v_up v_keptRight v_keptUp v_name v_part v_codes v_above v_below v_length v_isMet) H → va_S A s.heap H locs → ∀ (ls : Array Slot), lv_has ls 4 [(0, .ref a_this), (1, .int z1), (2, .int z2), (3, .int z3)] → ∀ q, jf_Mo_surface_L39 z1 z2 n z3 v_right v_up = some q → (∀ (H : Heap) (locs : List Loc), va_P g.1 vwCl (jw_Mo g a_this a_this_isBlock a_this_isSeen a_this_lampX a_this_lampY a_this_right a_this_up a_this_keptRight a_this_keptUp a_this_name a_this_part a_this_codes a_this_above a_this_below a_this_length a_this_isMet v_thrown v_isBounce v_lamps v_squares v_intervals v_isBlock v_isSeen v_lampX v_lampY q.1 q.2 v_keptRight v_keptUp v_name v_part v_codes v_above v_below v_length v_isMet) H → va_S A s.heap H locs → ∀ ls : Array Slot, lv_has ls 4 [(2, .int z2)] → W p l e jr_Mo_surface s m ([.ref a_this, .int x1] : List Value).toArray below meth c H locs 0 0 Q (F0 m 64 ls [])) → W p l e jr_Mo_surface s m ([.ref a_this, .int x1] : List Value).toArray below meth c H locs 0 0 Q (F0 m 39 ls []) := by
    intro n v_thrown v_squares z1 z2
    induction n with
    | zero =>
      intro z3 v_right v_up H locs hP hS ls hl q hR k
      cases hR
    | succ n ih =>
      intro z3 v_right v_up H locs hP hS ls hl q hR k
      rw [jf_Mo_surface_L39] at hR
      refine lv_iload_n hx hb dX7_surface_39 rfl (lv_at hl 3 rfl) ?_
      refine lv_iload_n hx hb dX7_surface_40 rfl (lv_at hl 1 rfl) ?_
      refine lv_icmp_ge (tgt := 64) hx hb dX7_surface_41 (by decide) (fun c_3 => ?_) (fun c_3 => ?_)
      · replace hR := Eq.trans (Eq.symm (if_pos c_3)) hR
        cases hR
        exact k _ _ hP hS _ (lv_sub hl [2] rfl)
      · replace hR := Eq.trans (Eq.symm (if_neg c_3)) hR
        refine lv_aload_n hx hb dX7_surface_44 rfl (lv_at hl 0 rfl) ?_
        refine va_get (D := g.1) (ci := 7) (v := .ref a_this_right) (C := RX7) (T := TX7) (N := 20) hx hb hts w_X7 hown hK.1 hP 0 rfl rfl 8 (by decide) w_f27 (fun _ h9 => h9) rfl dX7_surface_45 ?_
        refine lv_iload_n hx hb dX7_surface_48 rfl (lv_at hl 3 rfl) ?_
        refine lv_iload_n hx hb dX7_surface_49 rfl (lv_at hl 3 rfl) ?_
        by_cases c_4 : jin z3 5 = true
        case neg => replace hR := Eq.trans (Eq.symm (if_neg c_4)) hR; cases hR
        replace hR := Eq.trans (Eq.symm (if_pos c_4)) hR
        refine va_iast hx hb hK.1 hP (jD_to hD rfl) hS 5 0 rfl rfl (jin_in c_4) dX7_surface_50 (fun H locs hP _ hS => ?_)
        have hP : va_P g.1 vwCl (jw_Mo g a_this a_this_isBlock a_this_isSeen a_this_lampX a_this_lampY a_this_right a_this_up a_this_keptRight a_this_keptUp a_this_name a_this_part a_this_codes a_this_above a_this_below a_this_length a_this_isMet v_thrown v_isBounce v_lamps v_squares v_intervals v_isBlock v_isSeen v_lampX v_lampY (upd v_right z3.toNatClampNeg z3) v_up v_keptRight v_keptUp v_name v_part v_codes v_above v_below v_length v_isMet) H := hP
        refine lv_aload_n hx hb dX7_surface_51 rfl (lv_at hl 0 rfl) ?_
        refine va_get (D := g.1) (ci := 7) (v := .ref a_this_up) (C := RX7) (T := TX7) (N := 20) hx hb hts w_X7 hown hK.1 hP 0 rfl rfl 9 (by decide) w_f30 (fun _ h9 => h9) rfl dX7_surface_52 ?_
        refine lv_iload_n hx hb dX7_surface_55 rfl (lv_at hl 3 rfl) ?_
        refine lv_iload_n hx hb dX7_surface_56 rfl (lv_at hl 3 rfl) ?_
        by_cases c_5 : jin z3 5 = true
        case neg => replace hR := Eq.trans (Eq.symm (if_neg c_5)) hR; cases hR
        replace hR := Eq.trans (Eq.symm (if_pos c_5)) hR
        refine va_iast hx hb hK.1 hP (jD_to hD rfl) hS 6 0 rfl rfl (jin_in c_5) dX7_surface_57 (fun H locs hP _ hS => ?_)
        have hP : va_P g.1 vwCl (jw_Mo g a_this a_this_isBlock a_this_isSeen a_this_lampX a_this_lampY a_this_right a_this_up a_this_keptRight a_this_keptUp a_this_name a_this_part a_this_codes a_this_above a_this_below a_this_length a_this_isMet v_thrown v_isBounce v_lamps v_squares v_intervals v_isBlock v_isSeen v_lampX v_lampY (upd v_right z3.toNatClampNeg z3) (upd v_up z3.toNatClampNeg z3) v_keptRight v_keptUp v_name v_part v_codes v_above v_below v_length v_isMet) H := hP
        refine lv_iinc (v := z3 + 1) (lv' := [(3, .int (z3 + 1)), (0, .ref a_this), (1, .int z1), (2, .int z2)]) hx hb dX7_surface_58 hl (k := 3) rfl (by first | rfl | decide) (by decide) rfl (fun ls hl => ?_)
        refine lv_goto (tgt := 39) hx hb dX7_surface_61 (by decide) ?_
        exact ih (z3 + 1) (upd v_right z3.toNatClampNeg z3) (upd v_up z3.toNatClampNeg z3) _ _ hP hS _ (lv_sub hl [1, 2, 3, 0] rfl) _ hR k
  have J15 : ∀ (v_thrown : Int32) (v_squares : Int32) (v_right : Nat → Int32) (v_up : Nat → Int32) (z1 : Int32) (s1 : Int32) (H : Heap) (locs : List Loc), va_P g.1 vwCl (jw_Mo g a_this a_this_isBlock a_this_isSeen a_this_lampX a_this_lampY a_this_right a_this_up a_this_keptRight a_this_keptUp a_this_name a_this_part a_this_codes a_this_above a_this_below a_this_length a_this_isMet v_thrown v_isBounce v_lamps v_squares v_intervals v_isBlock v_isSeen v_lampX v_lampY v_right v_up v_keptRight v_keptUp v_name v_part v_codes v_above v_below v_length v_isMet) H → va_S A s.heap H locs → ∀ (ls : Array Slot), lv_has ls 4 [(0, .ref a_this), (1, .int z1)] → jf_Mo_surface_b15 v_thrown v_squares v_right v_up z1 s1 = some R → W p l e jr_Mo_surface s m ([.ref a_this, .int x1] : List Value).toArray below meth c H locs 0 0 Q (F0 m 15 ls [.int s1, .ref a_this]) := by
    intro v_thrown v_squares v_right v_up z1 s1 H locs hP hS ls hl hR
    rw [jf_Mo_surface_b15] at hR
    refine va_put (D := g.1) (ci := 7) (v := .int s1) (ty := .int) (C := RX7) (T := TX7) (N := 20) hx hb hts w_X7 tyX7 tyX7_ok nmX7 hown hK.1 hP (jD_to hD rfl) hS 0 rfl rfl 0 (by decide) w_f60 (fun _ h9 => h9) rfl (by decide +kernel) rfl rfl (Nat.le_of_ble_eq_true rfl) dX7_surface_15 (fun H locs hP _ hS => ?_)
    have hP : va_P g.1 vwCl (jw_Mo g a_this a_this_isBlock a_this_isSeen a_this_lampX a_this_lampY a_this_right a_this_up a_this_keptRight a_this_keptUp a_this_name a_this_part a_this_codes a_this_above a_this_below a_this_length a_this_isMet s1 v_isBounce v_lamps v_squares v_intervals v_isBlock v_isSeen v_lampX v_lampY v_right v_up v_keptRight v_keptUp v_name v_part v_codes v_above v_below v_length v_isMet) H := hP
    refine lv_aload_n hx hb dX7_surface_18 rfl (lv_at hl 0 rfl) ?_
    refine va_get (D := g.1) (ci := 7) (v := .int s1) (C := RX7) (T := TX7) (N := 20) hx hb hts w_X7 hown hK.1 hP 0 rfl rfl 0 (by decide) w_f60 (fun _ h9 => h9) rfl dX7_surface_19 ?_
    refine lv_if_le (tgt := 27) hx hb dX7_surface_22 (by decide) (fun c_2 => ?_) (fun c_2 => ?_)
    · replace hR := Eq.trans (Eq.symm (if_pos c_2)) hR
      refine lv_aload_n hx hb dX7_surface_27 rfl (lv_at hl 0 rfl) ?_
      refine va_get (D := g.1) (ci := 7) (v := .int v_squares) (C := RX7) (T := TX7) (N := 20) hx hb hts w_X7 hown hK.1 hP 0 rfl rfl 7 (by decide) w_f23 (fun _ h9 => h9) rfl dX7_surface_28 ?_
      refine lv_istore_n (lv' := [(2, .int v_squares), (0, .ref a_this), (1, .int z1)]) hx hb dX7_surface_31 rfl hl (by decide) rfl (fun ls hl => ?_)
      refine lv_aload_n hx hb dX7_surface_32 rfl (lv_at hl 1 rfl) ?_
      refine lv_iload_n hx hb dX7_surface_33 rfl (lv_at hl 2 rfl) ?_
      refine va_put (D := g.1) (ci := 7) (v := .int z1) (ty := .int) (C := RX7) (T := TX7) (N := 20) hx hb hts w_X7 tyX7 tyX7_ok nmX7 hown hK.1 hP (jD_to hD rfl) hS 0 rfl rfl 7 (by decide) w_f23 (fun _ h9 => h9) rfl (by decide +kernel) rfl rfl (Nat.le_of_ble_eq_true rfl) dX7_surface_34 (fun H locs hP _ hS => ?_)
      have hP : va_P g.1 vwCl (jw_Mo g a_this a_this_isBlock a_this_isSeen a_this_lampX a_this_lampY a_this_right a_this_up a_this_keptRight a_this_keptUp a_this_name a_this_part a_this_codes a_this_above a_this_below a_this_length a_this_isMet s1 v_isBounce v_lamps z1 v_intervals v_isBlock v_isSeen v_lampX v_lampY v_right v_up v_keptRight v_keptUp v_name v_part v_codes v_above v_below v_length v_isMet) H := hP
      refine lv_iconst (v := 0) hx hb dX7_surface_37 (by decide) ?_
      refine lv_istore_n (lv' := [(3, .int 0), (2, .int v_squares), (0, .ref a_this), (1, .int z1)]) hx hb dX7_surface_38 rfl hl (by decide) rfl (fun ls hl => ?_)
      obtain ⟨q_1, hq_1, hR⟩ := jbind hR
      try dsimp only at hR
      refine L39 jF s1 z1 z1 v_squares 0 v_right v_up _ _ hP hS _ (lv_sub hl [2, 3, 1, 0] rfl) _ hq_1 (fun H locs hP hS ls hl => ?_)
      refine lv_iload_n hx hb dX7_surface_64 rfl (lv_at hl 0 rfl) ?_
      obtain rfl := (Option.some.inj hR)
      exact fin _ _ _ _ _ rfl hP hS dX7_surface_65
    · replace hR := Eq.trans (Eq.symm (if_neg c_2)) hR
      refine lv_iconst (v := 0) hx hb dX7_surface_25 (by decide) ?_
      obtain rfl := (Option.some.inj hR)
      exact fin _ _ _ _ _ rfl hP hS dX7_surface_26
  rw [jf_Mo_surface] at hR
  refine lv_aload_n hx hb dX7_surface_0 rfl (lv_at hl 0 rfl) ?_
  refine lv_iload_n hx hb dX7_surface_1 rfl (lv_at hl 1 rfl) ?_
  refine lv_iconst (v := 1) hx hb dX7_surface_2 (by decide) ?_
  refine lv_iconst (v := 5) hx hb dX7_surface_3 (by decide) ?_
  refine jcall_ri (va_runS (As := [.int x1, .int 1, .int 5]) (rest := [.ref a_this]) ⟨hx, hb, hml, hown, hts⟩ (jc_Mo_in l g  x1 1 5 _ rfl) (va_cwS 3 hts gX7_surface_X7_in rfl rfl rfl (by decide +kernel) ⟨Nat.le_of_ble_eq_true rfl, Nat.le_of_ble_eq_true rfl⟩) (jpr_s hK (hP.sub (ws' := []) [] rfl)) rfl rfl hl.1 rfl (lv_room (Nat.le_of_ble_eq_true rfl)) dX7_surface_4 ⟨Nat.zero_le _, Nat.zero_le _⟩) ?_
  refine lv_if_eq (tgt := 14) hx hb dX7_surface_7 (by decide) (fun c_1 => ?_) (fun c_1 => ?_)
  · replace hR := Eq.trans (Eq.symm (if_pos c_1)) hR
    refine lv_iconst (v := 1) hx hb dX7_surface_14 (by decide) ?_
    exact J15 v_thrown v_squares v_right v_up x1 1 _ _ hP hS _ (lv_sub hl [0, 1] rfl) hR
  · replace hR := Eq.trans (Eq.symm (if_neg c_1)) hR
    refine lv_iconst (v := 0) hx hb dX7_surface_10 (by decide) ?_
    refine lv_goto (tgt := 15) hx hb dX7_surface_11 (by decide) ?_
    exact J15 v_thrown v_squares v_right v_up x1 0 _ _ hP hS _ (lv_sub hl [0, 1] rfl) hR
def jf_Mo_isSquare (v_squares : Int32) (x1 : Int32) : Int32 :=
  (jf_Mo_in x1 0 (v_squares - 1)) &&& 1
abbrev jr_Mo_isSquare : Room := { frames := 1, cells := 0, slots := 0, locals := 22 }
set_option maxRecDepth 100000 in
set_option maxHeartbeats 4000000 in
theorem jc_Mo_isSquare (l : Launch) (g : jG) (a_this a_this_isBlock a_this_isSeen a_this_lampX a_this_lampY a_this_right a_this_up a_this_keptRight a_this_keptUp a_this_name a_this_part a_this_codes a_this_above a_this_below a_this_length a_this_isMet : Nat) (v_thrown : Int32) (v_isBounce : Int32) (v_lamps : Int32) (v_squares : Int32) (v_intervals : Int32) (v_isBlock : Nat → Int32) (v_isSeen : Nat → Int32) (v_lampX : Nat → Int32) (v_lampY : Nat → Int32) (v_right : Nat → Int32) (v_up : Nat → Int32) (v_keptRight : Nat → Int32) (v_keptUp : Nat → Int32) (v_name : Nat → Int32) (v_part : Nat → Int32) (v_codes : Nat → Int32) (v_above : Nat → Int32) (v_below : Nat → Int32) (v_length : Nat → Int32) (v_isMet : Nat → Int32) (x1 : Int32) (R : Int32) (hR : jf_Mo_isSquare v_squares x1 = R) : Met l yX7_isSquare wsX7_isSquare jr_Mo_isSquare (jPr g [.ref a_this, .int x1] (jw_Mo g a_this a_this_isBlock a_this_isSeen a_this_lampX a_this_lampY a_this_right a_this_up a_this_keptRight a_this_keptUp a_this_name a_this_part a_this_codes a_this_above a_this_below a_this_length a_this_isMet v_thrown v_isBounce v_lamps v_squares v_intervals v_isBlock v_isSeen v_lampX v_lampY v_right v_up v_keptRight v_keptUp v_name v_part v_codes v_above v_below v_length v_isMet)) (vp_Si (fun r => r = R)) 0 0 (fun _ => False) := by
  refine jm_rz (cc := cX7_isSquare) (maxL := 2) (by decide +kernel) rfl (Nat.le_of_ble_eq_true rfl) ?_
  intro p e s m below meth c Q hx hb hml hown hts hK hP fin ls hl
  have hl : lv_has ls 2 [(0, .ref a_this), (1, .int x1)] := hl
  have hown : s.vm.findClass RX7 = some m.cls := hown
  have w_X7 : ∀ w ∈ u_ws RX7 TX7 20, w ∈ wsX7_isSquare := by decide +kernel
  have w_f23 := hts (.fieldLink RX7 23 "BilliardryModel" "squares" "I") (by decide +kernel)
  rw [jf_Mo_isSquare] at hR
  refine lv_iload_n hx hb dX7_isSquare_0 rfl (lv_at hl 1 rfl) ?_
  refine lv_iconst (v := 0) hx hb dX7_isSquare_1 (by decide) ?_
  refine lv_aload_n hx hb dX7_isSquare_2 rfl (lv_at hl 0 rfl) ?_
  refine va_get (D := g.1) (ci := 7) (v := .int v_squares) (C := RX7) (T := TX7) (N := 20) hx hb hts w_X7 hown hK.1 hP 0 rfl rfl 7 (by decide) w_f23 (fun _ h9 => h9) rfl dX7_isSquare_3 ?_
  refine lv_iconst (v := 1) hx hb dX7_isSquare_6 (by decide) ?_
  refine lv_isub hx hb dX7_isSquare_7 ?_
  refine jcall_ri (va_runS (As := [.int x1, .int 0, .int (v_squares - 1)]) (rest := []) ⟨hx, hb, hml, hown, hts⟩ (jc_Mo_in l g  x1 0 (v_squares - 1) _ rfl) (va_cwS 3 hts gX7_isSquare_X7_in rfl rfl rfl (by decide +kernel) ⟨Nat.le_of_ble_eq_true rfl, Nat.le_of_ble_eq_true rfl⟩) (jpr_s hK (hP.sub (ws' := []) [] rfl)) rfl rfl hl.1 rfl (lv_room (Nat.le_of_ble_eq_true rfl)) dX7_isSquare_8 ⟨Nat.zero_le _, Nat.zero_le _⟩) ?_
  exact fin _ _ _ hR dX7_isSquare_11
def jf_Mo_glue_b22 (v_thrown : Int32) (v_right : Nat → Int32) (v_up : Nat → Int32) (z1 : Int32) (z2 : Int32) (z3 : Int32) (s1 : Int32) : Option (Int32 × Int32 × (Nat → Int32) × (Nat → Int32)) :=
  if s1 ≤ 0 then (if z3 = 0 then (if jin z1 5 = true then (jlet (v_right z1.toNatClampNeg) (fun y4_1 => if jin z2 5 = true then (if jin z1 5 = true then (if jin z2 5 = true then (if jin z1 5 = true then (some ((upd (upd v_right z1.toNatClampNeg (v_right z2.toNatClampNeg)) z2.toNatClampNeg y4_1) z1.toNatClampNeg, s1, upd (upd v_right z1.toNatClampNeg (v_right z2.toNatClampNeg)) z2.toNatClampNeg y4_1, v_up)) else none) else none) else none) else none)) else none) else (if jin z1 5 = true then (jlet (v_up z1.toNatClampNeg) (fun y4_2 => if jin z2 5 = true then (if jin z1 5 = true then (if jin z2 5 = true then (if jin z1 5 = true then (some ((upd (upd v_up z1.toNatClampNeg (v_up z2.toNatClampNeg)) z2.toNatClampNeg y4_2) z1.toNatClampNeg, s1, v_right, upd (upd v_up z1.toNatClampNeg (v_up z2.toNatClampNeg)) z2.toNatClampNeg y4_2)) else none) else none) else none) else none)) else none)) else (some (0, s1, v_right, v_up))
def jf_Mo_glue_b21 (v_thrown : Int32) (v_right : Nat → Int32) (v_up : Nat → Int32) (z1 : Int32) (z2 : Int32) (z3 : Int32) : Option (Int32 × Int32 × (Nat → Int32) × (Nat → Int32)) :=
  jf_Mo_glue_b22 v_thrown v_right v_up z1 z2 z3 1
def jf_Mo_glue (v_thrown : Int32) (v_squares : Int32) (v_right : Nat → Int32) (v_up : Nat → Int32) (x1 : Int32) (x2 : Int32) (x3 : Int32) : Option (Int32 × Int32 × (Nat → Int32) × (Nat → Int32)) :=
  if (jf_Mo_isSquare v_squares x1) = 0 then (jf_Mo_glue_b21 v_thrown v_right v_up x1 x2 x3) else (if (jf_Mo_isSquare v_squares x2) = 0 then (jf_Mo_glue_b21 v_thrown v_right v_up x1 x2 x3) else (jf_Mo_glue_b22 v_thrown v_right v_up x1 x2 x3 0))
abbrev jr_Mo_glue : Room := { frames := 2, cells := 0, slots := 0, locals := 43 }
set_option maxRecDepth 100000 in
set_option maxHeartbeats 4000000 in
theorem jc_Mo_glue (l : Launch) (g : jG) (a_this a_this_isBlock a_this_isSeen a_this_lampX a_this_lampY a_this_right a_this_up a_this_keptRight a_this_keptUp a_this_name a_this_part a_this_codes a_this_above a_this_below a_this_length a_this_isMet : Nat) (v_thrown : Int32) (v_isBounce : Int32) (v_lamps : Int32) (v_squares : Int32) (v_intervals : Int32) (v_isBlock : Nat → Int32) (v_isSeen : Nat → Int32) (v_lampX : Nat → Int32) (v_lampY : Nat → Int32) (v_right : Nat → Int32) (v_up : Nat → Int32) (v_keptRight : Nat → Int32) (v_keptUp : Nat → Int32) (v_name : Nat → Int32) (v_part : Nat → Int32) (v_codes : Nat → Int32) (v_above : Nat → Int32) (v_below : Nat → Int32) (v_length : Nat → Int32) (v_isMet : Nat → Int32) (x1 : Int32) (x2 : Int32) (x3 : Int32) (R : Int32 × Int32 × (Nat → Int32) × (Nat → Int32)) (hR : jf_Mo_glue v_thrown v_squares v_right v_up x1 x2 x3 = some R) (sz : Nat) : Met l yX7_glue wsX7_glue jr_Mo_glue (jPw g [.ref a_this, .int x1, .int x2, .int x3] (jw_Mo g a_this a_this_isBlock a_this_isSeen a_this_lampX a_this_lampY a_this_right a_this_up a_this_keptRight a_this_keptUp a_this_name a_this_part a_this_codes a_this_above a_this_below a_this_length a_this_isMet v_thrown v_isBounce v_lamps v_squares v_intervals v_isBlock v_isSeen v_lampX v_lampY v_right v_up v_keptRight v_keptUp v_name v_part v_codes v_above v_below v_length v_isMet) sz) (jQi g R.1 (jw_Mo g a_this a_this_isBlock a_this_isSeen a_this_lampX a_this_lampY a_this_right a_this_up a_this_keptRight a_this_keptUp a_this_name a_this_part a_this_codes a_this_above a_this_below a_this_length a_this_isMet R.2.1 v_isBounce v_lamps v_squares v_intervals v_isBlock v_isSeen v_lampX v_lampY R.2.2.1 R.2.2.2 v_keptRight v_keptUp v_name v_part v_codes v_above v_below v_length v_isMet) (va_A (jw_Mo g a_this a_this_isBlock a_this_isSeen a_this_lampX a_this_lampY a_this_right a_this_up a_this_keptRight a_this_keptUp a_this_name a_this_part a_this_codes a_this_above a_this_below a_this_length a_this_isMet v_thrown v_isBounce v_lamps v_squares v_intervals v_isBlock v_isSeen v_lampX v_lampY v_right v_up v_keptRight v_keptUp v_name v_part v_codes v_above v_below v_length v_isMet) sz)) 0 0 (va_A (jw_Mo g a_this a_this_isBlock a_this_isSeen a_this_lampX a_this_lampY a_this_right a_this_up a_this_keptRight a_this_keptUp a_this_name a_this_part a_this_codes a_this_above a_this_below a_this_length a_this_isMet v_thrown v_isBounce v_lamps v_squares v_intervals v_isBlock v_isSeen v_lampX v_lampY v_right v_up v_keptRight v_keptUp v_name v_part v_codes v_above v_below v_length v_isMet) sz) := by
  refine jm_wi (cc := cX7_glue) (maxL := 5) (by decide +kernel) rfl (Nat.le_of_ble_eq_true rfl) ?_
  intro p e s m below meth c A Q hx hb hml hown hts hK hP hD hA hS fin ls hl
  have hl : lv_has ls 5 [(0, .ref a_this), (1, .int x1), (2, .int x2), (3, .int x3)] := hl
  have hown : s.vm.findClass RX7 = some m.cls := hown
  have w_X7 : ∀ w ∈ u_ws RX7 TX7 20, w ∈ wsX7_glue := by decide +kernel
  have w_f60 := hts (.fieldLink RX7 60 "BilliardryModel" "thrown" "I") (by decide +kernel)
  have w_f27 := hts (.fieldLink RX7 27 "BilliardryModel" "right" "[I") (by decide +kernel)
  have w_f30 := hts (.fieldLink RX7 30 "BilliardryModel" "up" "[I") (by decide +kernel)
  have J22 : ∀ (v_thrown : Int32) (v_right : Nat → Int32) (v_up : Nat → Int32) (z1 : Int32) (z2 : Int32) (z3 : Int32) (s1 : Int32) (H : Heap) (locs : List Loc), va_P g.1 vwCl (jw_Mo g a_this a_this_isBlock a_this_isSeen a_this_lampX a_this_lampY a_this_right a_this_up a_this_keptRight a_this_keptUp a_this_name a_this_part a_this_codes a_this_above a_this_below a_this_length a_this_isMet v_thrown v_isBounce v_lamps v_squares v_intervals v_isBlock v_isSeen v_lampX v_lampY v_right v_up v_keptRight v_keptUp v_name v_part v_codes v_above v_below v_length v_isMet) H → va_S A s.heap H locs → ∀ (ls : Array Slot), lv_has ls 5 [(0, .ref a_this), (1, .int z1), (2, .int z2), (3, .int z3)] → jf_Mo_glue_b22 v_thrown v_right v_up z1 z2 z3 s1 = some R → W p l e jr_Mo_glue s m ([.ref a_this, .int x1, .int x2, .int x3] : List Value).toArray below meth c H locs 0 0 Q (F0 m 22 ls [.int s1, .ref a_this]) := by
    intro v_thrown v_right v_up z1 z2 z3 s1 H locs hP hS ls hl hR
    rw [jf_Mo_glue_b22] at hR
    refine va_put (D := g.1) (ci := 7) (v := .int s1) (ty := .int) (C := RX7) (T := TX7) (N := 20) hx hb hts w_X7 tyX7 tyX7_ok nmX7 hown hK.1 hP (jD_to hD rfl) hS 0 rfl rfl 0 (by decide) w_f60 (fun _ h9 => h9) rfl (by decide +kernel) rfl rfl (Nat.le_of_ble_eq_true rfl) dX7_glue_22 (fun H locs hP _ hS => ?_)
    have hP : va_P g.1 vwCl (jw_Mo g a_this a_this_isBlock a_this_isSeen a_this_lampX a_this_lampY a_this_right a_this_up a_this_keptRight a_this_keptUp a_this_name a_this_part a_this_codes a_this_above a_this_below a_this_length a_this_isMet s1 v_isBounce v_lamps v_squares v_intervals v_isBlock v_isSeen v_lampX v_lampY v_right v_up v_keptRight v_keptUp v_name v_part v_codes v_above v_below v_length v_isMet) H := hP
    refine lv_aload_n hx hb dX7_glue_25 rfl (lv_at hl 0 rfl) ?_
    refine va_get (D := g.1) (ci := 7) (v := .int s1) (C := RX7) (T := TX7) (N := 20) hx hb hts w_X7 hown hK.1 hP 0 rfl rfl 0 (by decide) w_f60 (fun _ h9 => h9) rfl dX7_glue_26 ?_
    refine lv_if_le (tgt := 34) hx hb dX7_glue_29 (by decide) (fun c_2 => ?_) (fun c_2 => ?_)
    · replace hR := Eq.trans (Eq.symm (if_pos c_2)) hR
      refine lv_iload_n hx hb dX7_glue_34 rfl (lv_at hl 3 rfl) ?_
      refine lv_if_eq (tgt := 73) hx hb dX7_glue_35 (by decide) (fun c_3 => ?_) (fun c_3 => ?_)
      · replace hR := Eq.trans (Eq.symm (if_pos c_3)) hR
        refine lv_aload_n hx hb dX7_glue_73 rfl (lv_at hl 0 rfl) ?_
        refine va_get (D := g.1) (ci := 7) (v := .ref a_this_right) (C := RX7) (T := TX7) (N := 20) hx hb hts w_X7 hown hK.1 hP 0 rfl rfl 8 (by decide) w_f27 (fun _ h9 => h9) rfl dX7_glue_74 ?_
        refine lv_iload_n hx hb dX7_glue_77 rfl (lv_at hl 1 rfl) ?_
        by_cases c_4 : jin z1 5 = true
        case neg => replace hR := Eq.trans (Eq.symm (if_neg c_4)) hR; cases hR
        replace hR := Eq.trans (Eq.symm (if_pos c_4)) hR
        refine va_iald hx hb hK.1 hP 5 0 rfl rfl (jin_in c_4) dX7_glue_78 ?_
        refine jlet_i hR (fun y4_1 hR => ?_)
        try dsimp only at hR
        refine lv_istore (lv' := [(4, .int y4_1), (0, .ref a_this), (1, .int z1), (2, .int z2), (3, .int z3)]) hx hb dX7_glue_79 hl (by decide) rfl (fun ls hl => ?_)
        refine lv_aload_n hx hb dX7_glue_81 rfl (lv_at hl 1 rfl) ?_
        refine va_get (D := g.1) (ci := 7) (v := .ref a_this_right) (C := RX7) (T := TX7) (N := 20) hx hb hts w_X7 hown hK.1 hP 0 rfl rfl 8 (by decide) w_f27 (fun _ h9 => h9) rfl dX7_glue_82 ?_
        refine lv_iload_n hx hb dX7_glue_85 rfl (lv_at hl 2 rfl) ?_
        refine lv_aload_n hx hb dX7_glue_86 rfl (lv_at hl 1 rfl) ?_
        refine va_get (D := g.1) (ci := 7) (v := .ref a_this_right) (C := RX7) (T := TX7) (N := 20) hx hb hts w_X7 hown hK.1 hP 0 rfl rfl 8 (by decide) w_f27 (fun _ h9 => h9) rfl dX7_glue_87 ?_
        refine lv_iload_n hx hb dX7_glue_90 rfl (lv_at hl 3 rfl) ?_
        by_cases c_5 : jin z2 5 = true
        case neg => replace hR := Eq.trans (Eq.symm (if_neg c_5)) hR; cases hR
        replace hR := Eq.trans (Eq.symm (if_pos c_5)) hR
        refine va_iald hx hb hK.1 hP 5 0 rfl rfl (jin_in c_5) dX7_glue_91 ?_
        by_cases c_6 : jin z1 5 = true
        case neg => replace hR := Eq.trans (Eq.symm (if_neg c_6)) hR; cases hR
        replace hR := Eq.trans (Eq.symm (if_pos c_6)) hR
        refine va_iast hx hb hK.1 hP (jD_to hD rfl) hS 5 0 rfl rfl (jin_in c_6) dX7_glue_92 (fun H locs hP _ hS => ?_)
        have hP : va_P g.1 vwCl (jw_Mo g a_this a_this_isBlock a_this_isSeen a_this_lampX a_this_lampY a_this_right a_this_up a_this_keptRight a_this_keptUp a_this_name a_this_part a_this_codes a_this_above a_this_below a_this_length a_this_isMet s1 v_isBounce v_lamps v_squares v_intervals v_isBlock v_isSeen v_lampX v_lampY (upd v_right z1.toNatClampNeg (v_right z2.toNatClampNeg)) v_up v_keptRight v_keptUp v_name v_part v_codes v_above v_below v_length v_isMet) H := hP
        refine lv_aload_n hx hb dX7_glue_93 rfl (lv_at hl 1 rfl) ?_
        refine va_get (D := g.1) (ci := 7) (v := .ref a_this_right) (C := RX7) (T := TX7) (N := 20) hx hb hts w_X7 hown hK.1 hP 0 rfl rfl 8 (by decide) w_f27 (fun _ h9 => h9) rfl dX7_glue_94 ?_
        refine lv_iload_n hx hb dX7_glue_97 rfl (lv_at hl 3 rfl) ?_
        refine lv_iload hx hb dX7_glue_98 (lv_at hl 0 rfl) ?_
        by_cases c_7 : jin z2 5 = true
        case neg => replace hR := Eq.trans (Eq.symm (if_neg c_7)) hR; cases hR
        replace hR := Eq.trans (Eq.symm (if_pos c_7)) hR
        refine va_iast hx hb hK.1 hP (jD_to hD rfl) hS 5 0 rfl rfl (jin_in c_7) dX7_glue_100 (fun H locs hP _ hS => ?_)
        have hP : va_P g.1 vwCl (jw_Mo g a_this a_this_isBlock a_this_isSeen a_this_lampX a_this_lampY a_this_right a_this_up a_this_keptRight a_this_keptUp a_this_name a_this_part a_this_codes a_this_above a_this_below a_this_length a_this_isMet s1 v_isBounce v_lamps v_squares v_intervals v_isBlock v_isSeen v_lampX v_lampY (upd (upd v_right z1.toNatClampNeg (v_right z2.toNatClampNeg)) z2.toNatClampNeg y4_1) v_up v_keptRight v_keptUp v_name v_part v_codes v_above v_below v_length v_isMet) H := hP
        refine lv_aload_n hx hb dX7_glue_101 rfl (lv_at hl 1 rfl) ?_
        refine va_get (D := g.1) (ci := 7) (v := .ref a_this_right) (C := RX7) (T := TX7) (N := 20) hx hb hts w_X7 hown hK.1 hP 0 rfl rfl 8 (by decide) w_f27 (fun _ h9 => h9) rfl dX7_glue_102 ?_
        refine lv_iload_n hx hb dX7_glue_105 rfl (lv_at hl 2 rfl) ?_
        by_cases c_8 : jin z1 5 = true
        case neg => replace hR := Eq.trans (Eq.symm (if_neg c_8)) hR; cases hR
        replace hR := Eq.trans (Eq.symm (if_pos c_8)) hR
        refine va_iald hx hb hK.1 hP 5 0 rfl rfl (jin_in c_8) dX7_glue_106 ?_
        obtain rfl := (Option.some.inj hR)
        exact fin _ _ _ _ _ rfl hP hS dX7_glue_107
      · replace hR := Eq.trans (Eq.symm (if_neg c_3)) hR
        refine lv_aload_n hx hb dX7_glue_38 rfl (lv_at hl 0 rfl) ?_
        refine va_get (D := g.1) (ci := 7) (v := .ref a_this_up) (C := RX7) (T := TX7) (N := 20) hx hb hts w_X7 hown hK.1 hP 0 rfl rfl 9 (by decide) w_f30 (fun _ h9 => h9) rfl dX7_glue_39 ?_
        refine lv_iload_n hx hb dX7_glue_42 rfl (lv_at hl 1 rfl) ?_
        by_cases c_9 : jin z1 5 = true
        case neg => replace hR := Eq.trans (Eq.symm (if_neg c_9)) hR; cases hR
        replace hR := Eq.trans (Eq.symm (if_pos c_9)) hR
        refine va_iald hx hb hK.1 hP 6 0 rfl rfl (jin_in c_9) dX7_glue_43 ?_
        refine jlet_i hR (fun y4_2 hR => ?_)
        try dsimp only at hR
        refine lv_istore (lv' := [(4, .int y4_2), (0, .ref a_this), (1, .int z1), (2, .int z2), (3, .int z3)]) hx hb dX7_glue_44 hl (by decide) rfl (fun ls hl => ?_)
        refine lv_aload_n hx hb dX7_glue_46 rfl (lv_at hl 1 rfl) ?_
        refine va_get (D := g.1) (ci := 7) (v := .ref a_this_up) (C := RX7) (T := TX7) (N := 20) hx hb hts w_X7 hown hK.1 hP 0 rfl rfl 9 (by decide) w_f30 (fun _ h9 => h9) rfl dX7_glue_47 ?_
        refine lv_iload_n hx hb dX7_glue_50 rfl (lv_at hl 2 rfl) ?_
        refine lv_aload_n hx hb dX7_glue_51 rfl (lv_at hl 1 rfl) ?_
        refine va_get (D := g.1) (ci := 7) (v := .ref a_this_up) (C := RX7) (T := TX7) (N := 20) hx hb hts w_X7 hown hK.1 hP 0 rfl rfl 9 (by decide) w_f30 (fun _ h9 => h9) rfl dX7_glue_52 ?_
        refine lv_iload_n hx hb dX7_glue_55 rfl (lv_at hl 3 rfl) ?_
        by_cases c_10 : jin z2 5 = true
        case neg => replace hR := Eq.trans (Eq.symm (if_neg c_10)) hR; cases hR
        replace hR := Eq.trans (Eq.symm (if_pos c_10)) hR
        refine va_iald hx hb hK.1 hP 6 0 rfl rfl (jin_in c_10) dX7_glue_56 ?_
        by_cases c_11 : jin z1 5 = true
        case neg => replace hR := Eq.trans (Eq.symm (if_neg c_11)) hR; cases hR
        replace hR := Eq.trans (Eq.symm (if_pos c_11)) hR
        refine va_iast hx hb hK.1 hP (jD_to hD rfl) hS 6 0 rfl rfl (jin_in c_11) dX7_glue_57 (fun H locs hP _ hS => ?_)
        have hP : va_P g.1 vwCl (jw_Mo g a_this a_this_isBlock a_this_isSeen a_this_lampX a_this_lampY a_this_right a_this_up a_this_keptRight a_this_keptUp a_this_name a_this_part a_this_codes a_this_above a_this_below a_this_length a_this_isMet s1 v_isBounce v_lamps v_squares v_intervals v_isBlock v_isSeen v_lampX v_lampY v_right (upd v_up z1.toNatClampNeg (v_up z2.toNatClampNeg)) v_keptRight v_keptUp v_name v_part v_codes v_above v_below v_length v_isMet) H := hP
        refine lv_aload_n hx hb dX7_glue_58 rfl (lv_at hl 1 rfl) ?_
        refine va_get (D := g.1) (ci := 7) (v := .ref a_this_up) (C := RX7) (T := TX7) (N := 20) hx hb hts w_X7 hown hK.1 hP 0 rfl rfl 9 (by decide) w_f30 (fun _ h9 => h9) rfl dX7_glue_59 ?_
        refine lv_iload_n hx hb dX7_glue_62 rfl (lv_at hl 3 rfl) ?_
        refine lv_iload hx hb dX7_glue_63 (lv_at hl 0 rfl) ?_
        by_cases c_12 : jin z2 5 = true
        case neg => replace hR := Eq.trans (Eq.symm (if_neg c_12)) hR; cases hR
        replace hR := Eq.trans (Eq.symm (if_pos c_12)) hR
        refine va_iast hx hb hK.1 hP (jD_to hD rfl) hS 6 0 rfl rfl (jin_in c_12) dX7_glue_65 (fun H locs hP _ hS => ?_)
        have hP : va_P g.1 vwCl (jw_Mo g a_this a_this_isBlock a_this_isSeen a_this_lampX a_this_lampY a_this_right a_this_up a_this_keptRight a_this_keptUp a_this_name a_this_part a_this_codes a_this_above a_this_below a_this_length a_this_isMet s1 v_isBounce v_lamps v_squares v_intervals v_isBlock v_isSeen v_lampX v_lampY v_right (upd (upd v_up z1.toNatClampNeg (v_up z2.toNatClampNeg)) z2.toNatClampNeg y4_2) v_keptRight v_keptUp v_name v_part v_codes v_above v_below v_length v_isMet) H := hP
        refine lv_aload_n hx hb dX7_glue_66 rfl (lv_at hl 1 rfl) ?_
        refine va_get (D := g.1) (ci := 7) (v := .ref a_this_up) (C := RX7) (T := TX7) (N := 20) hx hb hts w_X7 hown hK.1 hP 0 rfl rfl 9 (by decide) w_f30 (fun _ h9 => h9) rfl dX7_glue_67 ?_
        refine lv_iload_n hx hb dX7_glue_70 rfl (lv_at hl 2 rfl) ?_
        by_cases c_13 : jin z1 5 = true
        case neg => replace hR := Eq.trans (Eq.symm (if_neg c_13)) hR; cases hR
        replace hR := Eq.trans (Eq.symm (if_pos c_13)) hR
        refine va_iald hx hb hK.1 hP 6 0 rfl rfl (jin_in c_13) dX7_glue_71 ?_
        obtain rfl := (Option.some.inj hR)
        exact fin _ _ _ _ _ rfl hP hS dX7_glue_72
    · replace hR := Eq.trans (Eq.symm (if_neg c_2)) hR
      refine lv_iconst (v := 0) hx hb dX7_glue_32 (by decide) ?_
      obtain rfl := (Option.some.inj hR)
      exact fin _ _ _ _ _ rfl hP hS dX7_glue_33
  have J21 : ∀ (v_thrown : Int32) (v_right : Nat → Int32) (v_up : Nat → Int32) (z1 : Int32) (z2 : Int32) (z3 : Int32) (H : Heap) (locs : List Loc), va_P g.1 vwCl (jw_Mo g a_this a_this_isBlock a_this_isSeen a_this_lampX a_this_lampY a_this_right a_this_up a_this_keptRight a_this_keptUp a_this_name a_this_part a_this_codes a_this_above a_this_below a_this_length a_this_isMet v_thrown v_isBounce v_lamps v_squares v_intervals v_isBlock v_isSeen v_lampX v_lampY v_right v_up v_keptRight v_keptUp v_name v_part v_codes v_above v_below v_length v_isMet) H → va_S A s.heap H locs → ∀ (ls : Array Slot), lv_has ls 5 [(0, .ref a_this), (1, .int z1), (2, .int z2), (3, .int z3)] → jf_Mo_glue_b21 v_thrown v_right v_up z1 z2 z3 = some R → W p l e jr_Mo_glue s m ([.ref a_this, .int x1, .int x2, .int x3] : List Value).toArray below meth c H locs 0 0 Q (F0 m 21 ls [.ref a_this]) := by
    intro v_thrown v_right v_up z1 z2 z3 H locs hP hS ls hl hR
    rw [jf_Mo_glue_b21] at hR
    refine lv_iconst (v := 1) hx hb dX7_glue_21 (by decide) ?_
    exact J22 v_thrown v_right v_up z1 z2 z3 1 _ _ hP hS _ (lv_sub hl [0, 1, 2, 3] rfl) hR
  rw [jf_Mo_glue] at hR
  refine lv_aload_n hx hb dX7_glue_0 rfl (lv_at hl 0 rfl) ?_
  refine lv_aload_n hx hb dX7_glue_1 rfl (lv_at hl 0 rfl) ?_
  refine lv_iload_n hx hb dX7_glue_2 rfl (lv_at hl 1 rfl) ?_
  refine jcall_ri (va_runV (As := [.int x1]) (rest := [.ref a_this]) ⟨hx, hb, hml, hown, hts⟩ (jc_Mo_isSquare l g a_this a_this_isBlock a_this_isSeen a_this_lampX a_this_lampY a_this_right a_this_up a_this_keptRight a_this_keptUp a_this_name a_this_part a_this_codes a_this_above a_this_below a_this_length a_this_isMet v_thrown v_isBounce v_lamps v_squares v_intervals v_isBlock v_isSeen v_lampX v_lampY v_right v_up v_keptRight v_keptUp v_name v_part v_codes v_above v_below v_length v_isMet x1 _ rfl) (cwV 1 hts gX7_glue_X7_isSquare rfl rfl rfl (by decide +kernel) ⟨Nat.le_of_ble_eq_true rfl, Nat.le_of_ble_eq_true rfl⟩) (jpr_v hK hP (ci := 7) (q0 := 0) rfl rfl) rfl rfl hl.1 rfl (lv_room (Nat.le_of_ble_eq_true rfl)) dX7_glue_3 ⟨Nat.zero_le _, Nat.zero_le _⟩) ?_
  refine lv_if_eq (tgt := 21) hx hb dX7_glue_6 (by decide) (fun c_1 => ?_) (fun c_1 => ?_)
  · replace hR := Eq.trans (Eq.symm (if_pos c_1)) hR
    exact J21 v_thrown v_right v_up x1 x2 x3 _ _ hP hS _ (lv_sub hl [0, 1, 2, 3] rfl) hR
  · replace hR := Eq.trans (Eq.symm (if_neg c_1)) hR
    refine lv_aload_n hx hb dX7_glue_9 rfl (lv_at hl 0 rfl) ?_
    refine lv_iload_n hx hb dX7_glue_10 rfl (lv_at hl 2 rfl) ?_
    refine jcall_ri (va_runV (As := [.int x2]) (rest := [.ref a_this]) ⟨hx, hb, hml, hown, hts⟩ (jc_Mo_isSquare l g a_this a_this_isBlock a_this_isSeen a_this_lampX a_this_lampY a_this_right a_this_up a_this_keptRight a_this_keptUp a_this_name a_this_part a_this_codes a_this_above a_this_below a_this_length a_this_isMet v_thrown v_isBounce v_lamps v_squares v_intervals v_isBlock v_isSeen v_lampX v_lampY v_right v_up v_keptRight v_keptUp v_name v_part v_codes v_above v_below v_length v_isMet x2 _ rfl) (cwV 1 hts gX7_glue_X7_isSquare rfl rfl rfl (by decide +kernel) ⟨Nat.le_of_ble_eq_true rfl, Nat.le_of_ble_eq_true rfl⟩) (jpr_v hK hP (ci := 7) (q0 := 0) rfl rfl) rfl rfl hl.1 rfl (lv_room (Nat.le_of_ble_eq_true rfl)) dX7_glue_11 ⟨Nat.zero_le _, Nat.zero_le _⟩) ?_
    refine lv_if_eq (tgt := 21) hx hb dX7_glue_14 (by decide) (fun c_14 => ?_) (fun c_14 => ?_)
    · replace hR := Eq.trans (Eq.symm (if_pos c_14)) hR
      exact J21 v_thrown v_right v_up x1 x2 x3 _ _ hP hS _ (lv_sub hl [0, 1, 2, 3] rfl) hR
    · replace hR := Eq.trans (Eq.symm (if_neg c_14)) hR
      refine lv_iconst (v := 0) hx hb dX7_glue_17 (by decide) ?_
      refine lv_goto (tgt := 22) hx hb dX7_glue_18 (by decide) ?_
      exact J22 v_thrown v_right v_up x1 x2 x3 0 _ _ hP hS _ (lv_sub hl [0, 1, 2, 3] rfl) hR
def jf_Mo_leftOf_b27 (self : Int32 → Int32 → Option Int32) (v_squares : Int32) (v_right : Nat → Int32) (z1 : Int32) (z3 : Int32) (s0 : Int32) : Option Int32 :=
  self s0 (z3 + 1)
def jf_Mo_leftOf_L4 (v_squares : Int32) (v_right : Nat → Int32) (z1 : Int32) : Nat → Int32 → Int32 → Option Int32
  | 0, _, _ => none
  | n + 1, z2, z3 =>
    if v_squares ≤ z3 then (some z2) else (if jin z3 5 = true then (if v_right z3.toNatClampNeg = z1 then (jf_Mo_leftOf_b27 (jf_Mo_leftOf_L4 v_squares v_right z1 n) v_squares v_right z1 z3 z3) else (jf_Mo_leftOf_b27 (jf_Mo_leftOf_L4 v_squares v_right z1 n) v_squares v_right z1 z3 z2)) else none)
def jf_Mo_leftOf (v_squares : Int32) (v_right : Nat → Int32) (x1 : Int32) : Option Int32 :=
  Option.bind (jf_Mo_leftOf_L4 v_squares v_right x1 jF 0 0) (fun q_1 => some q_1)
abbrev jr_Mo_leftOf : Room := { frames := 0, cells := 0, slots := 0, locals := 0 }
set_option maxRecDepth 100000 in
set_option maxHeartbeats 4000000 in
theorem jc_Mo_leftOf (l : Launch) (g : jG) (a_this a_this_isBlock a_this_isSeen a_this_lampX a_this_lampY a_this_right a_this_up a_this_keptRight a_this_keptUp a_this_name a_this_part a_this_codes a_this_above a_this_below a_this_length a_this_isMet : Nat) (v_thrown : Int32) (v_isBounce : Int32) (v_lamps : Int32) (v_squares : Int32) (v_intervals : Int32) (v_isBlock : Nat → Int32) (v_isSeen : Nat → Int32) (v_lampX : Nat → Int32) (v_lampY : Nat → Int32) (v_right : Nat → Int32) (v_up : Nat → Int32) (v_keptRight : Nat → Int32) (v_keptUp : Nat → Int32) (v_name : Nat → Int32) (v_part : Nat → Int32) (v_codes : Nat → Int32) (v_above : Nat → Int32) (v_below : Nat → Int32) (v_length : Nat → Int32) (v_isMet : Nat → Int32) (x1 : Int32) (R : Int32) (hR : jf_Mo_leftOf v_squares v_right x1 = some R) : Met l yX7_leftOf wsX7_leftOf jr_Mo_leftOf (jPr g [.ref a_this, .int x1] (jw_Mo g a_this a_this_isBlock a_this_isSeen a_this_lampX a_this_lampY a_this_right a_this_up a_this_keptRight a_this_keptUp a_this_name a_this_part a_this_codes a_this_above a_this_below a_this_length a_this_isMet v_thrown v_isBounce v_lamps v_squares v_intervals v_isBlock v_isSeen v_lampX v_lampY v_right v_up v_keptRight v_keptUp v_name v_part v_codes v_above v_below v_length v_isMet)) (vp_Si (fun r => r = R)) 0 0 (fun _ => False) := by
  refine jm_ri (cc := cX7_leftOf) (maxL := 4) (by decide +kernel) rfl (Nat.le_of_ble_eq_true rfl) ?_
  intro p e s m below meth c Q hx hb hml hown hts hK hP fin ls hl
  have hl : lv_has ls 4 [(0, .ref a_this), (1, .int x1)] := hl
  have hown : s.vm.findClass RX7 = some m.cls := hown
  have w_X7 : ∀ w ∈ u_ws RX7 TX7 20, w ∈ wsX7_leftOf := by decide +kernel
  have w_f23 := hts (.fieldLink RX7 23 "BilliardryModel" "squares" "I") (by decide +kernel)
  have w_f27 := hts (.fieldLink RX7 27 "BilliardryModel" "right" "[I") (by decide +kernel)
  have L4 : ∀ (n : Nat) (z1 : Int32) (z2 : Int32) (z3 : Int32) (ls : Array Slot), lv_has ls 4 [(0, .ref a_this), (1, .int z1), (2, .int z2), (3, .int z3)] → ∀ q, jf_Mo_leftOf_L4 v_squares v_right z1 n z2 z3 = some q → (∀ ls : Array Slot, lv_has ls 4 [(2, .int q)] → W p l e jr_Mo_leftOf s m ([.ref a_this, .int x1] : List Value).toArray below meth c s.heap [] 0 0 Q (F0 m 34 ls [])) → W p l e jr_Mo_leftOf s m ([.ref a_this, .int x1] : List Value).toArray below meth c s.heap [] 0 0 Q (F0 m 4 ls []) := by
    intro n z1
    induction n with
    | zero =>
      intro z2 z3 ls hl q hR k
      cases hR
    | succ n ih =>
      have J27 : ∀ (z3 : Int32) (s0 : Int32) (ls : Array Slot), lv_has ls 4 [(0, .ref a_this), (1, .int z1), (3, .int z3)] → ∀ q, jf_Mo_leftOf_b27 (jf_Mo_leftOf_L4 v_squares v_right z1 n) v_squares v_right z1 z3 s0 = some q → (∀ ls : Array Slot, lv_has ls 4 [(2, .int q)] → W p l e jr_Mo_leftOf s m ([.ref a_this, .int x1] : List Value).toArray below meth c s.heap [] 0 0 Q (F0 m 34 ls [])) → W p l e jr_Mo_leftOf s m ([.ref a_this, .int x1] : List Value).toArray below meth c s.heap [] 0 0 Q (F0 m 27 ls [.int s0]) := by
        intro z3 s0 ls hl q hR k
        rw [jf_Mo_leftOf_b27] at hR
        refine lv_istore_n (lv' := [(2, .int s0), (0, .ref a_this), (1, .int z1), (3, .int z3)]) hx hb dX7_leftOf_27 rfl hl (by decide) rfl (fun ls hl => ?_)
        refine lv_iinc (v := z3 + 1) (lv' := [(3, .int (z3 + 1)), (2, .int s0), (0, .ref a_this), (1, .int z1)]) hx hb dX7_leftOf_28 hl (k := 3) rfl (by first | rfl | decide) (by decide) rfl (fun ls hl => ?_)
        refine lv_goto (tgt := 4) hx hb dX7_leftOf_31 (by decide) ?_
        exact ih s0 (z3 + 1) _ (lv_sub hl [2, 3, 1, 0] rfl) _ hR k
      intro z2 z3 ls hl q hR k
      rw [jf_Mo_leftOf_L4] at hR
      refine lv_iload_n hx hb dX7_leftOf_4 rfl (lv_at hl 3 rfl) ?_
      refine lv_aload_n hx hb dX7_leftOf_5 rfl (lv_at hl 0 rfl) ?_
      refine va_get (D := g.1) (ci := 7) (v := .int v_squares) (C := RX7) (T := TX7) (N := 20) hx hb hts w_X7 hown hK.1 hP 0 rfl rfl 7 (by decide) w_f23 (fun _ h9 => h9) rfl dX7_leftOf_6 ?_
      refine lv_icmp_ge (tgt := 34) hx hb dX7_leftOf_9 (by decide) (fun c_1 => ?_) (fun c_1 => ?_)
      · replace hR := Eq.trans (Eq.symm (if_pos c_1)) hR
        cases hR
        exact k _ (lv_sub hl [2] rfl)
      · replace hR := Eq.trans (Eq.symm (if_neg c_1)) hR
        refine lv_aload_n hx hb dX7_leftOf_12 rfl (lv_at hl 0 rfl) ?_
        refine va_get (D := g.1) (ci := 7) (v := .ref a_this_right) (C := RX7) (T := TX7) (N := 20) hx hb hts w_X7 hown hK.1 hP 0 rfl rfl 8 (by decide) w_f27 (fun _ h9 => h9) rfl dX7_leftOf_13 ?_
        refine lv_iload_n hx hb dX7_leftOf_16 rfl (lv_at hl 3 rfl) ?_
        by_cases c_2 : jin z3 5 = true
        case neg => replace hR := Eq.trans (Eq.symm (if_neg c_2)) hR; cases hR
        replace hR := Eq.trans (Eq.symm (if_pos c_2)) hR
        refine va_iald hx hb hK.1 hP 5 0 rfl rfl (jin_in c_2) dX7_leftOf_17 ?_
        refine lv_iload_n hx hb dX7_leftOf_18 rfl (lv_at hl 1 rfl) ?_
        refine lv_icmp_ne (tgt := 26) hx hb dX7_leftOf_19 (by decide) (fun c_3 => ?_) (fun c_3 => ?_)
        · replace hR := Eq.trans (Eq.symm (if_neg c_3)) hR
          refine lv_iload_n hx hb dX7_leftOf_26 rfl (lv_at hl 2 rfl) ?_
          exact J27 z3 z2 _ (lv_sub hl [0, 1, 3] rfl) _ hR k
        · replace hR := Eq.trans (Eq.symm (if_pos c_3)) hR
          refine lv_iload_n hx hb dX7_leftOf_22 rfl (lv_at hl 3 rfl) ?_
          refine lv_goto (tgt := 27) hx hb dX7_leftOf_23 (by decide) ?_
          exact J27 z3 z3 _ (lv_sub hl [0, 1, 3] rfl) _ hR k
  rw [jf_Mo_leftOf] at hR
  refine lv_iconst (v := 0) hx hb dX7_leftOf_0 (by decide) ?_
  refine lv_istore_n (lv' := [(2, .int 0), (0, .ref a_this), (1, .int x1)]) hx hb dX7_leftOf_1 rfl hl (by decide) rfl (fun ls hl => ?_)
  refine lv_iconst (v := 0) hx hb dX7_leftOf_2 (by decide) ?_
  refine lv_istore_n (lv' := [(3, .int 0), (2, .int 0), (0, .ref a_this), (1, .int x1)]) hx hb dX7_leftOf_3 rfl hl (by decide) rfl (fun ls hl => ?_)
  obtain ⟨q_1, hq_1, hR⟩ := jbind hR
  try dsimp only at hR
  refine L4 jF x1 0 0 _ (lv_sub hl [2, 3, 1, 0] rfl) _ hq_1 (fun ls hl => ?_)
  refine lv_iload_n hx hb dX7_leftOf_34 rfl (lv_at hl 0 rfl) ?_
  exact fin _ _ _ (Option.some.inj hR) dX7_leftOf_35
def jf_Mo_downOf_b27 (self : Int32 → Int32 → Option Int32) (v_squares : Int32) (v_up : Nat → Int32) (z1 : Int32) (z3 : Int32) (s0 : Int32) : Option Int32 :=
  self s0 (z3 + 1)
def jf_Mo_downOf_L4 (v_squares : Int32) (v_up : Nat → Int32) (z1 : Int32) : Nat → Int32 → Int32 → Option Int32
  | 0, _, _ => none
  | n + 1, z2, z3 =>
    if v_squares ≤ z3 then (some z2) else (if jin z3 5 = true then (if v_up z3.toNatClampNeg = z1 then (jf_Mo_downOf_b27 (jf_Mo_downOf_L4 v_squares v_up z1 n) v_squares v_up z1 z3 z3) else (jf_Mo_downOf_b27 (jf_Mo_downOf_L4 v_squares v_up z1 n) v_squares v_up z1 z3 z2)) else none)
def jf_Mo_downOf (v_squares : Int32) (v_up : Nat → Int32) (x1 : Int32) : Option Int32 :=
  Option.bind (jf_Mo_downOf_L4 v_squares v_up x1 jF 0 0) (fun q_1 => some q_1)
abbrev jr_Mo_downOf : Room := { frames := 0, cells := 0, slots := 0, locals := 0 }
set_option maxRecDepth 100000 in
set_option maxHeartbeats 4000000 in
theorem jc_Mo_downOf (l : Launch) (g : jG) (a_this a_this_isBlock a_this_isSeen a_this_lampX a_this_lampY a_this_right a_this_up a_this_keptRight a_this_keptUp a_this_name a_this_part a_this_codes a_this_above a_this_below a_this_length a_this_isMet : Nat) (v_thrown : Int32) (v_isBounce : Int32) (v_lamps : Int32) (v_squares : Int32) (v_intervals : Int32) (v_isBlock : Nat → Int32) (v_isSeen : Nat → Int32) (v_lampX : Nat → Int32) (v_lampY : Nat → Int32) (v_right : Nat → Int32) (v_up : Nat → Int32) (v_keptRight : Nat → Int32) (v_keptUp : Nat → Int32) (v_name : Nat → Int32) (v_part : Nat → Int32) (v_codes : Nat → Int32) (v_above : Nat → Int32) (v_below : Nat → Int32) (v_length : Nat → Int32) (v_isMet : Nat → Int32) (x1 : Int32) (R : Int32) (hR : jf_Mo_downOf v_squares v_up x1 = some R) : Met l yX7_downOf wsX7_downOf jr_Mo_downOf (jPr g [.ref a_this, .int x1] (jw_Mo g a_this a_this_isBlock a_this_isSeen a_this_lampX a_this_lampY a_this_right a_this_up a_this_keptRight a_this_keptUp a_this_name a_this_part a_this_codes a_this_above a_this_below a_this_length a_this_isMet v_thrown v_isBounce v_lamps v_squares v_intervals v_isBlock v_isSeen v_lampX v_lampY v_right v_up v_keptRight v_keptUp v_name v_part v_codes v_above v_below v_length v_isMet)) (vp_Si (fun r => r = R)) 0 0 (fun _ => False) := by
  refine jm_ri (cc := cX7_downOf) (maxL := 4) (by decide +kernel) rfl (Nat.le_of_ble_eq_true rfl) ?_
  intro p e s m below meth c Q hx hb hml hown hts hK hP fin ls hl
  have hl : lv_has ls 4 [(0, .ref a_this), (1, .int x1)] := hl
  have hown : s.vm.findClass RX7 = some m.cls := hown
  have w_X7 : ∀ w ∈ u_ws RX7 TX7 20, w ∈ wsX7_downOf := by decide +kernel
  have w_f23 := hts (.fieldLink RX7 23 "BilliardryModel" "squares" "I") (by decide +kernel)
  have w_f30 := hts (.fieldLink RX7 30 "BilliardryModel" "up" "[I") (by decide +kernel)
  have L4 : ∀ (n : Nat) (z1 : Int32) (z2 : Int32) (z3 : Int32) (ls : Array Slot), lv_has ls 4 [(0, .ref a_this), (1, .int z1), (2, .int z2), (3, .int z3)] → ∀ q, jf_Mo_downOf_L4 v_squares v_up z1 n z2 z3 = some q → (∀ ls : Array Slot, lv_has ls 4 [(2, .int q)] → W p l e jr_Mo_downOf s m ([.ref a_this, .int x1] : List Value).toArray below meth c s.heap [] 0 0 Q (F0 m 34 ls [])) → W p l e jr_Mo_downOf s m ([.ref a_this, .int x1] : List Value).toArray below meth c s.heap [] 0 0 Q (F0 m 4 ls []) := by
    intro n z1
    induction n with
    | zero =>
      intro z2 z3 ls hl q hR k
      cases hR
    | succ n ih =>
      have J27 : ∀ (z3 : Int32) (s0 : Int32) (ls : Array Slot), lv_has ls 4 [(0, .ref a_this), (1, .int z1), (3, .int z3)] → ∀ q, jf_Mo_downOf_b27 (jf_Mo_downOf_L4 v_squares v_up z1 n) v_squares v_up z1 z3 s0 = some q → (∀ ls : Array Slot, lv_has ls 4 [(2, .int q)] → W p l e jr_Mo_downOf s m ([.ref a_this, .int x1] : List Value).toArray below meth c s.heap [] 0 0 Q (F0 m 34 ls [])) → W p l e jr_Mo_downOf s m ([.ref a_this, .int x1] : List Value).toArray below meth c s.heap [] 0 0 Q (F0 m 27 ls [.int s0]) := by
        intro z3 s0 ls hl q hR k
        rw [jf_Mo_downOf_b27] at hR
        refine lv_istore_n (lv' := [(2, .int s0), (0, .ref a_this), (1, .int z1), (3, .int z3)]) hx hb dX7_downOf_27 rfl hl (by decide) rfl (fun ls hl => ?_)
        refine lv_iinc (v := z3 + 1) (lv' := [(3, .int (z3 + 1)), (2, .int s0), (0, .ref a_this), (1, .int z1)]) hx hb dX7_downOf_28 hl (k := 3) rfl (by first | rfl | decide) (by decide) rfl (fun ls hl => ?_)
        refine lv_goto (tgt := 4) hx hb dX7_downOf_31 (by decide) ?_
        exact ih s0 (z3 + 1) _ (lv_sub hl [2, 3, 1, 0] rfl) _ hR k
      intro z2 z3 ls hl q hR k
      rw [jf_Mo_downOf_L4] at hR
      refine lv_iload_n hx hb dX7_downOf_4 rfl (lv_at hl 3 rfl) ?_
      refine lv_aload_n hx hb dX7_downOf_5 rfl (lv_at hl 0 rfl) ?_
      refine va_get (D := g.1) (ci := 7) (v := .int v_squares) (C := RX7) (T := TX7) (N := 20) hx hb hts w_X7 hown hK.1 hP 0 rfl rfl 7 (by decide) w_f23 (fun _ h9 => h9) rfl dX7_downOf_6 ?_
      refine lv_icmp_ge (tgt := 34) hx hb dX7_downOf_9 (by decide) (fun c_1 => ?_) (fun c_1 => ?_)
      · replace hR := Eq.trans (Eq.symm (if_pos c_1)) hR
        cases hR
        exact k _ (lv_sub hl [2] rfl)
      · replace hR := Eq.trans (Eq.symm (if_neg c_1)) hR
        refine lv_aload_n hx hb dX7_downOf_12 rfl (lv_at hl 0 rfl) ?_
        refine va_get (D := g.1) (ci := 7) (v := .ref a_this_up) (C := RX7) (T := TX7) (N := 20) hx hb hts w_X7 hown hK.1 hP 0 rfl rfl 9 (by decide) w_f30 (fun _ h9 => h9) rfl dX7_downOf_13 ?_
        refine lv_iload_n hx hb dX7_downOf_16 rfl (lv_at hl 3 rfl) ?_
        by_cases c_2 : jin z3 5 = true
        case neg => replace hR := Eq.trans (Eq.symm (if_neg c_2)) hR; cases hR
        replace hR := Eq.trans (Eq.symm (if_pos c_2)) hR
        refine va_iald hx hb hK.1 hP 6 0 rfl rfl (jin_in c_2) dX7_downOf_17 ?_
        refine lv_iload_n hx hb dX7_downOf_18 rfl (lv_at hl 1 rfl) ?_
        refine lv_icmp_ne (tgt := 26) hx hb dX7_downOf_19 (by decide) (fun c_3 => ?_) (fun c_3 => ?_)
        · replace hR := Eq.trans (Eq.symm (if_neg c_3)) hR
          refine lv_iload_n hx hb dX7_downOf_26 rfl (lv_at hl 2 rfl) ?_
          exact J27 z3 z2 _ (lv_sub hl [0, 1, 3] rfl) _ hR k
        · replace hR := Eq.trans (Eq.symm (if_pos c_3)) hR
          refine lv_iload_n hx hb dX7_downOf_22 rfl (lv_at hl 3 rfl) ?_
          refine lv_goto (tgt := 27) hx hb dX7_downOf_23 (by decide) ?_
          exact J27 z3 z3 _ (lv_sub hl [0, 1, 3] rfl) _ hR k
  rw [jf_Mo_downOf] at hR
  refine lv_iconst (v := 0) hx hb dX7_downOf_0 (by decide) ?_
  refine lv_istore_n (lv' := [(2, .int 0), (0, .ref a_this), (1, .int x1)]) hx hb dX7_downOf_1 rfl hl (by decide) rfl (fun ls hl => ?_)
  refine lv_iconst (v := 0) hx hb dX7_downOf_2 (by decide) ?_
  refine lv_istore_n (lv' := [(3, .int 0), (2, .int 0), (0, .ref a_this), (1, .int x1)]) hx hb dX7_downOf_3 rfl hl (by decide) rfl (fun ls hl => ?_)
  obtain ⟨q_1, hq_1, hR⟩ := jbind hR
  try dsimp only at hR
  refine L4 jF x1 0 0 _ (lv_sub hl [2, 3, 1, 0] rfl) _ hq_1 (fun ls hl => ?_)
  refine lv_iload_n hx hb dX7_downOf_34 rfl (lv_at hl 0 rfl) ?_
  exact fin _ _ _ (Option.some.inj hR) dX7_downOf_35
def jf_Mo_round (v_squares : Int32) (v_right : Nat → Int32) (v_up : Nat → Int32) (x1 : Int32) : Option Int32 :=
  if jin x1 5 = true then (if jin (v_right x1.toNatClampNeg) 5 = true then (Option.bind (jf_Mo_leftOf v_squares v_right (v_up (v_right x1.toNatClampNeg).toNatClampNeg)) (fun q_1 => Option.bind (jf_Mo_downOf v_squares v_up q_1) (fun q_2 => some q_2))) else none) else none
abbrev jr_Mo_round : Room := { frames := 1, cells := 0, slots := 0, locals := 23 }
set_option maxRecDepth 100000 in
set_option maxHeartbeats 4000000 in
theorem jc_Mo_round (l : Launch) (g : jG) (a_this a_this_isBlock a_this_isSeen a_this_lampX a_this_lampY a_this_right a_this_up a_this_keptRight a_this_keptUp a_this_name a_this_part a_this_codes a_this_above a_this_below a_this_length a_this_isMet : Nat) (v_thrown : Int32) (v_isBounce : Int32) (v_lamps : Int32) (v_squares : Int32) (v_intervals : Int32) (v_isBlock : Nat → Int32) (v_isSeen : Nat → Int32) (v_lampX : Nat → Int32) (v_lampY : Nat → Int32) (v_right : Nat → Int32) (v_up : Nat → Int32) (v_keptRight : Nat → Int32) (v_keptUp : Nat → Int32) (v_name : Nat → Int32) (v_part : Nat → Int32) (v_codes : Nat → Int32) (v_above : Nat → Int32) (v_below : Nat → Int32) (v_length : Nat → Int32) (v_isMet : Nat → Int32) (x1 : Int32) (R : Int32) (hR : jf_Mo_round v_squares v_right v_up x1 = some R) : Met l yX7_round wsX7_round jr_Mo_round (jPr g [.ref a_this, .int x1] (jw_Mo g a_this a_this_isBlock a_this_isSeen a_this_lampX a_this_lampY a_this_right a_this_up a_this_keptRight a_this_keptUp a_this_name a_this_part a_this_codes a_this_above a_this_below a_this_length a_this_isMet v_thrown v_isBounce v_lamps v_squares v_intervals v_isBlock v_isSeen v_lampX v_lampY v_right v_up v_keptRight v_keptUp v_name v_part v_codes v_above v_below v_length v_isMet)) (vp_Si (fun r => r = R)) 0 0 (fun _ => False) := by
  refine jm_ri (cc := cX7_round) (maxL := 2) (by decide +kernel) rfl (Nat.le_of_ble_eq_true rfl) ?_
  intro p e s m below meth c Q hx hb hml hown hts hK hP fin ls hl
  have hl : lv_has ls 2 [(0, .ref a_this), (1, .int x1)] := hl
  have hown : s.vm.findClass RX7 = some m.cls := hown
  have w_X7 : ∀ w ∈ u_ws RX7 TX7 20, w ∈ wsX7_round := by decide +kernel
  have w_f30 := hts (.fieldLink RX7 30 "BilliardryModel" "up" "[I") (by decide +kernel)
  have w_f27 := hts (.fieldLink RX7 27 "BilliardryModel" "right" "[I") (by decide +kernel)
  rw [jf_Mo_round] at hR
  refine lv_aload_n hx hb dX7_round_0 rfl (lv_at hl 0 rfl) ?_
  refine lv_aload_n hx hb dX7_round_1 rfl (lv_at hl 0 rfl) ?_
  refine lv_aload_n hx hb dX7_round_2 rfl (lv_at hl 0 rfl) ?_
  refine va_get (D := g.1) (ci := 7) (v := .ref a_this_up) (C := RX7) (T := TX7) (N := 20) hx hb hts w_X7 hown hK.1 hP 0 rfl rfl 9 (by decide) w_f30 (fun _ h9 => h9) rfl dX7_round_3 ?_
  refine lv_aload_n hx hb dX7_round_6 rfl (lv_at hl 0 rfl) ?_
  refine va_get (D := g.1) (ci := 7) (v := .ref a_this_right) (C := RX7) (T := TX7) (N := 20) hx hb hts w_X7 hown hK.1 hP 0 rfl rfl 8 (by decide) w_f27 (fun _ h9 => h9) rfl dX7_round_7 ?_
  refine lv_iload_n hx hb dX7_round_10 rfl (lv_at hl 1 rfl) ?_
  by_cases c_1 : jin x1 5 = true
  case neg => replace hR := Eq.trans (Eq.symm (if_neg c_1)) hR; cases hR
  replace hR := Eq.trans (Eq.symm (if_pos c_1)) hR
  refine va_iald hx hb hK.1 hP 5 0 rfl rfl (jin_in c_1) dX7_round_11 ?_
  by_cases c_2 : jin (v_right x1.toNatClampNeg) 5 = true
  case neg => replace hR := Eq.trans (Eq.symm (if_neg c_2)) hR; cases hR
  replace hR := Eq.trans (Eq.symm (if_pos c_2)) hR
  refine va_iald hx hb hK.1 hP 6 0 rfl rfl (jin_in c_2) dX7_round_12 ?_
  obtain ⟨q_1, hq_1, hR⟩ := jbind hR
  try dsimp only at hR
  refine jcall_ri (va_runV (As := [.int (v_up (v_right x1.toNatClampNeg).toNatClampNeg)]) (rest := [.ref a_this]) ⟨hx, hb, hml, hown, hts⟩ (jc_Mo_leftOf l g a_this a_this_isBlock a_this_isSeen a_this_lampX a_this_lampY a_this_right a_this_up a_this_keptRight a_this_keptUp a_this_name a_this_part a_this_codes a_this_above a_this_below a_this_length a_this_isMet v_thrown v_isBounce v_lamps v_squares v_intervals v_isBlock v_isSeen v_lampX v_lampY v_right v_up v_keptRight v_keptUp v_name v_part v_codes v_above v_below v_length v_isMet (v_up (v_right x1.toNatClampNeg).toNatClampNeg) _ hq_1) (cwV 1 hts gX7_round_X7_leftOf rfl rfl rfl (by decide +kernel) ⟨Nat.le_of_ble_eq_true rfl, Nat.le_of_ble_eq_true rfl⟩) (jpr_v hK hP (ci := 7) (q0 := 0) rfl rfl) rfl rfl hl.1 rfl (lv_room (Nat.le_of_ble_eq_true rfl)) dX7_round_13 ⟨Nat.zero_le _, Nat.zero_le _⟩) ?_
  obtain ⟨q_2, hq_2, hR⟩ := jbind hR
  try dsimp only at hR
  refine jcall_ri (va_runV (As := [.int q_1]) (rest := []) ⟨hx, hb, hml, hown, hts⟩ (jc_Mo_downOf l g a_this a_this_isBlock a_this_isSeen a_this_lampX a_this_lampY a_this_right a_this_up a_this_keptRight a_this_keptUp a_this_name a_this_part a_this_codes a_this_above a_this_below a_this_length a_this_isMet v_thrown v_isBounce v_lamps v_squares v_intervals v_isBlock v_isSeen v_lampX v_lampY v_right v_up v_keptRight v_keptUp v_name v_part v_codes v_above v_below v_length v_isMet q_1 _ hq_2) (cwV 1 hts gX7_round_X7_downOf rfl rfl rfl (by decide +kernel) ⟨Nat.le_of_ble_eq_true rfl, Nat.le_of_ble_eq_true rfl⟩) (jpr_v hK hP (ci := 7) (q0 := 0) rfl rfl) rfl rfl hl.1 rfl (lv_room (Nat.le_of_ble_eq_true rfl)) dX7_round_16 ⟨Nat.zero_le _, Nat.zero_le _⟩) ?_
  exact fin _ _ _ (Option.some.inj hR) dX7_round_19
def jf_Mo_angle_L8 (v_squares : Int32) (v_right : Nat → Int32) (v_up : Nat → Int32) (z1 : Int32) : Nat → Int32 → Int32 → Option Int32
  | 0, _, _ => none
  | n + 1, z2, z3 =>
    if z3 = z1 then (some z2) else (Option.bind (jf_Mo_round v_squares v_right v_up z3) (fun q_2 => (jf_Mo_angle_L8 v_squares v_right v_up z1 n) (z2 + 1) q_2))
def jf_Mo_angle (v_squares : Int32) (v_right : Nat → Int32) (v_up : Nat → Int32) (x1 : Int32) : Option Int32 :=
  Option.bind (jf_Mo_round v_squares v_right v_up x1) (fun q_1 => Option.bind (jf_Mo_angle_L8 v_squares v_right v_up x1 jF 1 q_1) (fun q_3 => some q_3))
abbrev jr_Mo_angle : Room := { frames := 2, cells := 0, slots := 0, locals := 44 }
set_option maxRecDepth 100000 in
set_option maxHeartbeats 4000000 in
theorem jc_Mo_angle (l : Launch) (g : jG) (a_this a_this_isBlock a_this_isSeen a_this_lampX a_this_lampY a_this_right a_this_up a_this_keptRight a_this_keptUp a_this_name a_this_part a_this_codes a_this_above a_this_below a_this_length a_this_isMet : Nat) (v_thrown : Int32) (v_isBounce : Int32) (v_lamps : Int32) (v_squares : Int32) (v_intervals : Int32) (v_isBlock : Nat → Int32) (v_isSeen : Nat → Int32) (v_lampX : Nat → Int32) (v_lampY : Nat → Int32) (v_right : Nat → Int32) (v_up : Nat → Int32) (v_keptRight : Nat → Int32) (v_keptUp : Nat → Int32) (v_name : Nat → Int32) (v_part : Nat → Int32) (v_codes : Nat → Int32) (v_above : Nat → Int32) (v_below : Nat → Int32) (v_length : Nat → Int32) (v_isMet : Nat → Int32) (x1 : Int32) (R : Int32) (hR : jf_Mo_angle v_squares v_right v_up x1 = some R) : Met l yX7_angle wsX7_angle jr_Mo_angle (jPr g [.ref a_this, .int x1] (jw_Mo g a_this a_this_isBlock a_this_isSeen a_this_lampX a_this_lampY a_this_right a_this_up a_this_keptRight a_this_keptUp a_this_name a_this_part a_this_codes a_this_above a_this_below a_this_length a_this_isMet v_thrown v_isBounce v_lamps v_squares v_intervals v_isBlock v_isSeen v_lampX v_lampY v_right v_up v_keptRight v_keptUp v_name v_part v_codes v_above v_below v_length v_isMet)) (vp_Si (fun r => r = R)) 0 0 (fun _ => False) := by
  refine jm_ri (cc := cX7_angle) (maxL := 4) (by decide +kernel) rfl (Nat.le_of_ble_eq_true rfl) ?_
  intro p e s m below meth c Q hx hb hml hown hts hK hP fin ls hl
  have hl : lv_has ls 4 [(0, .ref a_this), (1, .int x1)] := hl
  have hown : s.vm.findClass RX7 = some m.cls := hown
  have L8 : ∀ (n : Nat) (z1 : Int32) (z2 : Int32) (z3 : Int32) (ls : Array Slot), lv_has ls 4 [(0, .ref a_this), (1, .int z1), (2, .int z2), (3, .int z3)] → ∀ q, jf_Mo_angle_L8 v_squares v_right v_up z1 n z2 z3 = some q → (∀ ls : Array Slot, lv_has ls 4 [(2, .int q)] → W p l e jr_Mo_angle s m ([.ref a_this, .int x1] : List Value).toArray below meth c s.heap [] 0 0 Q (F0 m 25 ls [])) → W p l e jr_Mo_angle s m ([.ref a_this, .int x1] : List Value).toArray below meth c s.heap [] 0 0 Q (F0 m 8 ls []) := by
    intro n z1
    induction n with
    | zero =>
      intro z2 z3 ls hl q hR k
      cases hR
    | succ n ih =>
      intro z2 z3 ls hl q hR k
      rw [jf_Mo_angle_L8] at hR
      refine lv_iload_n hx hb dX7_angle_8 rfl (lv_at hl 3 rfl) ?_
      refine lv_iload_n hx hb dX7_angle_9 rfl (lv_at hl 1 rfl) ?_
      refine lv_icmp_eq (tgt := 25) hx hb dX7_angle_10 (by decide) (fun c_1 => ?_) (fun c_1 => ?_)
      · replace hR := Eq.trans (Eq.symm (if_pos c_1)) hR
        cases hR
        exact k _ (lv_sub hl [2] rfl)
      · replace hR := Eq.trans (Eq.symm (if_neg c_1)) hR
        refine lv_aload_n hx hb dX7_angle_13 rfl (lv_at hl 0 rfl) ?_
        refine lv_iload_n hx hb dX7_angle_14 rfl (lv_at hl 3 rfl) ?_
        obtain ⟨q_2, hq_2, hR⟩ := jbind hR
        try dsimp only at hR
        refine jcall_ri (va_runV (As := [.int z3]) (rest := []) ⟨hx, hb, hml, hown, hts⟩ (jc_Mo_round l g a_this a_this_isBlock a_this_isSeen a_this_lampX a_this_lampY a_this_right a_this_up a_this_keptRight a_this_keptUp a_this_name a_this_part a_this_codes a_this_above a_this_below a_this_length a_this_isMet v_thrown v_isBounce v_lamps v_squares v_intervals v_isBlock v_isSeen v_lampX v_lampY v_right v_up v_keptRight v_keptUp v_name v_part v_codes v_above v_below v_length v_isMet z3 _ hq_2) (cwV 1 hts gX7_angle_X7_round rfl rfl rfl (by decide +kernel) ⟨Nat.le_of_ble_eq_true rfl, Nat.le_of_ble_eq_true rfl⟩) (jpr_v hK hP (ci := 7) (q0 := 0) rfl rfl) rfl rfl hl.1 rfl (lv_room (Nat.le_of_ble_eq_true rfl)) dX7_angle_15 ⟨Nat.zero_le _, Nat.zero_le _⟩) ?_
        refine lv_istore_n (lv' := [(3, .int q_2), (0, .ref a_this), (1, .int z1), (2, .int z2)]) hx hb dX7_angle_18 rfl hl (by decide) rfl (fun ls hl => ?_)
        refine lv_iinc (v := z2 + 1) (lv' := [(2, .int (z2 + 1)), (3, .int q_2), (0, .ref a_this), (1, .int z1)]) hx hb dX7_angle_19 hl (k := 3) rfl (by first | rfl | decide) (by decide) rfl (fun ls hl => ?_)
        refine lv_goto (tgt := 8) hx hb dX7_angle_22 (by decide) ?_
        exact ih (z2 + 1) q_2 _ (lv_sub hl [2, 3, 0, 1] rfl) _ hR k
  rw [jf_Mo_angle] at hR
  refine lv_iconst (v := 1) hx hb dX7_angle_0 (by decide) ?_
  refine lv_istore_n (lv' := [(2, .int 1), (0, .ref a_this), (1, .int x1)]) hx hb dX7_angle_1 rfl hl (by decide) rfl (fun ls hl => ?_)
  refine lv_aload_n hx hb dX7_angle_2 rfl (lv_at hl 1 rfl) ?_
  refine lv_iload_n hx hb dX7_angle_3 rfl (lv_at hl 2 rfl) ?_
  obtain ⟨q_1, hq_1, hR⟩ := jbind hR
  try dsimp only at hR
  refine jcall_ri (va_runV (As := [.int x1]) (rest := []) ⟨hx, hb, hml, hown, hts⟩ (jc_Mo_round l g a_this a_this_isBlock a_this_isSeen a_this_lampX a_this_lampY a_this_right a_this_up a_this_keptRight a_this_keptUp a_this_name a_this_part a_this_codes a_this_above a_this_below a_this_length a_this_isMet v_thrown v_isBounce v_lamps v_squares v_intervals v_isBlock v_isSeen v_lampX v_lampY v_right v_up v_keptRight v_keptUp v_name v_part v_codes v_above v_below v_length v_isMet x1 _ hq_1) (cwV 1 hts gX7_angle_X7_round rfl rfl rfl (by decide +kernel) ⟨Nat.le_of_ble_eq_true rfl, Nat.le_of_ble_eq_true rfl⟩) (jpr_v hK hP (ci := 7) (q0 := 0) rfl rfl) rfl rfl hl.1 rfl (lv_room (Nat.le_of_ble_eq_true rfl)) dX7_angle_4 ⟨Nat.zero_le _, Nat.zero_le _⟩) ?_
  refine lv_istore_n (lv' := [(3, .int q_1), (2, .int 1), (0, .ref a_this), (1, .int x1)]) hx hb dX7_angle_7 rfl hl (by decide) rfl (fun ls hl => ?_)
  obtain ⟨q_3, hq_3, hR⟩ := jbind hR
  try dsimp only at hR
  refine L8 jF x1 1 q_1 _ (lv_sub hl [2, 3, 1, 0] rfl) _ hq_3 (fun ls hl => ?_)
  refine lv_iload_n hx hb dX7_angle_25 rfl (lv_at hl 0 rfl) ?_
  exact fin _ _ _ (Option.some.inj hR) dX7_angle_26
def jf_Mo_rowSize_L9 (v_right : Nat → Int32) (z1 : Int32) : Nat → Int32 → Int32 → Option Int32
  | 0, _, _ => none
  | n + 1, z2, z3 =>
    if z3 = z1 then (some z2) else (if jin z3 5 = true then (jlet (v_right z3.toNatClampNeg) (fun y3_2 => (jf_Mo_rowSize_L9 v_right z1 n) (z2 + 1) y3_2)) else none)
def jf_Mo_rowSize (v_right : Nat → Int32) (x1 : Int32) : Option Int32 :=
  if jin x1 5 = true then (jlet (v_right x1.toNatClampNeg) (fun y3_1 => Option.bind (jf_Mo_rowSize_L9 v_right x1 jF 1 y3_1) (fun q_1 => some q_1))) else none
abbrev jr_Mo_rowSize : Room := { frames := 0, cells := 0, slots := 0, locals := 0 }
set_option maxRecDepth 100000 in
set_option maxHeartbeats 4000000 in
theorem jc_Mo_rowSize (l : Launch) (g : jG) (a_this a_this_isBlock a_this_isSeen a_this_lampX a_this_lampY a_this_right a_this_up a_this_keptRight a_this_keptUp a_this_name a_this_part a_this_codes a_this_above a_this_below a_this_length a_this_isMet : Nat) (v_thrown : Int32) (v_isBounce : Int32) (v_lamps : Int32) (v_squares : Int32) (v_intervals : Int32) (v_isBlock : Nat → Int32) (v_isSeen : Nat → Int32) (v_lampX : Nat → Int32) (v_lampY : Nat → Int32) (v_right : Nat → Int32) (v_up : Nat → Int32) (v_keptRight : Nat → Int32) (v_keptUp : Nat → Int32) (v_name : Nat → Int32) (v_part : Nat → Int32) (v_codes : Nat → Int32) (v_above : Nat → Int32) (v_below : Nat → Int32) (v_length : Nat → Int32) (v_isMet : Nat → Int32) (x1 : Int32) (R : Int32) (hR : jf_Mo_rowSize v_right x1 = some R) : Met l yX7_rowSize wsX7_rowSize jr_Mo_rowSize (jPr g [.ref a_this, .int x1] (jw_Mo g a_this a_this_isBlock a_this_isSeen a_this_lampX a_this_lampY a_this_right a_this_up a_this_keptRight a_this_keptUp a_this_name a_this_part a_this_codes a_this_above a_this_below a_this_length a_this_isMet v_thrown v_isBounce v_lamps v_squares v_intervals v_isBlock v_isSeen v_lampX v_lampY v_right v_up v_keptRight v_keptUp v_name v_part v_codes v_above v_below v_length v_isMet)) (vp_Si (fun r => r = R)) 0 0 (fun _ => False) := by
  refine jm_ri (cc := cX7_rowSize) (maxL := 4) (by decide +kernel) rfl (Nat.le_of_ble_eq_true rfl) ?_
  intro p e s m below meth c Q hx hb hml hown hts hK hP fin ls hl
  have hl : lv_has ls 4 [(0, .ref a_this), (1, .int x1)] := hl
  have hown : s.vm.findClass RX7 = some m.cls := hown
  have w_X7 : ∀ w ∈ u_ws RX7 TX7 20, w ∈ wsX7_rowSize := by decide +kernel
  have w_f27 := hts (.fieldLink RX7 27 "BilliardryModel" "right" "[I") (by decide +kernel)
  have L9 : ∀ (n : Nat) (z1 : Int32) (z2 : Int32) (z3 : Int32) (ls : Array Slot), lv_has ls 4 [(0, .ref a_this), (1, .int z1), (2, .int z2), (3, .int z3)] → ∀ q, jf_Mo_rowSize_L9 v_right z1 n z2 z3 = some q → (∀ ls : Array Slot, lv_has ls 4 [(2, .int q)] → W p l e jr_Mo_rowSize s m ([.ref a_this, .int x1] : List Value).toArray below meth c s.heap [] 0 0 Q (F0 m 27 ls [])) → W p l e jr_Mo_rowSize s m ([.ref a_this, .int x1] : List Value).toArray below meth c s.heap [] 0 0 Q (F0 m 9 ls []) := by
    intro n z1
    induction n with
    | zero =>
      intro z2 z3 ls hl q hR k
      cases hR
    | succ n ih =>
      intro z2 z3 ls hl q hR k
      rw [jf_Mo_rowSize_L9] at hR
      refine lv_iload_n hx hb dX7_rowSize_9 rfl (lv_at hl 3 rfl) ?_
      refine lv_iload_n hx hb dX7_rowSize_10 rfl (lv_at hl 1 rfl) ?_
      refine lv_icmp_eq (tgt := 27) hx hb dX7_rowSize_11 (by decide) (fun c_2 => ?_) (fun c_2 => ?_)
      · replace hR := Eq.trans (Eq.symm (if_pos c_2)) hR
        cases hR
        exact k _ (lv_sub hl [2] rfl)
      · replace hR := Eq.trans (Eq.symm (if_neg c_2)) hR
        refine lv_aload_n hx hb dX7_rowSize_14 rfl (lv_at hl 0 rfl) ?_
        refine va_get (D := g.1) (ci := 7) (v := .ref a_this_right) (C := RX7) (T := TX7) (N := 20) hx hb hts w_X7 hown hK.1 hP 0 rfl rfl 8 (by decide) w_f27 (fun _ h9 => h9) rfl dX7_rowSize_15 ?_
        refine lv_iload_n hx hb dX7_rowSize_18 rfl (lv_at hl 3 rfl) ?_
        by_cases c_3 : jin z3 5 = true
        case neg => replace hR := Eq.trans (Eq.symm (if_neg c_3)) hR; cases hR
        replace hR := Eq.trans (Eq.symm (if_pos c_3)) hR
        refine va_iald hx hb hK.1 hP 5 0 rfl rfl (jin_in c_3) dX7_rowSize_19 ?_
        refine jlet_i hR (fun y3_2 hR => ?_)
        try dsimp only at hR
        refine lv_istore_n (lv' := [(3, .int y3_2), (0, .ref a_this), (1, .int z1), (2, .int z2)]) hx hb dX7_rowSize_20 rfl hl (by decide) rfl (fun ls hl => ?_)
        refine lv_iinc (v := z2 + 1) (lv' := [(2, .int (z2 + 1)), (3, .int y3_2), (0, .ref a_this), (1, .int z1)]) hx hb dX7_rowSize_21 hl (k := 3) rfl (by first | rfl | decide) (by decide) rfl (fun ls hl => ?_)
        refine lv_goto (tgt := 9) hx hb dX7_rowSize_24 (by decide) ?_
        exact ih (z2 + 1) y3_2 _ (lv_sub hl [2, 3, 0, 1] rfl) _ hR k
  rw [jf_Mo_rowSize] at hR
  refine lv_iconst (v := 1) hx hb dX7_rowSize_0 (by decide) ?_
  refine lv_istore_n (lv' := [(2, .int 1), (0, .ref a_this), (1, .int x1)]) hx hb dX7_rowSize_1 rfl hl (by decide) rfl (fun ls hl => ?_)
  refine lv_aload_n hx hb dX7_rowSize_2 rfl (lv_at hl 1 rfl) ?_
  refine va_get (D := g.1) (ci := 7) (v := .ref a_this_right) (C := RX7) (T := TX7) (N := 20) hx hb hts w_X7 hown hK.1 hP 0 rfl rfl 8 (by decide) w_f27 (fun _ h9 => h9) rfl dX7_rowSize_3 ?_
  refine lv_iload_n hx hb dX7_rowSize_6 rfl (lv_at hl 2 rfl) ?_
  by_cases c_1 : jin x1 5 = true
  case neg => replace hR := Eq.trans (Eq.symm (if_neg c_1)) hR; cases hR
  replace hR := Eq.trans (Eq.symm (if_pos c_1)) hR
  refine va_iald hx hb hK.1 hP 5 0 rfl rfl (jin_in c_1) dX7_rowSize_7 ?_
  refine jlet_i hR (fun y3_1 hR => ?_)
  try dsimp only at hR
  refine lv_istore_n (lv' := [(3, .int y3_1), (2, .int 1), (0, .ref a_this), (1, .int x1)]) hx hb dX7_rowSize_8 rfl hl (by decide) rfl (fun ls hl => ?_)
  obtain ⟨q_1, hq_1, hR⟩ := jbind hR
  try dsimp only at hR
  refine L9 jF x1 1 y3_1 _ (lv_sub hl [2, 3, 1, 0] rfl) _ hq_1 (fun ls hl => ?_)
  refine lv_iload_n hx hb dX7_rowSize_27 rfl (lv_at hl 0 rfl) ?_
  exact fin _ _ _ (Option.some.inj hR) dX7_rowSize_28
def jf_Mo_parts_L2 (v_squares : Int32) : Nat → Int32 → (Nat → Int32) → Option (Nat → Int32)
  | 0, _, _ => none
  | n + 1, z1, v_part =>
    if v_squares ≤ z1 then (some v_part) else (if jin z1 5 = true then ((jf_Mo_parts_L2 v_squares n) (z1 + 1) (upd v_part z1.toNatClampNeg z1)) else none)
def jf_Mo_parts (v_squares : Int32) (v_part : Nat → Int32) : Option (Nat → Int32) :=
  Option.bind (jf_Mo_parts_L2 v_squares jF 0 v_part) (fun q_1 => some q_1)
abbrev jr_Mo_parts : Room := { frames := 0, cells := 0, slots := 0, locals := 0 }
set_option maxRecDepth 100000 in
set_option maxHeartbeats 4000000 in
theorem jc_Mo_parts (l : Launch) (g : jG) (a_this a_this_isBlock a_this_isSeen a_this_lampX a_this_lampY a_this_right a_this_up a_this_keptRight a_this_keptUp a_this_name a_this_part a_this_codes a_this_above a_this_below a_this_length a_this_isMet : Nat) (v_thrown : Int32) (v_isBounce : Int32) (v_lamps : Int32) (v_squares : Int32) (v_intervals : Int32) (v_isBlock : Nat → Int32) (v_isSeen : Nat → Int32) (v_lampX : Nat → Int32) (v_lampY : Nat → Int32) (v_right : Nat → Int32) (v_up : Nat → Int32) (v_keptRight : Nat → Int32) (v_keptUp : Nat → Int32) (v_name : Nat → Int32) (v_part : Nat → Int32) (v_codes : Nat → Int32) (v_above : Nat → Int32) (v_below : Nat → Int32) (v_length : Nat → Int32) (v_isMet : Nat → Int32) (R : (Nat → Int32)) (hR : jf_Mo_parts v_squares v_part = some R) (sz : Nat) : Met l yX7_parts wsX7_parts jr_Mo_parts (jPw g [.ref a_this] (jw_Mo g a_this a_this_isBlock a_this_isSeen a_this_lampX a_this_lampY a_this_right a_this_up a_this_keptRight a_this_keptUp a_this_name a_this_part a_this_codes a_this_above a_this_below a_this_length a_this_isMet v_thrown v_isBounce v_lamps v_squares v_intervals v_isBlock v_isSeen v_lampX v_lampY v_right v_up v_keptRight v_keptUp v_name v_part v_codes v_above v_below v_length v_isMet) sz) (jQv g (jw_Mo g a_this a_this_isBlock a_this_isSeen a_this_lampX a_this_lampY a_this_right a_this_up a_this_keptRight a_this_keptUp a_this_name a_this_part a_this_codes a_this_above a_this_below a_this_length a_this_isMet v_thrown v_isBounce v_lamps v_squares v_intervals v_isBlock v_isSeen v_lampX v_lampY v_right v_up v_keptRight v_keptUp v_name R v_codes v_above v_below v_length v_isMet) (va_A (jw_Mo g a_this a_this_isBlock a_this_isSeen a_this_lampX a_this_lampY a_this_right a_this_up a_this_keptRight a_this_keptUp a_this_name a_this_part a_this_codes a_this_above a_this_below a_this_length a_this_isMet v_thrown v_isBounce v_lamps v_squares v_intervals v_isBlock v_isSeen v_lampX v_lampY v_right v_up v_keptRight v_keptUp v_name v_part v_codes v_above v_below v_length v_isMet) sz)) 0 0 (va_A (jw_Mo g a_this a_this_isBlock a_this_isSeen a_this_lampX a_this_lampY a_this_right a_this_up a_this_keptRight a_this_keptUp a_this_name a_this_part a_this_codes a_this_above a_this_below a_this_length a_this_isMet v_thrown v_isBounce v_lamps v_squares v_intervals v_isBlock v_isSeen v_lampX v_lampY v_right v_up v_keptRight v_keptUp v_name v_part v_codes v_above v_below v_length v_isMet) sz) := by
  refine jm_wv (cc := cX7_parts) (maxL := 2) (by decide +kernel) rfl (Nat.le_of_ble_eq_true rfl) ?_
  intro p e s m below meth c A Q hx hb hml hown hts hK hP hD hA hS fin ls hl
  have hl : lv_has ls 2 [(0, .ref a_this)] := hl
  have hown : s.vm.findClass RX7 = some m.cls := hown
  have w_X7 : ∀ w ∈ u_ws RX7 TX7 20, w ∈ wsX7_parts := by decide +kernel
  have w_f23 := hts (.fieldLink RX7 23 "BilliardryModel" "squares" "I") (by decide +kernel)
  have w_f42 := hts (.fieldLink RX7 42 "BilliardryModel" "part" "[I") (by decide +kernel)
  have L2 : ∀ (n : Nat) (z1 : Int32) (v_part : Nat → Int32) (H : Heap) (locs : List Loc), va_P g.1 vwCl (jw_Mo g a_this a_this_isBlock a_this_isSeen a_this_lampX a_this_lampY a_this_right a_this_up a_this_keptRight a_this_keptUp a_this_name a_this_part a_this_codes a_this_above a_this_below a_this_length a_this_isMet v_thrown v_isBounce v_lamps v_squares v_intervals v_isBlock v_isSeen v_lampX v_lampY v_right v_up v_keptRight v_keptUp v_name v_part v_codes v_above v_below v_length v_isMet) H → va_S A s.heap H locs → ∀ (ls : Array Slot), lv_has ls 2 [(0, .ref a_this), (1, .int z1)] → ∀ q, jf_Mo_parts_L2 v_squares n z1 v_part = some q → (∀ (H : Heap) (locs : List Loc), va_P g.1 vwCl (jw_Mo g a_this a_this_isBlock a_this_isSeen a_this_lampX a_this_lampY a_this_right a_this_up a_this_keptRight a_this_keptUp a_this_name a_this_part a_this_codes a_this_above a_this_below a_this_length a_this_isMet v_thrown v_isBounce v_lamps v_squares v_intervals v_isBlock v_isSeen v_lampX v_lampY v_right v_up v_keptRight v_keptUp v_name q v_codes v_above v_below v_length v_isMet) H → va_S A s.heap H locs → ∀ ls : Array Slot, lv_has ls 2 [] → W p l e jr_Mo_parts s m ([.ref a_this] : List Value).toArray below meth c H locs 0 0 Q (F0 m 23 ls [])) → W p l e jr_Mo_parts s m ([.ref a_this] : List Value).toArray below meth c H locs 0 0 Q (F0 m 2 ls []) := by
    intro n
    induction n with
    | zero =>
      intro z1 v_part H locs hP hS ls hl q hR k
      cases hR
    | succ n ih =>
      intro z1 v_part H locs hP hS ls hl q hR k
      rw [jf_Mo_parts_L2] at hR
      refine lv_iload_n hx hb dX7_parts_2 rfl (lv_at hl 1 rfl) ?_
      refine lv_aload_n hx hb dX7_parts_3 rfl (lv_at hl 0 rfl) ?_
      refine va_get (D := g.1) (ci := 7) (v := .int v_squares) (C := RX7) (T := TX7) (N := 20) hx hb hts w_X7 hown hK.1 hP 0 rfl rfl 7 (by decide) w_f23 (fun _ h9 => h9) rfl dX7_parts_4 ?_
      refine lv_icmp_ge (tgt := 23) hx hb dX7_parts_7 (by decide) (fun c_1 => ?_) (fun c_1 => ?_)
      · replace hR := Eq.trans (Eq.symm (if_pos c_1)) hR
        cases hR
        exact k _ _ hP hS _ (lv_sub hl [] rfl)
      · replace hR := Eq.trans (Eq.symm (if_neg c_1)) hR
        refine lv_aload_n hx hb dX7_parts_10 rfl (lv_at hl 0 rfl) ?_
        refine va_get (D := g.1) (ci := 7) (v := .ref a_this_part) (C := RX7) (T := TX7) (N := 20) hx hb hts w_X7 hown hK.1 hP 0 rfl rfl 13 (by decide) w_f42 (fun _ h9 => h9) rfl dX7_parts_11 ?_
        refine lv_iload_n hx hb dX7_parts_14 rfl (lv_at hl 1 rfl) ?_
        refine lv_iload_n hx hb dX7_parts_15 rfl (lv_at hl 1 rfl) ?_
        by_cases c_2 : jin z1 5 = true
        case neg => replace hR := Eq.trans (Eq.symm (if_neg c_2)) hR; cases hR
        replace hR := Eq.trans (Eq.symm (if_pos c_2)) hR
        refine va_iast hx hb hK.1 hP (jD_to hD rfl) hS 10 0 rfl rfl (jin_in c_2) dX7_parts_16 (fun H locs hP _ hS => ?_)
        have hP : va_P g.1 vwCl (jw_Mo g a_this a_this_isBlock a_this_isSeen a_this_lampX a_this_lampY a_this_right a_this_up a_this_keptRight a_this_keptUp a_this_name a_this_part a_this_codes a_this_above a_this_below a_this_length a_this_isMet v_thrown v_isBounce v_lamps v_squares v_intervals v_isBlock v_isSeen v_lampX v_lampY v_right v_up v_keptRight v_keptUp v_name (upd v_part z1.toNatClampNeg z1) v_codes v_above v_below v_length v_isMet) H := hP
        refine lv_iinc (v := z1 + 1) (lv' := [(1, .int (z1 + 1)), (0, .ref a_this)]) hx hb dX7_parts_17 hl (k := 1) rfl (by first | rfl | decide) (by decide) rfl (fun ls hl => ?_)
        refine lv_goto (tgt := 2) hx hb dX7_parts_20 (by decide) ?_
        exact ih (z1 + 1) (upd v_part z1.toNatClampNeg z1) _ _ hP hS _ (lv_sub hl [1, 0] rfl) _ hR k
  rw [jf_Mo_parts] at hR
  refine lv_iconst (v := 0) hx hb dX7_parts_0 (by decide) ?_
  refine lv_istore_n (lv' := [(1, .int 0), (0, .ref a_this)]) hx hb dX7_parts_1 rfl hl (by decide) rfl (fun ls hl => ?_)
  obtain ⟨q_1, hq_1, hR⟩ := jbind hR
  try dsimp only at hR
  refine L2 jF 0 v_part _ _ hP hS _ (lv_sub hl [1, 0] rfl) _ hq_1 (fun H locs hP hS ls hl => ?_)
  obtain rfl := (Option.some.inj hR)
  exact fin _ _ _ _ hP hS dX7_parts_23
def jf_Mo_joins_b56 (self : Int32 → (Nat → Int32) → Option (Nat → Int32)) (v_squares : Int32) (v_part : Nat → Int32) (z3 : Int32) (z4 : Int32) (z5 : Int32) (s1 : Int32) (s2 : Int32) : Option (Nat → Int32) :=
  if jin s1 5 = true then (self (z5 + 1) (upd v_part s1.toNatClampNeg s2)) else none
def jf_Mo_joins_L18 (v_squares : Int32) (z3 : Int32) (z4 : Int32) : Nat → Int32 → (Nat → Int32) → Option (Nat → Int32)
  | 0, _, _ => none
  | n + 1, z5, v_part =>
    if v_squares ≤ z5 then (some v_part) else (if jin z5 5 = true then (if v_part z5.toNatClampNeg = z3 then (jf_Mo_joins_b56 (jf_Mo_joins_L18 v_squares z3 z4 n) v_squares v_part z3 z4 z5 z5 z4) else (if jin z5 5 = true then (jf_Mo_joins_b56 (jf_Mo_joins_L18 v_squares z3 z4 n) v_squares v_part z3 z4 z5 z5 (v_part z5.toNatClampNeg)) else none)) else none)
def jf_Mo_joins (v_squares : Int32) (v_part : Nat → Int32) (x1 : Int32) (x2 : Int32) : Option (Nat → Int32) :=
  if jin x1 5 = true then (jlet (v_part x1.toNatClampNeg) (fun y3_1 => if jin x2 5 = true then (jlet (v_part x2.toNatClampNeg) (fun y4_1 => Option.bind (jf_Mo_joins_L18 v_squares y3_1 y4_1 jF 0 v_part) (fun q_1 => some q_1))) else none)) else none
abbrev jr_Mo_joins : Room := { frames := 0, cells := 0, slots := 0, locals := 0 }
set_option maxRecDepth 100000 in
set_option maxHeartbeats 4000000 in
theorem jc_Mo_joins (l : Launch) (g : jG) (a_this a_this_isBlock a_this_isSeen a_this_lampX a_this_lampY a_this_right a_this_up a_this_keptRight a_this_keptUp a_this_name a_this_part a_this_codes a_this_above a_this_below a_this_length a_this_isMet : Nat) (v_thrown : Int32) (v_isBounce : Int32) (v_lamps : Int32) (v_squares : Int32) (v_intervals : Int32) (v_isBlock : Nat → Int32) (v_isSeen : Nat → Int32) (v_lampX : Nat → Int32) (v_lampY : Nat → Int32) (v_right : Nat → Int32) (v_up : Nat → Int32) (v_keptRight : Nat → Int32) (v_keptUp : Nat → Int32) (v_name : Nat → Int32) (v_part : Nat → Int32) (v_codes : Nat → Int32) (v_above : Nat → Int32) (v_below : Nat → Int32) (v_length : Nat → Int32) (v_isMet : Nat → Int32) (x1 : Int32) (x2 : Int32) (R : (Nat → Int32)) (hR : jf_Mo_joins v_squares v_part x1 x2 = some R) (sz : Nat) : Met l yX7_joins wsX7_joins jr_Mo_joins (jPw g [.ref a_this, .int x1, .int x2] (jw_Mo g a_this a_this_isBlock a_this_isSeen a_this_lampX a_this_lampY a_this_right a_this_up a_this_keptRight a_this_keptUp a_this_name a_this_part a_this_codes a_this_above a_this_below a_this_length a_this_isMet v_thrown v_isBounce v_lamps v_squares v_intervals v_isBlock v_isSeen v_lampX v_lampY v_right v_up v_keptRight v_keptUp v_name v_part v_codes v_above v_below v_length v_isMet) sz) (jQv g (jw_Mo g a_this a_this_isBlock a_this_isSeen a_this_lampX a_this_lampY a_this_right a_this_up a_this_keptRight a_this_keptUp a_this_name a_this_part a_this_codes a_this_above a_this_below a_this_length a_this_isMet v_thrown v_isBounce v_lamps v_squares v_intervals v_isBlock v_isSeen v_lampX v_lampY v_right v_up v_keptRight v_keptUp v_name R v_codes v_above v_below v_length v_isMet) (va_A (jw_Mo g a_this a_this_isBlock a_this_isSeen a_this_lampX a_this_lampY a_this_right a_this_up a_this_keptRight a_this_keptUp a_this_name a_this_part a_this_codes a_this_above a_this_below a_this_length a_this_isMet v_thrown v_isBounce v_lamps v_squares v_intervals v_isBlock v_isSeen v_lampX v_lampY v_right v_up v_keptRight v_keptUp v_name v_part v_codes v_above v_below v_length v_isMet) sz)) 0 0 (va_A (jw_Mo g a_this a_this_isBlock a_this_isSeen a_this_lampX a_this_lampY a_this_right a_this_up a_this_keptRight a_this_keptUp a_this_name a_this_part a_this_codes a_this_above a_this_below a_this_length a_this_isMet v_thrown v_isBounce v_lamps v_squares v_intervals v_isBlock v_isSeen v_lampX v_lampY v_right v_up v_keptRight v_keptUp v_name v_part v_codes v_above v_below v_length v_isMet) sz) := by
  refine jm_wv (cc := cX7_joins) (maxL := 6) (by decide +kernel) rfl (Nat.le_of_ble_eq_true rfl) ?_
  intro p e s m below meth c A Q hx hb hml hown hts hK hP hD hA hS fin ls hl
  have hl : lv_has ls 6 [(0, .ref a_this), (1, .int x1), (2, .int x2)] := hl
  have hown : s.vm.findClass RX7 = some m.cls := hown
  have w_X7 : ∀ w ∈ u_ws RX7 TX7 20, w ∈ wsX7_joins := by decide +kernel
  have w_f42 := hts (.fieldLink RX7 42 "BilliardryModel" "part" "[I") (by decide +kernel)
  have w_f23 := hts (.fieldLink RX7 23 "BilliardryModel" "squares" "I") (by decide +kernel)
  have L18 : ∀ (n : Nat) (z3 : Int32) (z4 : Int32) (z5 : Int32) (v_part : Nat → Int32) (H : Heap) (locs : List Loc), va_P g.1 vwCl (jw_Mo g a_this a_this_isBlock a_this_isSeen a_this_lampX a_this_lampY a_this_right a_this_up a_this_keptRight a_this_keptUp a_this_name a_this_part a_this_codes a_this_above a_this_below a_this_length a_this_isMet v_thrown v_isBounce v_lamps v_squares v_intervals v_isBlock v_isSeen v_lampX v_lampY v_right v_up v_keptRight v_keptUp v_name v_part v_codes v_above v_below v_length v_isMet) H → va_S A s.heap H locs → ∀ (ls : Array Slot), lv_has ls 6 [(0, .ref a_this), (3, .int z3), (4, .int z4), (5, .int z5)] → ∀ q, jf_Mo_joins_L18 v_squares z3 z4 n z5 v_part = some q → (∀ (H : Heap) (locs : List Loc), va_P g.1 vwCl (jw_Mo g a_this a_this_isBlock a_this_isSeen a_this_lampX a_this_lampY a_this_right a_this_up a_this_keptRight a_this_keptUp a_this_name a_this_part a_this_codes a_this_above a_this_below a_this_length a_this_isMet v_thrown v_isBounce v_lamps v_squares v_intervals v_isBlock v_isSeen v_lampX v_lampY v_right v_up v_keptRight v_keptUp v_name q v_codes v_above v_below v_length v_isMet) H → va_S A s.heap H locs → ∀ ls : Array Slot, lv_has ls 6 [] → W p l e jr_Mo_joins s m ([.ref a_this, .int x1, .int x2] : List Value).toArray below meth c H locs 0 0 Q (F0 m 63 ls [])) → W p l e jr_Mo_joins s m ([.ref a_this, .int x1, .int x2] : List Value).toArray below meth c H locs 0 0 Q (F0 m 18 ls []) := by
    intro n z3 z4
    induction n with
    | zero =>
      intro z5 v_part H locs hP hS ls hl q hR k
      cases hR
    | succ n ih =>
      have J56 : ∀ (v_part : Nat → Int32) (z5 : Int32) (s1 : Int32) (s2 : Int32) (H : Heap) (locs : List Loc), va_P g.1 vwCl (jw_Mo g a_this a_this_isBlock a_this_isSeen a_this_lampX a_this_lampY a_this_right a_this_up a_this_keptRight a_this_keptUp a_this_name a_this_part a_this_codes a_this_above a_this_below a_this_length a_this_isMet v_thrown v_isBounce v_lamps v_squares v_intervals v_isBlock v_isSeen v_lampX v_lampY v_right v_up v_keptRight v_keptUp v_name v_part v_codes v_above v_below v_length v_isMet) H → va_S A s.heap H locs → ∀ (ls : Array Slot), lv_has ls 6 [(0, .ref a_this), (3, .int z3), (4, .int z4), (5, .int z5)] → ∀ q, jf_Mo_joins_b56 (jf_Mo_joins_L18 v_squares z3 z4 n) v_squares v_part z3 z4 z5 s1 s2 = some q → (∀ (H : Heap) (locs : List Loc), va_P g.1 vwCl (jw_Mo g a_this a_this_isBlock a_this_isSeen a_this_lampX a_this_lampY a_this_right a_this_up a_this_keptRight a_this_keptUp a_this_name a_this_part a_this_codes a_this_above a_this_below a_this_length a_this_isMet v_thrown v_isBounce v_lamps v_squares v_intervals v_isBlock v_isSeen v_lampX v_lampY v_right v_up v_keptRight v_keptUp v_name q v_codes v_above v_below v_length v_isMet) H → va_S A s.heap H locs → ∀ ls : Array Slot, lv_has ls 6 [] → W p l e jr_Mo_joins s m ([.ref a_this, .int x1, .int x2] : List Value).toArray below meth c H locs 0 0 Q (F0 m 63 ls [])) → W p l e jr_Mo_joins s m ([.ref a_this, .int x1, .int x2] : List Value).toArray below meth c H locs 0 0 Q (F0 m 56 ls [.int s2, .int s1, .ref a_this_part]) := by
        intro v_part z5 s1 s2 H locs hP hS ls hl q hR k
        rw [jf_Mo_joins_b56] at hR
        by_cases c_7 : jin s1 5 = true
        case neg => replace hR := Eq.trans (Eq.symm (if_neg c_7)) hR; cases hR
        replace hR := Eq.trans (Eq.symm (if_pos c_7)) hR
        refine va_iast hx hb hK.1 hP (jD_to hD rfl) hS 10 0 rfl rfl (jin_in c_7) dX7_joins_56 (fun H locs hP _ hS => ?_)
        have hP : va_P g.1 vwCl (jw_Mo g a_this a_this_isBlock a_this_isSeen a_this_lampX a_this_lampY a_this_right a_this_up a_this_keptRight a_this_keptUp a_this_name a_this_part a_this_codes a_this_above a_this_below a_this_length a_this_isMet v_thrown v_isBounce v_lamps v_squares v_intervals v_isBlock v_isSeen v_lampX v_lampY v_right v_up v_keptRight v_keptUp v_name (upd v_part s1.toNatClampNeg s2) v_codes v_above v_below v_length v_isMet) H := hP
        refine lv_iinc (v := z5 + 1) (lv' := [(5, .int (z5 + 1)), (0, .ref a_this), (3, .int z3), (4, .int z4)]) hx hb dX7_joins_57 hl (k := 3) rfl (by first | rfl | decide) (by decide) rfl (fun ls hl => ?_)
        refine lv_goto (tgt := 18) hx hb dX7_joins_60 (by decide) ?_
        exact ih (z5 + 1) (upd v_part s1.toNatClampNeg s2) _ _ hP hS _ (lv_sub hl [1, 2, 3, 0] rfl) _ hR k
      intro z5 v_part H locs hP hS ls hl q hR k
      rw [jf_Mo_joins_L18] at hR
      refine lv_iload hx hb dX7_joins_18 (lv_at hl 3 rfl) ?_
      refine lv_aload_n hx hb dX7_joins_20 rfl (lv_at hl 0 rfl) ?_
      refine va_get (D := g.1) (ci := 7) (v := .int v_squares) (C := RX7) (T := TX7) (N := 20) hx hb hts w_X7 hown hK.1 hP 0 rfl rfl 7 (by decide) w_f23 (fun _ h9 => h9) rfl dX7_joins_21 ?_
      refine lv_icmp_ge (tgt := 63) hx hb dX7_joins_24 (by decide) (fun c_3 => ?_) (fun c_3 => ?_)
      · replace hR := Eq.trans (Eq.symm (if_pos c_3)) hR
        cases hR
        exact k _ _ hP hS _ (lv_sub hl [] rfl)
      · replace hR := Eq.trans (Eq.symm (if_neg c_3)) hR
        refine lv_aload_n hx hb dX7_joins_27 rfl (lv_at hl 0 rfl) ?_
        refine va_get (D := g.1) (ci := 7) (v := .ref a_this_part) (C := RX7) (T := TX7) (N := 20) hx hb hts w_X7 hown hK.1 hP 0 rfl rfl 13 (by decide) w_f42 (fun _ h9 => h9) rfl dX7_joins_28 ?_
        refine lv_iload hx hb dX7_joins_31 (lv_at hl 3 rfl) ?_
        refine lv_aload_n hx hb dX7_joins_33 rfl (lv_at hl 0 rfl) ?_
        refine va_get (D := g.1) (ci := 7) (v := .ref a_this_part) (C := RX7) (T := TX7) (N := 20) hx hb hts w_X7 hown hK.1 hP 0 rfl rfl 13 (by decide) w_f42 (fun _ h9 => h9) rfl dX7_joins_34 ?_
        refine lv_iload hx hb dX7_joins_37 (lv_at hl 3 rfl) ?_
        by_cases c_4 : jin z5 5 = true
        case neg => replace hR := Eq.trans (Eq.symm (if_neg c_4)) hR; cases hR
        replace hR := Eq.trans (Eq.symm (if_pos c_4)) hR
        refine va_iald hx hb hK.1 hP 10 0 rfl rfl (jin_in c_4) dX7_joins_39 ?_
        refine lv_iload_n hx hb dX7_joins_40 rfl (lv_at hl 1 rfl) ?_
        refine lv_icmp_ne (tgt := 49) hx hb dX7_joins_41 (by decide) (fun c_5 => ?_) (fun c_5 => ?_)
        · replace hR := Eq.trans (Eq.symm (if_neg c_5)) hR
          refine lv_aload_n hx hb dX7_joins_49 rfl (lv_at hl 0 rfl) ?_
          refine va_get (D := g.1) (ci := 7) (v := .ref a_this_part) (C := RX7) (T := TX7) (N := 20) hx hb hts w_X7 hown hK.1 hP 0 rfl rfl 13 (by decide) w_f42 (fun _ h9 => h9) rfl dX7_joins_50 ?_
          refine lv_iload hx hb dX7_joins_53 (lv_at hl 3 rfl) ?_
          by_cases c_6 : jin z5 5 = true
          case neg => replace hR := Eq.trans (Eq.symm (if_neg c_6)) hR; cases hR
          replace hR := Eq.trans (Eq.symm (if_pos c_6)) hR
          refine va_iald hx hb hK.1 hP 10 0 rfl rfl (jin_in c_6) dX7_joins_55 ?_
          exact J56 v_part z5 z5 (v_part z5.toNatClampNeg) _ _ hP hS _ (lv_sub hl [0, 1, 2, 3] rfl) _ hR k
        · replace hR := Eq.trans (Eq.symm (if_pos c_5)) hR
          refine lv_iload hx hb dX7_joins_44 (lv_at hl 2 rfl) ?_
          refine lv_goto (tgt := 56) hx hb dX7_joins_46 (by decide) ?_
          exact J56 v_part z5 z5 z4 _ _ hP hS _ (lv_sub hl [0, 1, 2, 3] rfl) _ hR k
  rw [jf_Mo_joins] at hR
  refine lv_aload_n hx hb dX7_joins_0 rfl (lv_at hl 0 rfl) ?_
  refine va_get (D := g.1) (ci := 7) (v := .ref a_this_part) (C := RX7) (T := TX7) (N := 20) hx hb hts w_X7 hown hK.1 hP 0 rfl rfl 13 (by decide) w_f42 (fun _ h9 => h9) rfl dX7_joins_1 ?_
  refine lv_iload_n hx hb dX7_joins_4 rfl (lv_at hl 1 rfl) ?_
  by_cases c_1 : jin x1 5 = true
  case neg => replace hR := Eq.trans (Eq.symm (if_neg c_1)) hR; cases hR
  replace hR := Eq.trans (Eq.symm (if_pos c_1)) hR
  refine va_iald hx hb hK.1 hP 10 0 rfl rfl (jin_in c_1) dX7_joins_5 ?_
  refine jlet_i hR (fun y3_1 hR => ?_)
  try dsimp only at hR
  refine lv_istore_n (lv' := [(3, .int y3_1), (0, .ref a_this), (1, .int x1), (2, .int x2)]) hx hb dX7_joins_6 rfl hl (by decide) rfl (fun ls hl => ?_)
  refine lv_aload_n hx hb dX7_joins_7 rfl (lv_at hl 1 rfl) ?_
  refine va_get (D := g.1) (ci := 7) (v := .ref a_this_part) (C := RX7) (T := TX7) (N := 20) hx hb hts w_X7 hown hK.1 hP 0 rfl rfl 13 (by decide) w_f42 (fun _ h9 => h9) rfl dX7_joins_8 ?_
  refine lv_iload_n hx hb dX7_joins_11 rfl (lv_at hl 3 rfl) ?_
  by_cases c_2 : jin x2 5 = true
  case neg => replace hR := Eq.trans (Eq.symm (if_neg c_2)) hR; cases hR
  replace hR := Eq.trans (Eq.symm (if_pos c_2)) hR
  refine va_iald hx hb hK.1 hP 10 0 rfl rfl (jin_in c_2) dX7_joins_12 ?_
  refine jlet_i hR (fun y4_1 hR => ?_)
  try dsimp only at hR
  refine lv_istore (lv' := [(4, .int y4_1), (3, .int y3_1), (0, .ref a_this), (1, .int x1), (2, .int x2)]) hx hb dX7_joins_13 hl (by decide) rfl (fun ls hl => ?_)
  refine lv_iconst (v := 0) hx hb dX7_joins_15 (by decide) ?_
  refine lv_istore (lv' := [(5, .int 0), (4, .int y4_1), (3, .int y3_1), (0, .ref a_this), (1, .int x1), (2, .int x2)]) hx hb dX7_joins_16 hl (by decide) rfl (fun ls hl => ?_)
  obtain ⟨q_1, hq_1, hR⟩ := jbind hR
  try dsimp only at hR
  refine L18 jF y3_1 y4_1 0 v_part _ _ hP hS _ (lv_sub hl [3, 2, 1, 0] rfl) _ hq_1 (fun H locs hP hS ls hl => ?_)
  obtain rfl := (Option.some.inj hR)
  exact fin _ _ _ _ hP hS dX7_joins_63
def jf_Mo_findsPieces_L6 (v_squares : Int32) (v_right : Nat → Int32) (v_up : Nat → Int32) : Nat → Int32 → (Nat → Int32) → Option (Nat → Int32)
  | 0, _, _ => none
  | n + 1, z1, v_part =>
    if v_squares ≤ z1 then (some v_part) else (if jin z1 5 = true then (Option.bind (jf_Mo_joins v_squares v_part z1 (v_right z1.toNatClampNeg)) (fun q_2 => if jin z1 5 = true then (Option.bind (jf_Mo_joins v_squares q_2 z1 (v_up z1.toNatClampNeg)) (fun q_3 => (jf_Mo_findsPieces_L6 v_squares v_right v_up n) (z1 + 1) q_3)) else none)) else none)
def jf_Mo_findsPieces (v_squares : Int32) (v_right : Nat → Int32) (v_up : Nat → Int32) (v_part : Nat → Int32) : Option (Nat → Int32) :=
  Option.bind (jf_Mo_parts v_squares v_part) (fun q_1 => Option.bind (jf_Mo_findsPieces_L6 v_squares v_right v_up jF 0 q_1) (fun q_4 => some q_4))
abbrev jr_Mo_findsPieces : Room := { frames := 1, cells := 0, slots := 0, locals := 25 }
set_option maxRecDepth 100000 in
set_option maxHeartbeats 4000000 in
theorem jc_Mo_findsPieces (l : Launch) (g : jG) (a_this a_this_isBlock a_this_isSeen a_this_lampX a_this_lampY a_this_right a_this_up a_this_keptRight a_this_keptUp a_this_name a_this_part a_this_codes a_this_above a_this_below a_this_length a_this_isMet : Nat) (v_thrown : Int32) (v_isBounce : Int32) (v_lamps : Int32) (v_squares : Int32) (v_intervals : Int32) (v_isBlock : Nat → Int32) (v_isSeen : Nat → Int32) (v_lampX : Nat → Int32) (v_lampY : Nat → Int32) (v_right : Nat → Int32) (v_up : Nat → Int32) (v_keptRight : Nat → Int32) (v_keptUp : Nat → Int32) (v_name : Nat → Int32) (v_part : Nat → Int32) (v_codes : Nat → Int32) (v_above : Nat → Int32) (v_below : Nat → Int32) (v_length : Nat → Int32) (v_isMet : Nat → Int32) (R : (Nat → Int32)) (hR : jf_Mo_findsPieces v_squares v_right v_up v_part = some R) (sz : Nat) : Met l yX7_findsPieces wsX7_findsPieces jr_Mo_findsPieces (jPw g [.ref a_this] (jw_Mo g a_this a_this_isBlock a_this_isSeen a_this_lampX a_this_lampY a_this_right a_this_up a_this_keptRight a_this_keptUp a_this_name a_this_part a_this_codes a_this_above a_this_below a_this_length a_this_isMet v_thrown v_isBounce v_lamps v_squares v_intervals v_isBlock v_isSeen v_lampX v_lampY v_right v_up v_keptRight v_keptUp v_name v_part v_codes v_above v_below v_length v_isMet) sz) (jQv g (jw_Mo g a_this a_this_isBlock a_this_isSeen a_this_lampX a_this_lampY a_this_right a_this_up a_this_keptRight a_this_keptUp a_this_name a_this_part a_this_codes a_this_above a_this_below a_this_length a_this_isMet v_thrown v_isBounce v_lamps v_squares v_intervals v_isBlock v_isSeen v_lampX v_lampY v_right v_up v_keptRight v_keptUp v_name R v_codes v_above v_below v_length v_isMet) (va_A (jw_Mo g a_this a_this_isBlock a_this_isSeen a_this_lampX a_this_lampY a_this_right a_this_up a_this_keptRight a_this_keptUp a_this_name a_this_part a_this_codes a_this_above a_this_below a_this_length a_this_isMet v_thrown v_isBounce v_lamps v_squares v_intervals v_isBlock v_isSeen v_lampX v_lampY v_right v_up v_keptRight v_keptUp v_name v_part v_codes v_above v_below v_length v_isMet) sz)) 0 0 (va_A (jw_Mo g a_this a_this_isBlock a_this_isSeen a_this_lampX a_this_lampY a_this_right a_this_up a_this_keptRight a_this_keptUp a_this_name a_this_part a_this_codes a_this_above a_this_below a_this_length a_this_isMet v_thrown v_isBounce v_lamps v_squares v_intervals v_isBlock v_isSeen v_lampX v_lampY v_right v_up v_keptRight v_keptUp v_name v_part v_codes v_above v_below v_length v_isMet) sz) := by
  refine jm_wv (cc := cX7_findsPieces) (maxL := 2) (by decide +kernel) rfl (Nat.le_of_ble_eq_true rfl) ?_
  intro p e s m below meth c A Q hx hb hml hown hts hK hP hD hA hS fin ls hl
  have hl : lv_has ls 2 [(0, .ref a_this)] := hl
  have hown : s.vm.findClass RX7 = some m.cls := hown
  have w_X7 : ∀ w ∈ u_ws RX7 TX7 20, w ∈ wsX7_findsPieces := by decide +kernel
  have w_f23 := hts (.fieldLink RX7 23 "BilliardryModel" "squares" "I") (by decide +kernel)
  have w_f27 := hts (.fieldLink RX7 27 "BilliardryModel" "right" "[I") (by decide +kernel)
  have w_f30 := hts (.fieldLink RX7 30 "BilliardryModel" "up" "[I") (by decide +kernel)
  have L6 : ∀ (n : Nat) (z1 : Int32) (v_part : Nat → Int32) (H : Heap) (locs : List Loc), va_P g.1 vwCl (jw_Mo g a_this a_this_isBlock a_this_isSeen a_this_lampX a_this_lampY a_this_right a_this_up a_this_keptRight a_this_keptUp a_this_name a_this_part a_this_codes a_this_above a_this_below a_this_length a_this_isMet v_thrown v_isBounce v_lamps v_squares v_intervals v_isBlock v_isSeen v_lampX v_lampY v_right v_up v_keptRight v_keptUp v_name v_part v_codes v_above v_below v_length v_isMet) H → va_S A s.heap H locs → ∀ (ls : Array Slot), lv_has ls 2 [(0, .ref a_this), (1, .int z1)] → ∀ q, jf_Mo_findsPieces_L6 v_squares v_right v_up n z1 v_part = some q → (∀ (H : Heap) (locs : List Loc), va_P g.1 vwCl (jw_Mo g a_this a_this_isBlock a_this_isSeen a_this_lampX a_this_lampY a_this_right a_this_up a_this_keptRight a_this_keptUp a_this_name a_this_part a_this_codes a_this_above a_this_below a_this_length a_this_isMet v_thrown v_isBounce v_lamps v_squares v_intervals v_isBlock v_isSeen v_lampX v_lampY v_right v_up v_keptRight v_keptUp v_name q v_codes v_above v_below v_length v_isMet) H → va_S A s.heap H locs → ∀ ls : Array Slot, lv_has ls 2 [] → W p l e jr_Mo_findsPieces s m ([.ref a_this] : List Value).toArray below meth c H locs 0 0 Q (F0 m 42 ls [])) → W p l e jr_Mo_findsPieces s m ([.ref a_this] : List Value).toArray below meth c H locs 0 0 Q (F0 m 6 ls []) := by
    intro n
    induction n with
    | zero =>
      intro z1 v_part H locs hP hS ls hl q hR k
      cases hR
    | succ n ih =>
      intro z1 v_part H locs hP hS ls hl q hR k
      rw [jf_Mo_findsPieces_L6] at hR
      refine lv_iload_n hx hb dX7_findsPieces_6 rfl (lv_at hl 1 rfl) ?_
      refine lv_aload_n hx hb dX7_findsPieces_7 rfl (lv_at hl 0 rfl) ?_
      refine va_get (D := g.1) (ci := 7) (v := .int v_squares) (C := RX7) (T := TX7) (N := 20) hx hb hts w_X7 hown hK.1 hP 0 rfl rfl 7 (by decide) w_f23 (fun _ h9 => h9) rfl dX7_findsPieces_8 ?_
      refine lv_icmp_ge (tgt := 42) hx hb dX7_findsPieces_11 (by decide) (fun c_1 => ?_) (fun c_1 => ?_)
      · replace hR := Eq.trans (Eq.symm (if_pos c_1)) hR
        cases hR
        exact k _ _ hP hS _ (lv_sub hl [] rfl)
      · replace hR := Eq.trans (Eq.symm (if_neg c_1)) hR
        refine lv_aload_n hx hb dX7_findsPieces_14 rfl (lv_at hl 0 rfl) ?_
        refine lv_iload_n hx hb dX7_findsPieces_15 rfl (lv_at hl 1 rfl) ?_
        refine lv_aload_n hx hb dX7_findsPieces_16 rfl (lv_at hl 0 rfl) ?_
        refine va_get (D := g.1) (ci := 7) (v := .ref a_this_right) (C := RX7) (T := TX7) (N := 20) hx hb hts w_X7 hown hK.1 hP 0 rfl rfl 8 (by decide) w_f27 (fun _ h9 => h9) rfl dX7_findsPieces_17 ?_
        refine lv_iload_n hx hb dX7_findsPieces_20 rfl (lv_at hl 1 rfl) ?_
        by_cases c_2 : jin z1 5 = true
        case neg => replace hR := Eq.trans (Eq.symm (if_neg c_2)) hR; cases hR
        replace hR := Eq.trans (Eq.symm (if_pos c_2)) hR
        refine va_iald hx hb hK.1 hP 5 0 rfl rfl (jin_in c_2) dX7_findsPieces_21 ?_
        obtain ⟨q_2, hq_2, hR⟩ := jbind hR
        try dsimp only at hR
        refine jcall_wv (ws' := jw_Mo g a_this a_this_isBlock a_this_isSeen a_this_lampX a_this_lampY a_this_right a_this_up a_this_keptRight a_this_keptUp a_this_name a_this_part a_this_codes a_this_above a_this_below a_this_length a_this_isMet v_thrown v_isBounce v_lamps v_squares v_intervals v_isBlock v_isSeen v_lampX v_lampY v_right v_up v_keptRight v_keptUp v_name q_2 v_codes v_above v_below v_length v_isMet) (va_runV (As := [.int z1, .int (v_right z1.toNatClampNeg)]) (rest := []) ⟨hx, hb, hml, hown, hts⟩ (jc_Mo_joins l g a_this a_this_isBlock a_this_isSeen a_this_lampX a_this_lampY a_this_right a_this_up a_this_keptRight a_this_keptUp a_this_name a_this_part a_this_codes a_this_above a_this_below a_this_length a_this_isMet v_thrown v_isBounce v_lamps v_squares v_intervals v_isBlock v_isSeen v_lampX v_lampY v_right v_up v_keptRight v_keptUp v_name v_part v_codes v_above v_below v_length v_isMet z1 (v_right z1.toNatClampNeg) _ hq_2 _) (cwV 2 hts gX7_findsPieces_X7_joins rfl rfl rfl (by decide +kernel) ⟨Nat.le_of_ble_eq_true rfl, Nat.le_of_ble_eq_true rfl⟩) (jpw_v hK hP (jD_to hD rfl) (ci := 7) (q0 := 0) rfl rfl) rfl rfl hl.1 rfl (lv_room (Nat.le_of_ble_eq_true rfl)) dX7_findsPieces_22 ⟨Nat.zero_le _, Nat.zero_le _⟩) hP (jD_to hD rfl) hS hA [0, 1, 2, 3, 4, 5, 6, 7, 8, 9, 10, 11, 12, 13, 14, 15] [] [0, 1, 2, 3, 4, 5, 6, 7, 8, 9, 10, 11, 12, 13, 14, 15] rfl (by decide) rfl (fun H locs hP hS => ?_)
        refine lv_aload_n hx hb dX7_findsPieces_25 rfl (lv_at hl 0 rfl) ?_
        refine lv_iload_n hx hb dX7_findsPieces_26 rfl (lv_at hl 1 rfl) ?_
        refine lv_aload_n hx hb dX7_findsPieces_27 rfl (lv_at hl 0 rfl) ?_
        refine va_get (D := g.1) (ci := 7) (v := .ref a_this_up) (C := RX7) (T := TX7) (N := 20) hx hb hts w_X7 hown hK.1 hP 0 rfl rfl 9 (by decide) w_f30 (fun _ h9 => h9) rfl dX7_findsPieces_28 ?_
        refine lv_iload_n hx hb dX7_findsPieces_31 rfl (lv_at hl 1 rfl) ?_
        by_cases c_3 : jin z1 5 = true
        case neg => replace hR := Eq.trans (Eq.symm (if_neg c_3)) hR; cases hR
        replace hR := Eq.trans (Eq.symm (if_pos c_3)) hR
        refine va_iald hx hb hK.1 hP 6 0 rfl rfl (jin_in c_3) dX7_findsPieces_32 ?_
        obtain ⟨q_3, hq_3, hR⟩ := jbind hR
        try dsimp only at hR
        refine jcall_wv (ws' := jw_Mo g a_this a_this_isBlock a_this_isSeen a_this_lampX a_this_lampY a_this_right a_this_up a_this_keptRight a_this_keptUp a_this_name a_this_part a_this_codes a_this_above a_this_below a_this_length a_this_isMet v_thrown v_isBounce v_lamps v_squares v_intervals v_isBlock v_isSeen v_lampX v_lampY v_right v_up v_keptRight v_keptUp v_name q_3 v_codes v_above v_below v_length v_isMet) (va_runV (As := [.int z1, .int (v_up z1.toNatClampNeg)]) (rest := []) ⟨hx, hb, hml, hown, hts⟩ (jc_Mo_joins l g a_this a_this_isBlock a_this_isSeen a_this_lampX a_this_lampY a_this_right a_this_up a_this_keptRight a_this_keptUp a_this_name a_this_part a_this_codes a_this_above a_this_below a_this_length a_this_isMet v_thrown v_isBounce v_lamps v_squares v_intervals v_isBlock v_isSeen v_lampX v_lampY v_right v_up v_keptRight v_keptUp v_name q_2 v_codes v_above v_below v_length v_isMet z1 (v_up z1.toNatClampNeg) _ hq_3 _) (cwV 2 hts gX7_findsPieces_X7_joins rfl rfl rfl (by decide +kernel) ⟨Nat.le_of_ble_eq_true rfl, Nat.le_of_ble_eq_true rfl⟩) (jpw_v hK hP (jD_to hD rfl) (ci := 7) (q0 := 0) rfl rfl) rfl rfl hl.1 rfl (lv_room (Nat.le_of_ble_eq_true rfl)) dX7_findsPieces_33 ⟨Nat.zero_le _, Nat.zero_le _⟩) hP (jD_to hD rfl) hS hA [0, 1, 2, 3, 4, 5, 6, 7, 8, 9, 10, 11, 12, 13, 14, 15] [] [0, 1, 2, 3, 4, 5, 6, 7, 8, 9, 10, 11, 12, 13, 14, 15] rfl (by decide) rfl (fun H locs hP hS => ?_)
        refine lv_iinc (v := z1 + 1) (lv' := [(1, .int (z1 + 1)), (0, .ref a_this)]) hx hb dX7_findsPieces_36 hl (k := 1) rfl (by first | rfl | decide) (by decide) rfl (fun ls hl => ?_)
        refine lv_goto (tgt := 6) hx hb dX7_findsPieces_39 (by decide) ?_
        exact ih (z1 + 1) q_3 _ _ hP hS _ (lv_sub hl [1, 0] rfl) _ hR k
  rw [jf_Mo_findsPieces] at hR
  refine lv_aload_n hx hb dX7_findsPieces_0 rfl (lv_at hl 0 rfl) ?_
  obtain ⟨q_1, hq_1, hR⟩ := jbind hR
  try dsimp only at hR
  refine jcall_wv (ws' := jw_Mo g a_this a_this_isBlock a_this_isSeen a_this_lampX a_this_lampY a_this_right a_this_up a_this_keptRight a_this_keptUp a_this_name a_this_part a_this_codes a_this_above a_this_below a_this_length a_this_isMet v_thrown v_isBounce v_lamps v_squares v_intervals v_isBlock v_isSeen v_lampX v_lampY v_right v_up v_keptRight v_keptUp v_name q_1 v_codes v_above v_below v_length v_isMet) (va_runV (As := []) (rest := []) ⟨hx, hb, hml, hown, hts⟩ (jc_Mo_parts l g a_this a_this_isBlock a_this_isSeen a_this_lampX a_this_lampY a_this_right a_this_up a_this_keptRight a_this_keptUp a_this_name a_this_part a_this_codes a_this_above a_this_below a_this_length a_this_isMet v_thrown v_isBounce v_lamps v_squares v_intervals v_isBlock v_isSeen v_lampX v_lampY v_right v_up v_keptRight v_keptUp v_name v_part v_codes v_above v_below v_length v_isMet _ hq_1 _) (cwV 0 hts gX7_findsPieces_X7_parts rfl rfl rfl (by decide +kernel) ⟨Nat.le_of_ble_eq_true rfl, Nat.le_of_ble_eq_true rfl⟩) (jpw_v hK hP (jD_to hD rfl) (ci := 7) (q0 := 0) rfl rfl) rfl rfl hl.1 rfl (lv_room (Nat.le_of_ble_eq_true rfl)) dX7_findsPieces_1 ⟨Nat.zero_le _, Nat.zero_le _⟩) hP (jD_to hD rfl) hS hA [0, 1, 2, 3, 4, 5, 6, 7, 8, 9, 10, 11, 12, 13, 14, 15] [] [0, 1, 2, 3, 4, 5, 6, 7, 8, 9, 10, 11, 12, 13, 14, 15] rfl (by decide) rfl (fun H locs hP hS => ?_)
  refine lv_iconst (v := 0) hx hb dX7_findsPieces_4 (by decide) ?_
  refine lv_istore_n (lv' := [(1, .int 0), (0, .ref a_this)]) hx hb dX7_findsPieces_5 rfl hl (by decide) rfl (fun ls hl => ?_)
  obtain ⟨q_4, hq_4, hR⟩ := jbind hR
  try dsimp only at hR
  refine L6 jF 0 q_1 _ _ hP hS _ (lv_sub hl [1, 0] rfl) _ hq_4 (fun H locs hP hS ls hl => ?_)
  obtain rfl := (Option.some.inj hR)
  exact fin _ _ _ _ hP hS dX7_findsPieces_42
def jf_Mo_findsRows_L6 (v_squares : Int32) (v_right : Nat → Int32) : Nat → Int32 → (Nat → Int32) → Option (Nat → Int32)
  | 0, _, _ => none
  | n + 1, z1, v_part =>
    if v_squares ≤ z1 then (some v_part) else (if jin z1 5 = true then (Option.bind (jf_Mo_joins v_squares v_part z1 (v_right z1.toNatClampNeg)) (fun q_2 => (jf_Mo_findsRows_L6 v_squares v_right n) (z1 + 1) q_2)) else none)
def jf_Mo_findsRows (v_squares : Int32) (v_right : Nat → Int32) (v_part : Nat → Int32) : Option (Nat → Int32) :=
  Option.bind (jf_Mo_parts v_squares v_part) (fun q_1 => Option.bind (jf_Mo_findsRows_L6 v_squares v_right jF 0 q_1) (fun q_3 => some q_3))
abbrev jr_Mo_findsRows : Room := { frames := 1, cells := 0, slots := 0, locals := 25 }
set_option maxRecDepth 100000 in
set_option maxHeartbeats 4000000 in
theorem jc_Mo_findsRows (l : Launch) (g : jG) (a_this a_this_isBlock a_this_isSeen a_this_lampX a_this_lampY a_this_right a_this_up a_this_keptRight a_this_keptUp a_this_name a_this_part a_this_codes a_this_above a_this_below a_this_length a_this_isMet : Nat) (v_thrown : Int32) (v_isBounce : Int32) (v_lamps : Int32) (v_squares : Int32) (v_intervals : Int32) (v_isBlock : Nat → Int32) (v_isSeen : Nat → Int32) (v_lampX : Nat → Int32) (v_lampY : Nat → Int32) (v_right : Nat → Int32) (v_up : Nat → Int32) (v_keptRight : Nat → Int32) (v_keptUp : Nat → Int32) (v_name : Nat → Int32) (v_part : Nat → Int32) (v_codes : Nat → Int32) (v_above : Nat → Int32) (v_below : Nat → Int32) (v_length : Nat → Int32) (v_isMet : Nat → Int32) (R : (Nat → Int32)) (hR : jf_Mo_findsRows v_squares v_right v_part = some R) (sz : Nat) : Met l yX7_findsRows wsX7_findsRows jr_Mo_findsRows (jPw g [.ref a_this] (jw_Mo g a_this a_this_isBlock a_this_isSeen a_this_lampX a_this_lampY a_this_right a_this_up a_this_keptRight a_this_keptUp a_this_name a_this_part a_this_codes a_this_above a_this_below a_this_length a_this_isMet v_thrown v_isBounce v_lamps v_squares v_intervals v_isBlock v_isSeen v_lampX v_lampY v_right v_up v_keptRight v_keptUp v_name v_part v_codes v_above v_below v_length v_isMet) sz) (jQv g (jw_Mo g a_this a_this_isBlock a_this_isSeen a_this_lampX a_this_lampY a_this_right a_this_up a_this_keptRight a_this_keptUp a_this_name a_this_part a_this_codes a_this_above a_this_below a_this_length a_this_isMet v_thrown v_isBounce v_lamps v_squares v_intervals v_isBlock v_isSeen v_lampX v_lampY v_right v_up v_keptRight v_keptUp v_name R v_codes v_above v_below v_length v_isMet) (va_A (jw_Mo g a_this a_this_isBlock a_this_isSeen a_this_lampX a_this_lampY a_this_right a_this_up a_this_keptRight a_this_keptUp a_this_name a_this_part a_this_codes a_this_above a_this_below a_this_length a_this_isMet v_thrown v_isBounce v_lamps v_squares v_intervals v_isBlock v_isSeen v_lampX v_lampY v_right v_up v_keptRight v_keptUp v_name v_part v_codes v_above v_below v_length v_isMet) sz)) 0 0 (va_A (jw_Mo g a_this a_this_isBlock a_this_isSeen a_this_lampX a_this_lampY a_this_right a_this_up a_this_keptRight a_this_keptUp a_this_name a_this_part a_this_codes a_this_above a_this_below a_this_length a_this_isMet v_thrown v_isBounce v_lamps v_squares v_intervals v_isBlock v_isSeen v_lampX v_lampY v_right v_up v_keptRight v_keptUp v_name v_part v_codes v_above v_below v_length v_isMet) sz) := by
  refine jm_wv (cc := cX7_findsRows) (maxL := 2) (by decide +kernel) rfl (Nat.le_of_ble_eq_true rfl) ?_
  intro p e s m below meth c A Q hx hb hml hown hts hK hP hD hA hS fin ls hl
  have hl : lv_has ls 2 [(0, .ref a_this)] := hl
  have hown : s.vm.findClass RX7 = some m.cls := hown
  have w_X7 : ∀ w ∈ u_ws RX7 TX7 20, w ∈ wsX7_findsRows := by decide +kernel
  have w_f23 := hts (.fieldLink RX7 23 "BilliardryModel" "squares" "I") (by decide +kernel)
  have w_f27 := hts (.fieldLink RX7 27 "BilliardryModel" "right" "[I") (by decide +kernel)
  have L6 : ∀ (n : Nat) (z1 : Int32) (v_part : Nat → Int32) (H : Heap) (locs : List Loc), va_P g.1 vwCl (jw_Mo g a_this a_this_isBlock a_this_isSeen a_this_lampX a_this_lampY a_this_right a_this_up a_this_keptRight a_this_keptUp a_this_name a_this_part a_this_codes a_this_above a_this_below a_this_length a_this_isMet v_thrown v_isBounce v_lamps v_squares v_intervals v_isBlock v_isSeen v_lampX v_lampY v_right v_up v_keptRight v_keptUp v_name v_part v_codes v_above v_below v_length v_isMet) H → va_S A s.heap H locs → ∀ (ls : Array Slot), lv_has ls 2 [(0, .ref a_this), (1, .int z1)] → ∀ q, jf_Mo_findsRows_L6 v_squares v_right n z1 v_part = some q → (∀ (H : Heap) (locs : List Loc), va_P g.1 vwCl (jw_Mo g a_this a_this_isBlock a_this_isSeen a_this_lampX a_this_lampY a_this_right a_this_up a_this_keptRight a_this_keptUp a_this_name a_this_part a_this_codes a_this_above a_this_below a_this_length a_this_isMet v_thrown v_isBounce v_lamps v_squares v_intervals v_isBlock v_isSeen v_lampX v_lampY v_right v_up v_keptRight v_keptUp v_name q v_codes v_above v_below v_length v_isMet) H → va_S A s.heap H locs → ∀ ls : Array Slot, lv_has ls 2 [] → W p l e jr_Mo_findsRows s m ([.ref a_this] : List Value).toArray below meth c H locs 0 0 Q (F0 m 31 ls [])) → W p l e jr_Mo_findsRows s m ([.ref a_this] : List Value).toArray below meth c H locs 0 0 Q (F0 m 6 ls []) := by
    intro n
    induction n with
    | zero =>
      intro z1 v_part H locs hP hS ls hl q hR k
      cases hR
    | succ n ih =>
      intro z1 v_part H locs hP hS ls hl q hR k
      rw [jf_Mo_findsRows_L6] at hR
      refine lv_iload_n hx hb dX7_findsRows_6 rfl (lv_at hl 1 rfl) ?_
      refine lv_aload_n hx hb dX7_findsRows_7 rfl (lv_at hl 0 rfl) ?_
      refine va_get (D := g.1) (ci := 7) (v := .int v_squares) (C := RX7) (T := TX7) (N := 20) hx hb hts w_X7 hown hK.1 hP 0 rfl rfl 7 (by decide) w_f23 (fun _ h9 => h9) rfl dX7_findsRows_8 ?_
      refine lv_icmp_ge (tgt := 31) hx hb dX7_findsRows_11 (by decide) (fun c_1 => ?_) (fun c_1 => ?_)
      · replace hR := Eq.trans (Eq.symm (if_pos c_1)) hR
        cases hR
        exact k _ _ hP hS _ (lv_sub hl [] rfl)
      · replace hR := Eq.trans (Eq.symm (if_neg c_1)) hR
        refine lv_aload_n hx hb dX7_findsRows_14 rfl (lv_at hl 0 rfl) ?_
        refine lv_iload_n hx hb dX7_findsRows_15 rfl (lv_at hl 1 rfl) ?_
        refine lv_aload_n hx hb dX7_findsRows_16 rfl (lv_at hl 0 rfl) ?_
        refine va_get (D := g.1) (ci := 7) (v := .ref a_this_right) (C := RX7) (T := TX7) (N := 20) hx hb hts w_X7 hown hK.1 hP 0 rfl rfl 8 (by decide) w_f27 (fun _ h9 => h9) rfl dX7_findsRows_17 ?_
        refine lv_iload_n hx hb dX7_findsRows_20 rfl (lv_at hl 1 rfl) ?_
        by_cases c_2 : jin z1 5 = true
        case neg => replace hR := Eq.trans (Eq.symm (if_neg c_2)) hR; cases hR
        replace hR := Eq.trans (Eq.symm (if_pos c_2)) hR
        refine va_iald hx hb hK.1 hP 5 0 rfl rfl (jin_in c_2) dX7_findsRows_21 ?_
        obtain ⟨q_2, hq_2, hR⟩ := jbind hR
        try dsimp only at hR
        refine jcall_wv (ws' := jw_Mo g a_this a_this_isBlock a_this_isSeen a_this_lampX a_this_lampY a_this_right a_this_up a_this_keptRight a_this_keptUp a_this_name a_this_part a_this_codes a_this_above a_this_below a_this_length a_this_isMet v_thrown v_isBounce v_lamps v_squares v_intervals v_isBlock v_isSeen v_lampX v_lampY v_right v_up v_keptRight v_keptUp v_name q_2 v_codes v_above v_below v_length v_isMet) (va_runV (As := [.int z1, .int (v_right z1.toNatClampNeg)]) (rest := []) ⟨hx, hb, hml, hown, hts⟩ (jc_Mo_joins l g a_this a_this_isBlock a_this_isSeen a_this_lampX a_this_lampY a_this_right a_this_up a_this_keptRight a_this_keptUp a_this_name a_this_part a_this_codes a_this_above a_this_below a_this_length a_this_isMet v_thrown v_isBounce v_lamps v_squares v_intervals v_isBlock v_isSeen v_lampX v_lampY v_right v_up v_keptRight v_keptUp v_name v_part v_codes v_above v_below v_length v_isMet z1 (v_right z1.toNatClampNeg) _ hq_2 _) (cwV 2 hts gX7_findsRows_X7_joins rfl rfl rfl (by decide +kernel) ⟨Nat.le_of_ble_eq_true rfl, Nat.le_of_ble_eq_true rfl⟩) (jpw_v hK hP (jD_to hD rfl) (ci := 7) (q0 := 0) rfl rfl) rfl rfl hl.1 rfl (lv_room (Nat.le_of_ble_eq_true rfl)) dX7_findsRows_22 ⟨Nat.zero_le _, Nat.zero_le _⟩) hP (jD_to hD rfl) hS hA [0, 1, 2, 3, 4, 5, 6, 7, 8, 9, 10, 11, 12, 13, 14, 15] [] [0, 1, 2, 3, 4, 5, 6, 7, 8, 9, 10, 11, 12, 13, 14, 15] rfl (by decide) rfl (fun H locs hP hS => ?_)
        refine lv_iinc (v := z1 + 1) (lv' := [(1, .int (z1 + 1)), (0, .ref a_this)]) hx hb dX7_findsRows_25 hl (k := 1) rfl (by first | rfl | decide) (by decide) rfl (fun ls hl => ?_)
        refine lv_goto (tgt := 6) hx hb dX7_findsRows_28 (by decide) ?_
        exact ih (z1 + 1) q_2 _ _ hP hS _ (lv_sub hl [1, 0] rfl) _ hR k
  rw [jf_Mo_findsRows] at hR
  refine lv_aload_n hx hb dX7_findsRows_0 rfl (lv_at hl 0 rfl) ?_
  obtain ⟨q_1, hq_1, hR⟩ := jbind hR
  try dsimp only at hR
  refine jcall_wv (ws' := jw_Mo g a_this a_this_isBlock a_this_isSeen a_this_lampX a_this_lampY a_this_right a_this_up a_this_keptRight a_this_keptUp a_this_name a_this_part a_this_codes a_this_above a_this_below a_this_length a_this_isMet v_thrown v_isBounce v_lamps v_squares v_intervals v_isBlock v_isSeen v_lampX v_lampY v_right v_up v_keptRight v_keptUp v_name q_1 v_codes v_above v_below v_length v_isMet) (va_runV (As := []) (rest := []) ⟨hx, hb, hml, hown, hts⟩ (jc_Mo_parts l g a_this a_this_isBlock a_this_isSeen a_this_lampX a_this_lampY a_this_right a_this_up a_this_keptRight a_this_keptUp a_this_name a_this_part a_this_codes a_this_above a_this_below a_this_length a_this_isMet v_thrown v_isBounce v_lamps v_squares v_intervals v_isBlock v_isSeen v_lampX v_lampY v_right v_up v_keptRight v_keptUp v_name v_part v_codes v_above v_below v_length v_isMet _ hq_1 _) (cwV 0 hts gX7_findsRows_X7_parts rfl rfl rfl (by decide +kernel) ⟨Nat.le_of_ble_eq_true rfl, Nat.le_of_ble_eq_true rfl⟩) (jpw_v hK hP (jD_to hD rfl) (ci := 7) (q0 := 0) rfl rfl) rfl rfl hl.1 rfl (lv_room (Nat.le_of_ble_eq_true rfl)) dX7_findsRows_1 ⟨Nat.zero_le _, Nat.zero_le _⟩) hP (jD_to hD rfl) hS hA [0, 1, 2, 3, 4, 5, 6, 7, 8, 9, 10, 11, 12, 13, 14, 15] [] [0, 1, 2, 3, 4, 5, 6, 7, 8, 9, 10, 11, 12, 13, 14, 15] rfl (by decide) rfl (fun H locs hP hS => ?_)
  refine lv_iconst (v := 0) hx hb dX7_findsRows_4 (by decide) ?_
  refine lv_istore_n (lv' := [(1, .int 0), (0, .ref a_this)]) hx hb dX7_findsRows_5 rfl hl (by decide) rfl (fun ls hl => ?_)
  obtain ⟨q_3, hq_3, hR⟩ := jbind hR
  try dsimp only at hR
  refine L6 jF 0 q_1 _ _ hP hS _ (lv_sub hl [1, 0] rfl) _ hq_3 (fun H locs hP hS ls hl => ?_)
  obtain rfl := (Option.some.inj hR)
  exact fin _ _ _ _ hP hS dX7_findsRows_31
def jf_Mo_isFlat_b45 (self : Int32 → Int32 → Option Int32) (v_squares : Int32) (v_right : Nat → Int32) (v_up : Nat → Int32) (z1 : Int32) (z3 : Int32) (s0 : Int32) : Option Int32 :=
  if jin z3 5 = true then (jlet (v_right z3.toNatClampNeg) (fun y3_2 => self s0 y3_2)) else none
def jf_Mo_isFlat_b44 (self : Int32 → Int32 → Option Int32) (v_squares : Int32) (v_right : Nat → Int32) (v_up : Nat → Int32) (z1 : Int32) (z3 : Int32) : Option Int32 :=
  jf_Mo_isFlat_b45 self v_squares v_right v_up z1 z3 0
def jf_Mo_isFlat_L22 (v_squares : Int32) (v_right : Nat → Int32) (v_up : Nat → Int32) (z1 : Int32) : Nat → Int32 → Int32 → Option Int32
  | 0, _, _ => none
  | n + 1, z2, z3 =>
    if z3 = z1 then (some z2) else (if z2 = 0 then (jf_Mo_isFlat_b44 (jf_Mo_isFlat_L22 v_squares v_right v_up z1 n) v_squares v_right v_up z1 z3) else (Option.bind (jf_Mo_angle v_squares v_right v_up z3) (fun q_2 => if q_2 = 1 then (jf_Mo_isFlat_b45 (jf_Mo_isFlat_L22 v_squares v_right v_up z1 n) v_squares v_right v_up z1 z3 1) else (jf_Mo_isFlat_b44 (jf_Mo_isFlat_L22 v_squares v_right v_up z1 n) v_squares v_right v_up z1 z3))))
def jf_Mo_isFlat_b14 (v_squares : Int32) (v_right : Nat → Int32) (v_up : Nat → Int32) (z1 : Int32) (s0 : Int32) : Option Int32 :=
  if jin z1 5 = true then (jlet (v_right z1.toNatClampNeg) (fun y3_1 => Option.bind (jf_Mo_isFlat_L22 v_squares v_right v_up z1 jF s0 y3_1) (fun q_3 => some (q_3 &&& 1)))) else none
def jf_Mo_isFlat (v_squares : Int32) (v_right : Nat → Int32) (v_up : Nat → Int32) (x1 : Int32) : Option Int32 :=
  Option.bind (jf_Mo_angle v_squares v_right v_up x1) (fun q_1 => if q_1 = 1 then (jf_Mo_isFlat_b14 v_squares v_right v_up x1 1) else (jf_Mo_isFlat_b14 v_squares v_right v_up x1 0))
abbrev jr_Mo_isFlat : Room := { frames := 3, cells := 0, slots := 0, locals := 67 }
set_option maxRecDepth 100000 in
set_option maxHeartbeats 4000000 in
theorem jc_Mo_isFlat (l : Launch) (g : jG) (a_this a_this_isBlock a_this_isSeen a_this_lampX a_this_lampY a_this_right a_this_up a_this_keptRight a_this_keptUp a_this_name a_this_part a_this_codes a_this_above a_this_below a_this_length a_this_isMet : Nat) (v_thrown : Int32) (v_isBounce : Int32) (v_lamps : Int32) (v_squares : Int32) (v_intervals : Int32) (v_isBlock : Nat → Int32) (v_isSeen : Nat → Int32) (v_lampX : Nat → Int32) (v_lampY : Nat → Int32) (v_right : Nat → Int32) (v_up : Nat → Int32) (v_keptRight : Nat → Int32) (v_keptUp : Nat → Int32) (v_name : Nat → Int32) (v_part : Nat → Int32) (v_codes : Nat → Int32) (v_above : Nat → Int32) (v_below : Nat → Int32) (v_length : Nat → Int32) (v_isMet : Nat → Int32) (x1 : Int32) (R : Int32) (hR : jf_Mo_isFlat v_squares v_right v_up x1 = some R) : Met l yX7_isFlat wsX7_isFlat jr_Mo_isFlat (jPr g [.ref a_this, .int x1] (jw_Mo g a_this a_this_isBlock a_this_isSeen a_this_lampX a_this_lampY a_this_right a_this_up a_this_keptRight a_this_keptUp a_this_name a_this_part a_this_codes a_this_above a_this_below a_this_length a_this_isMet v_thrown v_isBounce v_lamps v_squares v_intervals v_isBlock v_isSeen v_lampX v_lampY v_right v_up v_keptRight v_keptUp v_name v_part v_codes v_above v_below v_length v_isMet)) (vp_Si (fun r => r = R)) 0 0 (fun _ => False) := by
  refine jm_rz (cc := cX7_isFlat) (maxL := 4) (by decide +kernel) rfl (Nat.le_of_ble_eq_true rfl) ?_
  intro p e s m below meth c Q hx hb hml hown hts hK hP fin ls hl
  have hl : lv_has ls 4 [(0, .ref a_this), (1, .int x1)] := hl
  have hown : s.vm.findClass RX7 = some m.cls := hown
  have w_X7 : ∀ w ∈ u_ws RX7 TX7 20, w ∈ wsX7_isFlat := by decide +kernel
  have w_f27 := hts (.fieldLink RX7 27 "BilliardryModel" "right" "[I") (by decide +kernel)
  have L22 : ∀ (n : Nat) (z1 : Int32) (z2 : Int32) (z3 : Int32) (ls : Array Slot), lv_has ls 4 [(0, .ref a_this), (1, .int z1), (2, .int z2), (3, .int z3)] → ∀ q, jf_Mo_isFlat_L22 v_squares v_right v_up z1 n z2 z3 = some q → (∀ ls : Array Slot, lv_has ls 4 [(2, .int q)] → W p l e jr_Mo_isFlat s m ([.ref a_this, .int x1] : List Value).toArray below meth c s.heap [] 0 0 Q (F0 m 56 ls [])) → W p l e jr_Mo_isFlat s m ([.ref a_this, .int x1] : List Value).toArray below meth c s.heap [] 0 0 Q (F0 m 22 ls []) := by
    intro n z1
    induction n with
    | zero =>
      intro z2 z3 ls hl q hR k
      cases hR
    | succ n ih =>
      have J45 : ∀ (z3 : Int32) (s0 : Int32) (ls : Array Slot), lv_has ls 4 [(0, .ref a_this), (1, .int z1), (3, .int z3)] → ∀ q, jf_Mo_isFlat_b45 (jf_Mo_isFlat_L22 v_squares v_right v_up z1 n) v_squares v_right v_up z1 z3 s0 = some q → (∀ ls : Array Slot, lv_has ls 4 [(2, .int q)] → W p l e jr_Mo_isFlat s m ([.ref a_this, .int x1] : List Value).toArray below meth c s.heap [] 0 0 Q (F0 m 56 ls [])) → W p l e jr_Mo_isFlat s m ([.ref a_this, .int x1] : List Value).toArray below meth c s.heap [] 0 0 Q (F0 m 45 ls [.int s0]) := by
        intro z3 s0 ls hl q hR k
        rw [jf_Mo_isFlat_b45] at hR
        refine lv_istore_n (lv' := [(2, .int s0), (0, .ref a_this), (1, .int z1), (3, .int z3)]) hx hb dX7_isFlat_45 rfl hl (by decide) rfl (fun ls hl => ?_)
        refine lv_aload_n hx hb dX7_isFlat_46 rfl (lv_at hl 1 rfl) ?_
        refine va_get (D := g.1) (ci := 7) (v := .ref a_this_right) (C := RX7) (T := TX7) (N := 20) hx hb hts w_X7 hown hK.1 hP 0 rfl rfl 8 (by decide) w_f27 (fun _ h9 => h9) rfl dX7_isFlat_47 ?_
        refine lv_iload_n hx hb dX7_isFlat_50 rfl (lv_at hl 3 rfl) ?_
        by_cases c_5 : jin z3 5 = true
        case neg => replace hR := Eq.trans (Eq.symm (if_neg c_5)) hR; cases hR
        replace hR := Eq.trans (Eq.symm (if_pos c_5)) hR
        refine va_iald hx hb hK.1 hP 5 0 rfl rfl (jin_in c_5) dX7_isFlat_51 ?_
        refine jlet_i hR (fun y3_2 hR => ?_)
        try dsimp only at hR
        refine lv_istore_n (lv' := [(3, .int y3_2), (2, .int s0), (0, .ref a_this), (1, .int z1)]) hx hb dX7_isFlat_52 rfl hl (by decide) rfl (fun ls hl => ?_)
        refine lv_goto (tgt := 22) hx hb dX7_isFlat_53 (by decide) ?_
        exact ih s0 y3_2 _ (lv_sub hl [2, 3, 1, 0] rfl) _ hR k
      have J44 : ∀ (z3 : Int32) (ls : Array Slot), lv_has ls 4 [(0, .ref a_this), (1, .int z1), (3, .int z3)] → ∀ q, jf_Mo_isFlat_b44 (jf_Mo_isFlat_L22 v_squares v_right v_up z1 n) v_squares v_right v_up z1 z3 = some q → (∀ ls : Array Slot, lv_has ls 4 [(2, .int q)] → W p l e jr_Mo_isFlat s m ([.ref a_this, .int x1] : List Value).toArray below meth c s.heap [] 0 0 Q (F0 m 56 ls [])) → W p l e jr_Mo_isFlat s m ([.ref a_this, .int x1] : List Value).toArray below meth c s.heap [] 0 0 Q (F0 m 44 ls []) := by
        intro z3 ls hl q hR k
        rw [jf_Mo_isFlat_b44] at hR
        refine lv_iconst (v := 0) hx hb dX7_isFlat_44 (by decide) ?_
        exact J45 z3 0 _ (lv_sub hl [0, 1, 2] rfl) _ hR k
      intro z2 z3 ls hl q hR k
      rw [jf_Mo_isFlat_L22] at hR
      refine lv_iload_n hx hb dX7_isFlat_22 rfl (lv_at hl 3 rfl) ?_
      refine lv_iload_n hx hb dX7_isFlat_23 rfl (lv_at hl 1 rfl) ?_
      refine lv_icmp_eq (tgt := 56) hx hb dX7_isFlat_24 (by decide) (fun c_3 => ?_) (fun c_3 => ?_)
      · replace hR := Eq.trans (Eq.symm (if_pos c_3)) hR
        cases hR
        exact k _ (lv_sub hl [2] rfl)
      · replace hR := Eq.trans (Eq.symm (if_neg c_3)) hR
        refine lv_iload_n hx hb dX7_isFlat_27 rfl (lv_at hl 2 rfl) ?_
        refine lv_if_eq (tgt := 44) hx hb dX7_isFlat_28 (by decide) (fun c_4 => ?_) (fun c_4 => ?_)
        · replace hR := Eq.trans (Eq.symm (if_pos c_4)) hR
          exact J44 z3 _ (lv_sub hl [0, 1, 3] rfl) _ hR k
        · replace hR := Eq.trans (Eq.symm (if_neg c_4)) hR
          refine lv_aload_n hx hb dX7_isFlat_31 rfl (lv_at hl 0 rfl) ?_
          refine lv_iload_n hx hb dX7_isFlat_32 rfl (lv_at hl 3 rfl) ?_
          obtain ⟨q_2, hq_2, hR⟩ := jbind hR
          try dsimp only at hR
          refine jcall_ri (va_runV (As := [.int z3]) (rest := []) ⟨hx, hb, hml, hown, hts⟩ (jc_Mo_angle l g a_this a_this_isBlock a_this_isSeen a_this_lampX a_this_lampY a_this_right a_this_up a_this_keptRight a_this_keptUp a_this_name a_this_part a_this_codes a_this_above a_this_below a_this_length a_this_isMet v_thrown v_isBounce v_lamps v_squares v_intervals v_isBlock v_isSeen v_lampX v_lampY v_right v_up v_keptRight v_keptUp v_name v_part v_codes v_above v_below v_length v_isMet z3 _ hq_2) (cwV 1 hts gX7_isFlat_X7_angle rfl rfl rfl (by decide +kernel) ⟨Nat.le_of_ble_eq_true rfl, Nat.le_of_ble_eq_true rfl⟩) (jpr_v hK hP (ci := 7) (q0 := 0) rfl rfl) rfl rfl hl.1 rfl (lv_room (Nat.le_of_ble_eq_true rfl)) dX7_isFlat_33 ⟨Nat.zero_le _, Nat.zero_le _⟩) ?_
          refine lv_iconst (v := 1) hx hb dX7_isFlat_36 (by decide) ?_
          refine lv_icmp_ne (tgt := 44) hx hb dX7_isFlat_37 (by decide) (fun c_6 => ?_) (fun c_6 => ?_)
          · replace hR := Eq.trans (Eq.symm (if_neg c_6)) hR
            exact J44 z3 _ (lv_sub hl [0, 1, 3] rfl) _ hR k
          · replace hR := Eq.trans (Eq.symm (if_pos c_6)) hR
            refine lv_iconst (v := 1) hx hb dX7_isFlat_40 (by decide) ?_
            refine lv_goto (tgt := 45) hx hb dX7_isFlat_41 (by decide) ?_
            exact J45 z3 1 _ (lv_sub hl [0, 1, 3] rfl) _ hR k
  have J14 : ∀ (z1 : Int32) (s0 : Int32) (ls : Array Slot), lv_has ls 4 [(0, .ref a_this), (1, .int z1)] → jf_Mo_isFlat_b14 v_squares v_right v_up z1 s0 = some R → W p l e jr_Mo_isFlat s m ([.ref a_this, .int x1] : List Value).toArray below meth c s.heap [] 0 0 Q (F0 m 14 ls [.int s0]) := by
    intro z1 s0 ls hl hR
    rw [jf_Mo_isFlat_b14] at hR
    refine lv_istore_n (lv' := [(2, .int s0), (0, .ref a_this), (1, .int z1)]) hx hb dX7_isFlat_14 rfl hl (by decide) rfl (fun ls hl => ?_)
    refine lv_aload_n hx hb dX7_isFlat_15 rfl (lv_at hl 1 rfl) ?_
    refine va_get (D := g.1) (ci := 7) (v := .ref a_this_right) (C := RX7) (T := TX7) (N := 20) hx hb hts w_X7 hown hK.1 hP 0 rfl rfl 8 (by decide) w_f27 (fun _ h9 => h9) rfl dX7_isFlat_16 ?_
    refine lv_iload_n hx hb dX7_isFlat_19 rfl (lv_at hl 2 rfl) ?_
    by_cases c_2 : jin z1 5 = true
    case neg => replace hR := Eq.trans (Eq.symm (if_neg c_2)) hR; cases hR
    replace hR := Eq.trans (Eq.symm (if_pos c_2)) hR
    refine va_iald hx hb hK.1 hP 5 0 rfl rfl (jin_in c_2) dX7_isFlat_20 ?_
    refine jlet_i hR (fun y3_1 hR => ?_)
    try dsimp only at hR
    refine lv_istore_n (lv' := [(3, .int y3_1), (2, .int s0), (0, .ref a_this), (1, .int z1)]) hx hb dX7_isFlat_21 rfl hl (by decide) rfl (fun ls hl => ?_)
    obtain ⟨q_3, hq_3, hR⟩ := jbind hR
    try dsimp only at hR
    refine L22 jF z1 s0 y3_1 _ (lv_sub hl [2, 3, 1, 0] rfl) _ hq_3 (fun ls hl => ?_)
    refine lv_iload_n hx hb dX7_isFlat_56 rfl (lv_at hl 0 rfl) ?_
    exact fin _ _ _ (Option.some.inj hR) dX7_isFlat_57
  rw [jf_Mo_isFlat] at hR
  refine lv_aload_n hx hb dX7_isFlat_0 rfl (lv_at hl 0 rfl) ?_
  refine lv_iload_n hx hb dX7_isFlat_1 rfl (lv_at hl 1 rfl) ?_
  obtain ⟨q_1, hq_1, hR⟩ := jbind hR
  try dsimp only at hR
  refine jcall_ri (va_runV (As := [.int x1]) (rest := []) ⟨hx, hb, hml, hown, hts⟩ (jc_Mo_angle l g a_this a_this_isBlock a_this_isSeen a_this_lampX a_this_lampY a_this_right a_this_up a_this_keptRight a_this_keptUp a_this_name a_this_part a_this_codes a_this_above a_this_below a_this_length a_this_isMet v_thrown v_isBounce v_lamps v_squares v_intervals v_isBlock v_isSeen v_lampX v_lampY v_right v_up v_keptRight v_keptUp v_name v_part v_codes v_above v_below v_length v_isMet x1 _ hq_1) (cwV 1 hts gX7_isFlat_X7_angle rfl rfl rfl (by decide +kernel) ⟨Nat.le_of_ble_eq_true rfl, Nat.le_of_ble_eq_true rfl⟩) (jpr_v hK hP (ci := 7) (q0 := 0) rfl rfl) rfl rfl hl.1 rfl (lv_room (Nat.le_of_ble_eq_true rfl)) dX7_isFlat_2 ⟨Nat.zero_le _, Nat.zero_le _⟩) ?_
  refine lv_iconst (v := 1) hx hb dX7_isFlat_5 (by decide) ?_
  refine lv_icmp_ne (tgt := 13) hx hb dX7_isFlat_6 (by decide) (fun c_1 => ?_) (fun c_1 => ?_)
  · replace hR := Eq.trans (Eq.symm (if_neg c_1)) hR
    refine lv_iconst (v := 0) hx hb dX7_isFlat_13 (by decide) ?_
    exact J14 x1 0 _ (lv_sub hl [0, 1] rfl) hR
  · replace hR := Eq.trans (Eq.symm (if_pos c_1)) hR
    refine lv_iconst (v := 1) hx hb dX7_isFlat_9 (by decide) ?_
    refine lv_goto (tgt := 14) hx hb dX7_isFlat_10 (by decide) ?_
    exact J14 x1 1 _ (lv_sub hl [0, 1] rfl) hR
def jf_Mo_findsCylinders_b33 (self : Int32 → (Nat → Int32) → Option (Nat → Int32)) (v_squares : Int32) (v_right : Nat → Int32) (v_up : Nat → Int32) (v_part : Nat → Int32) (z1 : Int32) : Option (Nat → Int32) :=
  self (z1 + 1) v_part
def jf_Mo_findsCylinders_L6 (v_squares : Int32) (v_right : Nat → Int32) (v_up : Nat → Int32) : Nat → Int32 → (Nat → Int32) → Option (Nat → Int32)
  | 0, _, _ => none
  | n + 1, z1, v_part =>
    if v_squares ≤ z1 then (some v_part) else (Option.bind (jf_Mo_isFlat v_squares v_right v_up z1) (fun q_2 => if q_2 = 0 then (jf_Mo_findsCylinders_b33 (jf_Mo_findsCylinders_L6 v_squares v_right v_up n) v_squares v_right v_up v_part z1) else (if jin z1 5 = true then (Option.bind (jf_Mo_joins v_squares v_part z1 (v_up z1.toNatClampNeg)) (fun q_3 => jf_Mo_findsCylinders_b33 (jf_Mo_findsCylinders_L6 v_squares v_right v_up n) v_squares v_right v_up q_3 z1)) else none)))
def jf_Mo_findsCylinders (v_squares : Int32) (v_right : Nat → Int32) (v_up : Nat → Int32) (v_part : Nat → Int32) : Option (Nat → Int32) :=
  Option.bind (jf_Mo_findsRows v_squares v_right v_part) (fun q_1 => Option.bind (jf_Mo_findsCylinders_L6 v_squares v_right v_up jF 0 q_1) (fun q_4 => some q_4))
abbrev jr_Mo_findsCylinders : Room := { frames := 4, cells := 0, slots := 0, locals := 90 }
set_option maxRecDepth 100000 in
set_option maxHeartbeats 4000000 in
theorem jc_Mo_findsCylinders (l : Launch) (g : jG) (a_this a_this_isBlock a_this_isSeen a_this_lampX a_this_lampY a_this_right a_this_up a_this_keptRight a_this_keptUp a_this_name a_this_part a_this_codes a_this_above a_this_below a_this_length a_this_isMet : Nat) (v_thrown : Int32) (v_isBounce : Int32) (v_lamps : Int32) (v_squares : Int32) (v_intervals : Int32) (v_isBlock : Nat → Int32) (v_isSeen : Nat → Int32) (v_lampX : Nat → Int32) (v_lampY : Nat → Int32) (v_right : Nat → Int32) (v_up : Nat → Int32) (v_keptRight : Nat → Int32) (v_keptUp : Nat → Int32) (v_name : Nat → Int32) (v_part : Nat → Int32) (v_codes : Nat → Int32) (v_above : Nat → Int32) (v_below : Nat → Int32) (v_length : Nat → Int32) (v_isMet : Nat → Int32) (R : (Nat → Int32)) (hR : jf_Mo_findsCylinders v_squares v_right v_up v_part = some R) (sz : Nat) : Met l yX7_findsCylinders wsX7_findsCylinders jr_Mo_findsCylinders (jPw g [.ref a_this] (jw_Mo g a_this a_this_isBlock a_this_isSeen a_this_lampX a_this_lampY a_this_right a_this_up a_this_keptRight a_this_keptUp a_this_name a_this_part a_this_codes a_this_above a_this_below a_this_length a_this_isMet v_thrown v_isBounce v_lamps v_squares v_intervals v_isBlock v_isSeen v_lampX v_lampY v_right v_up v_keptRight v_keptUp v_name v_part v_codes v_above v_below v_length v_isMet) sz) (jQv g (jw_Mo g a_this a_this_isBlock a_this_isSeen a_this_lampX a_this_lampY a_this_right a_this_up a_this_keptRight a_this_keptUp a_this_name a_this_part a_this_codes a_this_above a_this_below a_this_length a_this_isMet v_thrown v_isBounce v_lamps v_squares v_intervals v_isBlock v_isSeen v_lampX v_lampY v_right v_up v_keptRight v_keptUp v_name R v_codes v_above v_below v_length v_isMet) (va_A (jw_Mo g a_this a_this_isBlock a_this_isSeen a_this_lampX a_this_lampY a_this_right a_this_up a_this_keptRight a_this_keptUp a_this_name a_this_part a_this_codes a_this_above a_this_below a_this_length a_this_isMet v_thrown v_isBounce v_lamps v_squares v_intervals v_isBlock v_isSeen v_lampX v_lampY v_right v_up v_keptRight v_keptUp v_name v_part v_codes v_above v_below v_length v_isMet) sz)) 0 0 (va_A (jw_Mo g a_this a_this_isBlock a_this_isSeen a_this_lampX a_this_lampY a_this_right a_this_up a_this_keptRight a_this_keptUp a_this_name a_this_part a_this_codes a_this_above a_this_below a_this_length a_this_isMet v_thrown v_isBounce v_lamps v_squares v_intervals v_isBlock v_isSeen v_lampX v_lampY v_right v_up v_keptRight v_keptUp v_name v_part v_codes v_above v_below v_length v_isMet) sz) := by
  refine jm_wv (cc := cX7_findsCylinders) (maxL := 2) (by decide +kernel) rfl (Nat.le_of_ble_eq_true rfl) ?_
  intro p e s m below meth c A Q hx hb hml hown hts hK hP hD hA hS fin ls hl
  have hl : lv_has ls 2 [(0, .ref a_this)] := hl
  have hown : s.vm.findClass RX7 = some m.cls := hown
  have w_X7 : ∀ w ∈ u_ws RX7 TX7 20, w ∈ wsX7_findsCylinders := by decide +kernel
  have w_f23 := hts (.fieldLink RX7 23 "BilliardryModel" "squares" "I") (by decide +kernel)
  have w_f30 := hts (.fieldLink RX7 30 "BilliardryModel" "up" "[I") (by decide +kernel)
  have L6 : ∀ (n : Nat) (z1 : Int32) (v_part : Nat → Int32) (H : Heap) (locs : List Loc), va_P g.1 vwCl (jw_Mo g a_this a_this_isBlock a_this_isSeen a_this_lampX a_this_lampY a_this_right a_this_up a_this_keptRight a_this_keptUp a_this_name a_this_part a_this_codes a_this_above a_this_below a_this_length a_this_isMet v_thrown v_isBounce v_lamps v_squares v_intervals v_isBlock v_isSeen v_lampX v_lampY v_right v_up v_keptRight v_keptUp v_name v_part v_codes v_above v_below v_length v_isMet) H → va_S A s.heap H locs → ∀ (ls : Array Slot), lv_has ls 2 [(0, .ref a_this), (1, .int z1)] → ∀ q, jf_Mo_findsCylinders_L6 v_squares v_right v_up n z1 v_part = some q → (∀ (H : Heap) (locs : List Loc), va_P g.1 vwCl (jw_Mo g a_this a_this_isBlock a_this_isSeen a_this_lampX a_this_lampY a_this_right a_this_up a_this_keptRight a_this_keptUp a_this_name a_this_part a_this_codes a_this_above a_this_below a_this_length a_this_isMet v_thrown v_isBounce v_lamps v_squares v_intervals v_isBlock v_isSeen v_lampX v_lampY v_right v_up v_keptRight v_keptUp v_name q v_codes v_above v_below v_length v_isMet) H → va_S A s.heap H locs → ∀ ls : Array Slot, lv_has ls 2 [] → W p l e jr_Mo_findsCylinders s m ([.ref a_this] : List Value).toArray below meth c H locs 0 0 Q (F0 m 39 ls [])) → W p l e jr_Mo_findsCylinders s m ([.ref a_this] : List Value).toArray below meth c H locs 0 0 Q (F0 m 6 ls []) := by
    intro n
    induction n with
    | zero =>
      intro z1 v_part H locs hP hS ls hl q hR k
      cases hR
    | succ n ih =>
      have J33 : ∀ (v_part : Nat → Int32) (z1 : Int32) (H : Heap) (locs : List Loc), va_P g.1 vwCl (jw_Mo g a_this a_this_isBlock a_this_isSeen a_this_lampX a_this_lampY a_this_right a_this_up a_this_keptRight a_this_keptUp a_this_name a_this_part a_this_codes a_this_above a_this_below a_this_length a_this_isMet v_thrown v_isBounce v_lamps v_squares v_intervals v_isBlock v_isSeen v_lampX v_lampY v_right v_up v_keptRight v_keptUp v_name v_part v_codes v_above v_below v_length v_isMet) H → va_S A s.heap H locs → ∀ (ls : Array Slot), lv_has ls 2 [(0, .ref a_this), (1, .int z1)] → ∀ q, jf_Mo_findsCylinders_b33 (jf_Mo_findsCylinders_L6 v_squares v_right v_up n) v_squares v_right v_up v_part z1 = some q → (∀ (H : Heap) (locs : List Loc), va_P g.1 vwCl (jw_Mo g a_this a_this_isBlock a_this_isSeen a_this_lampX a_this_lampY a_this_right a_this_up a_this_keptRight a_this_keptUp a_this_name a_this_part a_this_codes a_this_above a_this_below a_this_length a_this_isMet v_thrown v_isBounce v_lamps v_squares v_intervals v_isBlock v_isSeen v_lampX v_lampY v_right v_up v_keptRight v_keptUp v_name q v_codes v_above v_below v_length v_isMet) H → va_S A s.heap H locs → ∀ ls : Array Slot, lv_has ls 2 [] → W p l e jr_Mo_findsCylinders s m ([.ref a_this] : List Value).toArray below meth c H locs 0 0 Q (F0 m 39 ls [])) → W p l e jr_Mo_findsCylinders s m ([.ref a_this] : List Value).toArray below meth c H locs 0 0 Q (F0 m 33 ls []) := by
        intro v_part z1 H locs hP hS ls hl q hR k
        rw [jf_Mo_findsCylinders_b33] at hR
        refine lv_iinc (v := z1 + 1) (lv' := [(1, .int (z1 + 1)), (0, .ref a_this)]) hx hb dX7_findsCylinders_33 hl (k := 1) rfl (by first | rfl | decide) (by decide) rfl (fun ls hl => ?_)
        refine lv_goto (tgt := 6) hx hb dX7_findsCylinders_36 (by decide) ?_
        exact ih (z1 + 1) v_part _ _ hP hS _ (lv_sub hl [1, 0] rfl) _ hR k
      intro z1 v_part H locs hP hS ls hl q hR k
      rw [jf_Mo_findsCylinders_L6] at hR
      refine lv_iload_n hx hb dX7_findsCylinders_6 rfl (lv_at hl 1 rfl) ?_
      refine lv_aload_n hx hb dX7_findsCylinders_7 rfl (lv_at hl 0 rfl) ?_
      refine va_get (D := g.1) (ci := 7) (v := .int v_squares) (C := RX7) (T := TX7) (N := 20) hx hb hts w_X7 hown hK.1 hP 0 rfl rfl 7 (by decide) w_f23 (fun _ h9 => h9) rfl dX7_findsCylinders_8 ?_
      refine lv_icmp_ge (tgt := 39) hx hb dX7_findsCylinders_11 (by decide) (fun c_1 => ?_) (fun c_1 => ?_)
      · replace hR := Eq.trans (Eq.symm (if_pos c_1)) hR
        cases hR
        exact k _ _ hP hS _ (lv_sub hl [] rfl)
      · replace hR := Eq.trans (Eq.symm (if_neg c_1)) hR
        refine lv_aload_n hx hb dX7_findsCylinders_14 rfl (lv_at hl 0 rfl) ?_
        refine lv_iload_n hx hb dX7_findsCylinders_15 rfl (lv_at hl 1 rfl) ?_
        obtain ⟨q_2, hq_2, hR⟩ := jbind hR
        try dsimp only at hR
        refine jcall_ri (va_runV (As := [.int z1]) (rest := []) ⟨hx, hb, hml, hown, hts⟩ (jc_Mo_isFlat l g a_this a_this_isBlock a_this_isSeen a_this_lampX a_this_lampY a_this_right a_this_up a_this_keptRight a_this_keptUp a_this_name a_this_part a_this_codes a_this_above a_this_below a_this_length a_this_isMet v_thrown v_isBounce v_lamps v_squares v_intervals v_isBlock v_isSeen v_lampX v_lampY v_right v_up v_keptRight v_keptUp v_name v_part v_codes v_above v_below v_length v_isMet z1 _ hq_2) (cwV 1 hts gX7_findsCylinders_X7_isFlat rfl rfl rfl (by decide +kernel) ⟨Nat.le_of_ble_eq_true rfl, Nat.le_of_ble_eq_true rfl⟩) (jpr_v hK hP (ci := 7) (q0 := 0) rfl rfl) rfl rfl hl.1 rfl (lv_room (Nat.le_of_ble_eq_true rfl)) dX7_findsCylinders_16 ⟨Nat.zero_le _, Nat.zero_le _⟩) ?_
        refine lv_if_eq (tgt := 33) hx hb dX7_findsCylinders_19 (by decide) (fun c_2 => ?_) (fun c_2 => ?_)
        · replace hR := Eq.trans (Eq.symm (if_pos c_2)) hR
          exact J33 v_part z1 _ _ hP hS _ (lv_sub hl [0, 1] rfl) _ hR k
        · replace hR := Eq.trans (Eq.symm (if_neg c_2)) hR
          refine lv_aload_n hx hb dX7_findsCylinders_22 rfl (lv_at hl 0 rfl) ?_
          refine lv_iload_n hx hb dX7_findsCylinders_23 rfl (lv_at hl 1 rfl) ?_
          refine lv_aload_n hx hb dX7_findsCylinders_24 rfl (lv_at hl 0 rfl) ?_
          refine va_get (D := g.1) (ci := 7) (v := .ref a_this_up) (C := RX7) (T := TX7) (N := 20) hx hb hts w_X7 hown hK.1 hP 0 rfl rfl 9 (by decide) w_f30 (fun _ h9 => h9) rfl dX7_findsCylinders_25 ?_
          refine lv_iload_n hx hb dX7_findsCylinders_28 rfl (lv_at hl 1 rfl) ?_
          by_cases c_3 : jin z1 5 = true
          case neg => replace hR := Eq.trans (Eq.symm (if_neg c_3)) hR; cases hR
          replace hR := Eq.trans (Eq.symm (if_pos c_3)) hR
          refine va_iald hx hb hK.1 hP 6 0 rfl rfl (jin_in c_3) dX7_findsCylinders_29 ?_
          obtain ⟨q_3, hq_3, hR⟩ := jbind hR
          try dsimp only at hR
          refine jcall_wv (ws' := jw_Mo g a_this a_this_isBlock a_this_isSeen a_this_lampX a_this_lampY a_this_right a_this_up a_this_keptRight a_this_keptUp a_this_name a_this_part a_this_codes a_this_above a_this_below a_this_length a_this_isMet v_thrown v_isBounce v_lamps v_squares v_intervals v_isBlock v_isSeen v_lampX v_lampY v_right v_up v_keptRight v_keptUp v_name q_3 v_codes v_above v_below v_length v_isMet) (va_runV (As := [.int z1, .int (v_up z1.toNatClampNeg)]) (rest := []) ⟨hx, hb, hml, hown, hts⟩ (jc_Mo_joins l g a_this a_this_isBlock a_this_isSeen a_this_lampX a_this_lampY a_this_right a_this_up a_this_keptRight a_this_keptUp a_this_name a_this_part a_this_codes a_this_above a_this_below a_this_length a_this_isMet v_thrown v_isBounce v_lamps v_squares v_intervals v_isBlock v_isSeen v_lampX v_lampY v_right v_up v_keptRight v_keptUp v_name v_part v_codes v_above v_below v_length v_isMet z1 (v_up z1.toNatClampNeg) _ hq_3 _) (cwV 2 hts gX7_findsCylinders_X7_joins rfl rfl rfl (by decide +kernel) ⟨Nat.le_of_ble_eq_true rfl, Nat.le_of_ble_eq_true rfl⟩) (jpw_v hK hP (jD_to hD rfl) (ci := 7) (q0 := 0) rfl rfl) rfl rfl hl.1 rfl (lv_room (Nat.le_of_ble_eq_true rfl)) dX7_findsCylinders_30 ⟨Nat.zero_le _, Nat.zero_le _⟩) hP (jD_to hD rfl) hS hA [0, 1, 2, 3, 4, 5, 6, 7, 8, 9, 10, 11, 12, 13, 14, 15] [] [0, 1, 2, 3, 4, 5, 6, 7, 8, 9, 10, 11, 12, 13, 14, 15] rfl (by decide) rfl (fun H locs hP hS => ?_)
          exact J33 q_3 z1 _ _ hP hS _ (lv_sub hl [0, 1] rfl) _ hR k
  rw [jf_Mo_findsCylinders] at hR
  refine lv_aload_n hx hb dX7_findsCylinders_0 rfl (lv_at hl 0 rfl) ?_
  obtain ⟨q_1, hq_1, hR⟩ := jbind hR
  try dsimp only at hR
  refine jcall_wv (ws' := jw_Mo g a_this a_this_isBlock a_this_isSeen a_this_lampX a_this_lampY a_this_right a_this_up a_this_keptRight a_this_keptUp a_this_name a_this_part a_this_codes a_this_above a_this_below a_this_length a_this_isMet v_thrown v_isBounce v_lamps v_squares v_intervals v_isBlock v_isSeen v_lampX v_lampY v_right v_up v_keptRight v_keptUp v_name q_1 v_codes v_above v_below v_length v_isMet) (va_runV (As := []) (rest := []) ⟨hx, hb, hml, hown, hts⟩ (jc_Mo_findsRows l g a_this a_this_isBlock a_this_isSeen a_this_lampX a_this_lampY a_this_right a_this_up a_this_keptRight a_this_keptUp a_this_name a_this_part a_this_codes a_this_above a_this_below a_this_length a_this_isMet v_thrown v_isBounce v_lamps v_squares v_intervals v_isBlock v_isSeen v_lampX v_lampY v_right v_up v_keptRight v_keptUp v_name v_part v_codes v_above v_below v_length v_isMet _ hq_1 _) (cwV 0 hts gX7_findsCylinders_X7_findsRows rfl rfl rfl (by decide +kernel) ⟨Nat.le_of_ble_eq_true rfl, Nat.le_of_ble_eq_true rfl⟩) (jpw_v hK hP (jD_to hD rfl) (ci := 7) (q0 := 0) rfl rfl) rfl rfl hl.1 rfl (lv_room (Nat.le_of_ble_eq_true rfl)) dX7_findsCylinders_1 ⟨Nat.zero_le _, Nat.zero_le _⟩) hP (jD_to hD rfl) hS hA [0, 1, 2, 3, 4, 5, 6, 7, 8, 9, 10, 11, 12, 13, 14, 15] [] [0, 1, 2, 3, 4, 5, 6, 7, 8, 9, 10, 11, 12, 13, 14, 15] rfl (by decide) rfl (fun H locs hP hS => ?_)
  refine lv_iconst (v := 0) hx hb dX7_findsCylinders_4 (by decide) ?_
  refine lv_istore_n (lv' := [(1, .int 0), (0, .ref a_this)]) hx hb dX7_findsCylinders_5 rfl hl (by decide) rfl (fun ls hl => ?_)
  obtain ⟨q_4, hq_4, hR⟩ := jbind hR
  try dsimp only at hR
  refine L6 jF 0 q_1 _ _ hP hS _ (lv_sub hl [1, 0] rfl) _ hq_4 (fun H locs hP hS ls hl => ?_)
  obtain rfl := (Option.some.inj hR)
  exact fin _ _ _ _ hP hS dX7_findsCylinders_39
def jf_Mo_manyParts_b48 (self : Int32 → Int32 → Option Int32) (v_part : Nat → Int32) (z1 : Int32) (z2 : Int32) (z4 : Int32) (s0 : Int32) : Option Int32 :=
  self s0 (z4 + 1)
def jf_Mo_manyParts_b47 (self : Int32 → Int32 → Option Int32) (v_part : Nat → Int32) (z1 : Int32) (z2 : Int32) (z4 : Int32) : Option Int32 :=
  jf_Mo_manyParts_b48 self v_part z1 z2 z4 0
def jf_Mo_manyParts_L17 (v_part : Nat → Int32) (z1 : Int32) (z2 : Int32) : Nat → Int32 → Int32 → Option Int32
  | 0, _, _ => none
  | n + 1, z3, z4 =>
    if z2 ≤ z4 then (some z3) else (if z3 = 0 then (jf_Mo_manyParts_b47 (jf_Mo_manyParts_L17 v_part z1 z2 n) v_part z1 z2 z4) else (if jin z4 5 = true then (if jin z2 5 = true then (if v_part z4.toNatClampNeg = v_part z2.toNatClampNeg then (jf_Mo_manyParts_b47 (jf_Mo_manyParts_L17 v_part z1 z2 n) v_part z1 z2 z4) else (jf_Mo_manyParts_b48 (jf_Mo_manyParts_L17 v_part z1 z2 n) v_part z1 z2 z4 1)) else none) else none))
def jf_Mo_manyParts_b65 (self : Int32 → Int32 → Option Int32) (v_squares : Int32) (v_part : Nat → Int32) (z2 : Int32) (s0 : Int32) (s1 : Int32) : Option Int32 :=
  jlet (s0 + s1) (fun y1_1 => self y1_1 (z2 + 1))
def jf_Mo_manyParts_L4 (v_squares : Int32) (v_part : Nat → Int32) : Nat → Int32 → Int32 → Option Int32
  | 0, _, _ => none
  | n + 1, z1, z2 =>
    if v_squares ≤ z2 then (some z1) else (Option.bind (jf_Mo_manyParts_L17 v_part z1 z2 jF 1 0) (fun q_1 => if q_1 = 0 then (jf_Mo_manyParts_b65 (jf_Mo_manyParts_L4 v_squares v_part n) v_squares v_part z2 z1 0) else (jf_Mo_manyParts_b65 (jf_Mo_manyParts_L4 v_squares v_part n) v_squares v_part z2 z1 1)))
def jf_Mo_manyParts (v_squares : Int32) (v_part : Nat → Int32) : Option Int32 :=
  Option.bind (jf_Mo_manyParts_L4 v_squares v_part jF 0 0) (fun q_2 => some q_2)
abbrev jr_Mo_manyParts : Room := { frames := 0, cells := 0, slots := 0, locals := 0 }
set_option maxRecDepth 100000 in
set_option maxHeartbeats 4000000 in
theorem jc_Mo_manyParts (l : Launch) (g : jG) (a_this a_this_isBlock a_this_isSeen a_this_lampX a_this_lampY a_this_right a_this_up a_this_keptRight a_this_keptUp a_this_name a_this_part a_this_codes a_this_above a_this_below a_this_length a_this_isMet : Nat) (v_thrown : Int32) (v_isBounce : Int32) (v_lamps : Int32) (v_squares : Int32) (v_intervals : Int32) (v_isBlock : Nat → Int32) (v_isSeen : Nat → Int32) (v_lampX : Nat → Int32) (v_lampY : Nat → Int32) (v_right : Nat → Int32) (v_up : Nat → Int32) (v_keptRight : Nat → Int32) (v_keptUp : Nat → Int32) (v_name : Nat → Int32) (v_part : Nat → Int32) (v_codes : Nat → Int32) (v_above : Nat → Int32) (v_below : Nat → Int32) (v_length : Nat → Int32) (v_isMet : Nat → Int32) (R : Int32) (hR : jf_Mo_manyParts v_squares v_part = some R) : Met l yX7_manyParts wsX7_manyParts jr_Mo_manyParts (jPr g [.ref a_this] (jw_Mo g a_this a_this_isBlock a_this_isSeen a_this_lampX a_this_lampY a_this_right a_this_up a_this_keptRight a_this_keptUp a_this_name a_this_part a_this_codes a_this_above a_this_below a_this_length a_this_isMet v_thrown v_isBounce v_lamps v_squares v_intervals v_isBlock v_isSeen v_lampX v_lampY v_right v_up v_keptRight v_keptUp v_name v_part v_codes v_above v_below v_length v_isMet)) (vp_Si (fun r => r = R)) 0 0 (fun _ => False) := by
  refine jm_ri (cc := cX7_manyParts) (maxL := 5) (by decide +kernel) rfl (Nat.le_of_ble_eq_true rfl) ?_
  intro p e s m below meth c Q hx hb hml hown hts hK hP fin ls hl
  have hl : lv_has ls 5 [(0, .ref a_this)] := hl
  have hown : s.vm.findClass RX7 = some m.cls := hown
  have w_X7 : ∀ w ∈ u_ws RX7 TX7 20, w ∈ wsX7_manyParts := by decide +kernel
  have w_f23 := hts (.fieldLink RX7 23 "BilliardryModel" "squares" "I") (by decide +kernel)
  have w_f42 := hts (.fieldLink RX7 42 "BilliardryModel" "part" "[I") (by decide +kernel)
  have L4 : ∀ (n : Nat) (z1 : Int32) (z2 : Int32) (ls : Array Slot), lv_has ls 5 [(0, .ref a_this), (1, .int z1), (2, .int z2)] → ∀ q, jf_Mo_manyParts_L4 v_squares v_part n z1 z2 = some q → (∀ ls : Array Slot, lv_has ls 5 [(1, .int q)] → W p l e jr_Mo_manyParts s m ([.ref a_this] : List Value).toArray below meth c s.heap [] 0 0 Q (F0 m 73 ls [])) → W p l e jr_Mo_manyParts s m ([.ref a_this] : List Value).toArray below meth c s.heap [] 0 0 Q (F0 m 4 ls []) := by
    intro n
    induction n with
    | zero =>
      intro z1 z2 ls hl q hR k
      cases hR
    | succ n ih =>
      have L17 : ∀ (n : Nat) (z1 : Int32) (z2 : Int32) (z3 : Int32) (z4 : Int32) (ls : Array Slot), lv_has ls 5 [(0, .ref a_this), (1, .int z1), (2, .int z2), (3, .int z3), (4, .int z4)] → ∀ q, jf_Mo_manyParts_L17 v_part z1 z2 n z3 z4 = some q → (∀ ls : Array Slot, lv_has ls 5 [(0, .ref a_this), (1, .int z1), (2, .int z2), (3, .int q)] → W p l e jr_Mo_manyParts s m ([.ref a_this] : List Value).toArray below meth c s.heap [] 0 0 Q (F0 m 55 ls [])) → W p l e jr_Mo_manyParts s m ([.ref a_this] : List Value).toArray below meth c s.heap [] 0 0 Q (F0 m 17 ls []) := by
        intro n z1 z2
        induction n with
        | zero =>
          intro z3 z4 ls hl q hR k
          cases hR
        | succ n ih =>
          have J48 : ∀ (z4 : Int32) (s0 : Int32) (ls : Array Slot), lv_has ls 5 [(0, .ref a_this), (1, .int z1), (2, .int z2), (4, .int z4)] → ∀ q, jf_Mo_manyParts_b48 (jf_Mo_manyParts_L17 v_part z1 z2 n) v_part z1 z2 z4 s0 = some q → (∀ ls : Array Slot, lv_has ls 5 [(0, .ref a_this), (1, .int z1), (2, .int z2), (3, .int q)] → W p l e jr_Mo_manyParts s m ([.ref a_this] : List Value).toArray below meth c s.heap [] 0 0 Q (F0 m 55 ls [])) → W p l e jr_Mo_manyParts s m ([.ref a_this] : List Value).toArray below meth c s.heap [] 0 0 Q (F0 m 48 ls [.int s0]) := by
            intro z4 s0 ls hl q hR k
            rw [jf_Mo_manyParts_b48] at hR
            refine lv_istore_n (lv' := [(3, .int s0), (0, .ref a_this), (1, .int z1), (2, .int z2), (4, .int z4)]) hx hb dX7_manyParts_48 rfl hl (by decide) rfl (fun ls hl => ?_)
            refine lv_iinc (v := z4 + 1) (lv' := [(4, .int (z4 + 1)), (3, .int s0), (0, .ref a_this), (1, .int z1), (2, .int z2)]) hx hb dX7_manyParts_49 hl (k := 4) rfl (by first | rfl | decide) (by decide) rfl (fun ls hl => ?_)
            refine lv_goto (tgt := 17) hx hb dX7_manyParts_52 (by decide) ?_
            exact ih s0 (z4 + 1) _ (lv_sub hl [2, 3, 4, 1, 0] rfl) _ hR k
          have J47 : ∀ (z4 : Int32) (ls : Array Slot), lv_has ls 5 [(0, .ref a_this), (1, .int z1), (2, .int z2), (4, .int z4)] → ∀ q, jf_Mo_manyParts_b47 (jf_Mo_manyParts_L17 v_part z1 z2 n) v_part z1 z2 z4 = some q → (∀ ls : Array Slot, lv_has ls 5 [(0, .ref a_this), (1, .int z1), (2, .int z2), (3, .int q)] → W p l e jr_Mo_manyParts s m ([.ref a_this] : List Value).toArray below meth c s.heap [] 0 0 Q (F0 m 55 ls [])) → W p l e jr_Mo_manyParts s m ([.ref a_this] : List Value).toArray below meth c s.heap [] 0 0 Q (F0 m 47 ls []) := by
            intro z4 ls hl q hR k
            rw [jf_Mo_manyParts_b47] at hR
            refine lv_iconst (v := 0) hx hb dX7_manyParts_47 (by decide) ?_
            exact J48 z4 0 _ (lv_sub hl [0, 1, 2, 3] rfl) _ hR k
          intro z3 z4 ls hl q hR k
          rw [jf_Mo_manyParts_L17] at hR
          refine lv_iload hx hb dX7_manyParts_17 (lv_at hl 4 rfl) ?_
          refine lv_iload_n hx hb dX7_manyParts_19 rfl (lv_at hl 2 rfl) ?_
          refine lv_icmp_ge (tgt := 55) hx hb dX7_manyParts_20 (by decide) (fun c_2 => ?_) (fun c_2 => ?_)
          · replace hR := Eq.trans (Eq.symm (if_pos c_2)) hR
            cases hR
            exact k _ (lv_sub hl [0, 1, 2, 3] rfl)
          · replace hR := Eq.trans (Eq.symm (if_neg c_2)) hR
            refine lv_iload_n hx hb dX7_manyParts_23 rfl (lv_at hl 3 rfl) ?_
            refine lv_if_eq (tgt := 47) hx hb dX7_manyParts_24 (by decide) (fun c_3 => ?_) (fun c_3 => ?_)
            · replace hR := Eq.trans (Eq.symm (if_pos c_3)) hR
              exact J47 z4 _ (lv_sub hl [0, 1, 2, 4] rfl) _ hR k
            · replace hR := Eq.trans (Eq.symm (if_neg c_3)) hR
              refine lv_aload_n hx hb dX7_manyParts_27 rfl (lv_at hl 0 rfl) ?_
              refine va_get (D := g.1) (ci := 7) (v := .ref a_this_part) (C := RX7) (T := TX7) (N := 20) hx hb hts w_X7 hown hK.1 hP 0 rfl rfl 13 (by decide) w_f42 (fun _ h9 => h9) rfl dX7_manyParts_28 ?_
              refine lv_iload hx hb dX7_manyParts_31 (lv_at hl 4 rfl) ?_
              by_cases c_4 : jin z4 5 = true
              case neg => replace hR := Eq.trans (Eq.symm (if_neg c_4)) hR; cases hR
              replace hR := Eq.trans (Eq.symm (if_pos c_4)) hR
              refine va_iald hx hb hK.1 hP 10 0 rfl rfl (jin_in c_4) dX7_manyParts_33 ?_
              refine lv_aload_n hx hb dX7_manyParts_34 rfl (lv_at hl 0 rfl) ?_
              refine va_get (D := g.1) (ci := 7) (v := .ref a_this_part) (C := RX7) (T := TX7) (N := 20) hx hb hts w_X7 hown hK.1 hP 0 rfl rfl 13 (by decide) w_f42 (fun _ h9 => h9) rfl dX7_manyParts_35 ?_
              refine lv_iload_n hx hb dX7_manyParts_38 rfl (lv_at hl 2 rfl) ?_
              by_cases c_5 : jin z2 5 = true
              case neg => replace hR := Eq.trans (Eq.symm (if_neg c_5)) hR; cases hR
              replace hR := Eq.trans (Eq.symm (if_pos c_5)) hR
              refine va_iald hx hb hK.1 hP 10 0 rfl rfl (jin_in c_5) dX7_manyParts_39 ?_
              refine lv_icmp_eq (tgt := 47) hx hb dX7_manyParts_40 (by decide) (fun c_6 => ?_) (fun c_6 => ?_)
              · replace hR := Eq.trans (Eq.symm (if_pos c_6)) hR
                exact J47 z4 _ (lv_sub hl [0, 1, 2, 4] rfl) _ hR k
              · replace hR := Eq.trans (Eq.symm (if_neg c_6)) hR
                refine lv_iconst (v := 1) hx hb dX7_manyParts_43 (by decide) ?_
                refine lv_goto (tgt := 48) hx hb dX7_manyParts_44 (by decide) ?_
                exact J48 z4 1 _ (lv_sub hl [0, 1, 2, 4] rfl) _ hR k
      have J65 : ∀ (z2 : Int32) (s0 : Int32) (s1 : Int32) (ls : Array Slot), lv_has ls 5 [(0, .ref a_this), (2, .int z2)] → ∀ q, jf_Mo_manyParts_b65 (jf_Mo_manyParts_L4 v_squares v_part n) v_squares v_part z2 s0 s1 = some q → (∀ ls : Array Slot, lv_has ls 5 [(1, .int q)] → W p l e jr_Mo_manyParts s m ([.ref a_this] : List Value).toArray below meth c s.heap [] 0 0 Q (F0 m 73 ls [])) → W p l e jr_Mo_manyParts s m ([.ref a_this] : List Value).toArray below meth c s.heap [] 0 0 Q (F0 m 65 ls [.int s1, .int s0]) := by
        intro z2 s0 s1 ls hl q hR k
        rw [jf_Mo_manyParts_b65] at hR
        refine lv_iadd hx hb dX7_manyParts_65 ?_
        refine jlet_i hR (fun y1_1 hR => ?_)
        try dsimp only at hR
        refine lv_istore_n (lv' := [(1, .int y1_1), (0, .ref a_this), (2, .int z2)]) hx hb dX7_manyParts_66 rfl hl (by decide) rfl (fun ls hl => ?_)
        refine lv_iinc (v := z2 + 1) (lv' := [(2, .int (z2 + 1)), (1, .int y1_1), (0, .ref a_this)]) hx hb dX7_manyParts_67 hl (k := 2) rfl (by first | rfl | decide) (by decide) rfl (fun ls hl => ?_)
        refine lv_goto (tgt := 4) hx hb dX7_manyParts_70 (by decide) ?_
        exact ih y1_1 (z2 + 1) _ (lv_sub hl [2, 1, 0] rfl) _ hR k
      intro z1 z2 ls hl q hR k
      rw [jf_Mo_manyParts_L4] at hR
      refine lv_iload_n hx hb dX7_manyParts_4 rfl (lv_at hl 2 rfl) ?_
      refine lv_aload_n hx hb dX7_manyParts_5 rfl (lv_at hl 0 rfl) ?_
      refine va_get (D := g.1) (ci := 7) (v := .int v_squares) (C := RX7) (T := TX7) (N := 20) hx hb hts w_X7 hown hK.1 hP 0 rfl rfl 7 (by decide) w_f23 (fun _ h9 => h9) rfl dX7_manyParts_6 ?_
      refine lv_icmp_ge (tgt := 73) hx hb dX7_manyParts_9 (by decide) (fun c_1 => ?_) (fun c_1 => ?_)
      · replace hR := Eq.trans (Eq.symm (if_pos c_1)) hR
        cases hR
        exact k _ (lv_sub hl [1] rfl)
      · replace hR := Eq.trans (Eq.symm (if_neg c_1)) hR
        refine lv_iconst (v := 1) hx hb dX7_manyParts_12 (by decide) ?_
        refine lv_istore_n (lv' := [(3, .int 1), (0, .ref a_this), (1, .int z1), (2, .int z2)]) hx hb dX7_manyParts_13 rfl hl (by decide) rfl (fun ls hl => ?_)
        refine lv_iconst (v := 0) hx hb dX7_manyParts_14 (by decide) ?_
        refine lv_istore (lv' := [(4, .int 0), (3, .int 1), (0, .ref a_this), (1, .int z1), (2, .int z2)]) hx hb dX7_manyParts_15 hl (by decide) rfl (fun ls hl => ?_)
        obtain ⟨q_1, hq_1, hR⟩ := jbind hR
        try dsimp only at hR
        refine L17 jF z1 z2 1 0 _ (lv_sub hl [2, 3, 4, 1, 0] rfl) _ hq_1 (fun ls hl => ?_)
        refine lv_iload_n hx hb dX7_manyParts_55 rfl (lv_at hl 1 rfl) ?_
        refine lv_iload_n hx hb dX7_manyParts_56 rfl (lv_at hl 3 rfl) ?_
        refine lv_if_eq (tgt := 64) hx hb dX7_manyParts_57 (by decide) (fun c_7 => ?_) (fun c_7 => ?_)
        · replace hR := Eq.trans (Eq.symm (if_pos c_7)) hR
          refine lv_iconst (v := 0) hx hb dX7_manyParts_64 (by decide) ?_
          exact J65 z2 z1 0 _ (lv_sub hl [0, 2] rfl) _ hR k
        · replace hR := Eq.trans (Eq.symm (if_neg c_7)) hR
          refine lv_iconst (v := 1) hx hb dX7_manyParts_60 (by decide) ?_
          refine lv_goto (tgt := 65) hx hb dX7_manyParts_61 (by decide) ?_
          exact J65 z2 z1 1 _ (lv_sub hl [0, 2] rfl) _ hR k
  rw [jf_Mo_manyParts] at hR
  refine lv_iconst (v := 0) hx hb dX7_manyParts_0 (by decide) ?_
  refine lv_istore_n (lv' := [(1, .int 0), (0, .ref a_this)]) hx hb dX7_manyParts_1 rfl hl (by decide) rfl (fun ls hl => ?_)
  refine lv_iconst (v := 0) hx hb dX7_manyParts_2 (by decide) ?_
  refine lv_istore_n (lv' := [(2, .int 0), (1, .int 0), (0, .ref a_this)]) hx hb dX7_manyParts_3 rfl hl (by decide) rfl (fun ls hl => ?_)
  obtain ⟨q_2, hq_2, hR⟩ := jbind hR
  try dsimp only at hR
  refine L4 jF 0 0 _ (lv_sub hl [2, 1, 0] rfl) _ hq_2 (fun ls hl => ?_)
  refine lv_iload_n hx hb dX7_manyParts_73 rfl (lv_at hl 0 rfl) ?_
  exact fin _ _ _ (Option.some.inj hR) dX7_manyParts_74
def jf_Mo_sizeOf_b33 (self : Int32 → Int32 → Option Int32) (v_squares : Int32) (v_part : Nat → Int32) (z1 : Int32) (z3 : Int32) (s0 : Int32) (s1 : Int32) : Option Int32 :=
  jlet (s0 + s1) (fun y2_1 => self y2_1 (z3 + 1))
def jf_Mo_sizeOf_L4 (v_squares : Int32) (v_part : Nat → Int32) (z1 : Int32) : Nat → Int32 → Int32 → Option Int32
  | 0, _, _ => none
  | n + 1, z2, z3 =>
    if v_squares ≤ z3 then (some z2) else (if jin z3 5 = true then (if jin z1 5 = true then (if v_part z3.toNatClampNeg = v_part z1.toNatClampNeg then (jf_Mo_sizeOf_b33 (jf_Mo_sizeOf_L4 v_squares v_part z1 n) v_squares v_part z1 z3 z2 1) else (jf_Mo_sizeOf_b33 (jf_Mo_sizeOf_L4 v_squares v_part z1 n) v_squares v_part z1 z3 z2 0)) else none) else none)
def jf_Mo_sizeOf (v_squares : Int32) (v_part : Nat → Int32) (x1 : Int32) : Option Int32 :=
  Option.bind (jf_Mo_sizeOf_L4 v_squares v_part x1 jF 0 0) (fun q_1 => some q_1)
abbrev jr_Mo_sizeOf : Room := { frames := 0, cells := 0, slots := 0, locals := 0 }
set_option maxRecDepth 100000 in
set_option maxHeartbeats 4000000 in
theorem jc_Mo_sizeOf (l : Launch) (g : jG) (a_this a_this_isBlock a_this_isSeen a_this_lampX a_this_lampY a_this_right a_this_up a_this_keptRight a_this_keptUp a_this_name a_this_part a_this_codes a_this_above a_this_below a_this_length a_this_isMet : Nat) (v_thrown : Int32) (v_isBounce : Int32) (v_lamps : Int32) (v_squares : Int32) (v_intervals : Int32) (v_isBlock : Nat → Int32) (v_isSeen : Nat → Int32) (v_lampX : Nat → Int32) (v_lampY : Nat → Int32) (v_right : Nat → Int32) (v_up : Nat → Int32) (v_keptRight : Nat → Int32) (v_keptUp : Nat → Int32) (v_name : Nat → Int32) (v_part : Nat → Int32) (v_codes : Nat → Int32) (v_above : Nat → Int32) (v_below : Nat → Int32) (v_length : Nat → Int32) (v_isMet : Nat → Int32) (x1 : Int32) (R : Int32) (hR : jf_Mo_sizeOf v_squares v_part x1 = some R) : Met l yX7_sizeOf wsX7_sizeOf jr_Mo_sizeOf (jPr g [.ref a_this, .int x1] (jw_Mo g a_this a_this_isBlock a_this_isSeen a_this_lampX a_this_lampY a_this_right a_this_up a_this_keptRight a_this_keptUp a_this_name a_this_part a_this_codes a_this_above a_this_below a_this_length a_this_isMet v_thrown v_isBounce v_lamps v_squares v_intervals v_isBlock v_isSeen v_lampX v_lampY v_right v_up v_keptRight v_keptUp v_name v_part v_codes v_above v_below v_length v_isMet)) (vp_Si (fun r => r = R)) 0 0 (fun _ => False) := by
  refine jm_ri (cc := cX7_sizeOf) (maxL := 4) (by decide +kernel) rfl (Nat.le_of_ble_eq_true rfl) ?_
  intro p e s m below meth c Q hx hb hml hown hts hK hP fin ls hl
  have hl : lv_has ls 4 [(0, .ref a_this), (1, .int x1)] := hl
  have hown : s.vm.findClass RX7 = some m.cls := hown
  have w_X7 : ∀ w ∈ u_ws RX7 TX7 20, w ∈ wsX7_sizeOf := by decide +kernel
  have w_f23 := hts (.fieldLink RX7 23 "BilliardryModel" "squares" "I") (by decide +kernel)
  have w_f42 := hts (.fieldLink RX7 42 "BilliardryModel" "part" "[I") (by decide +kernel)
  have L4 : ∀ (n : Nat) (z1 : Int32) (z2 : Int32) (z3 : Int32) (ls : Array Slot), lv_has ls 4 [(0, .ref a_this), (1, .int z1), (2, .int z2), (3, .int z3)] → ∀ q, jf_Mo_sizeOf_L4 v_squares v_part z1 n z2 z3 = some q → (∀ ls : Array Slot, lv_has ls 4 [(2, .int q)] → W p l e jr_Mo_sizeOf s m ([.ref a_this, .int x1] : List Value).toArray below meth c s.heap [] 0 0 Q (F0 m 41 ls [])) → W p l e jr_Mo_sizeOf s m ([.ref a_this, .int x1] : List Value).toArray below meth c s.heap [] 0 0 Q (F0 m 4 ls []) := by
    intro n z1
    induction n with
    | zero =>
      intro z2 z3 ls hl q hR k
      cases hR
    | succ n ih =>
      have J33 : ∀ (z3 : Int32) (s0 : Int32) (s1 : Int32) (ls : Array Slot), lv_has ls 4 [(0, .ref a_this), (1, .int z1), (3, .int z3)] → ∀ q, jf_Mo_sizeOf_b33 (jf_Mo_sizeOf_L4 v_squares v_part z1 n) v_squares v_part z1 z3 s0 s1 = some q → (∀ ls : Array Slot, lv_has ls 4 [(2, .int q)] → W p l e jr_Mo_sizeOf s m ([.ref a_this, .int x1] : List Value).toArray below meth c s.heap [] 0 0 Q (F0 m 41 ls [])) → W p l e jr_Mo_sizeOf s m ([.ref a_this, .int x1] : List Value).toArray below meth c s.heap [] 0 0 Q (F0 m 33 ls [.int s1, .int s0]) := by
        intro z3 s0 s1 ls hl q hR k
        rw [jf_Mo_sizeOf_b33] at hR
        refine lv_iadd hx hb dX7_sizeOf_33 ?_
        refine jlet_i hR (fun y2_1 hR => ?_)
        try dsimp only at hR
        refine lv_istore_n (lv' := [(2, .int y2_1), (0, .ref a_this), (1, .int z1), (3, .int z3)]) hx hb dX7_sizeOf_34 rfl hl (by decide) rfl (fun ls hl => ?_)
        refine lv_iinc (v := z3 + 1) (lv' := [(3, .int (z3 + 1)), (2, .int y2_1), (0, .ref a_this), (1, .int z1)]) hx hb dX7_sizeOf_35 hl (k := 3) rfl (by first | rfl | decide) (by decide) rfl (fun ls hl => ?_)
        refine lv_goto (tgt := 4) hx hb dX7_sizeOf_38 (by decide) ?_
        exact ih y2_1 (z3 + 1) _ (lv_sub hl [2, 3, 1, 0] rfl) _ hR k
      intro z2 z3 ls hl q hR k
      rw [jf_Mo_sizeOf_L4] at hR
      refine lv_iload_n hx hb dX7_sizeOf_4 rfl (lv_at hl 3 rfl) ?_
      refine lv_aload_n hx hb dX7_sizeOf_5 rfl (lv_at hl 0 rfl) ?_
      refine va_get (D := g.1) (ci := 7) (v := .int v_squares) (C := RX7) (T := TX7) (N := 20) hx hb hts w_X7 hown hK.1 hP 0 rfl rfl 7 (by decide) w_f23 (fun _ h9 => h9) rfl dX7_sizeOf_6 ?_
      refine lv_icmp_ge (tgt := 41) hx hb dX7_sizeOf_9 (by decide) (fun c_1 => ?_) (fun c_1 => ?_)
      · replace hR := Eq.trans (Eq.symm (if_pos c_1)) hR
        cases hR
        exact k _ (lv_sub hl [2] rfl)
      · replace hR := Eq.trans (Eq.symm (if_neg c_1)) hR
        refine lv_iload_n hx hb dX7_sizeOf_12 rfl (lv_at hl 2 rfl) ?_
        refine lv_aload_n hx hb dX7_sizeOf_13 rfl (lv_at hl 0 rfl) ?_
        refine va_get (D := g.1) (ci := 7) (v := .ref a_this_part) (C := RX7) (T := TX7) (N := 20) hx hb hts w_X7 hown hK.1 hP 0 rfl rfl 13 (by decide) w_f42 (fun _ h9 => h9) rfl dX7_sizeOf_14 ?_
        refine lv_iload_n hx hb dX7_sizeOf_17 rfl (lv_at hl 3 rfl) ?_
        by_cases c_2 : jin z3 5 = true
        case neg => replace hR := Eq.trans (Eq.symm (if_neg c_2)) hR; cases hR
        replace hR := Eq.trans (Eq.symm (if_pos c_2)) hR
        refine va_iald hx hb hK.1 hP 10 0 rfl rfl (jin_in c_2) dX7_sizeOf_18 ?_
        refine lv_aload_n hx hb dX7_sizeOf_19 rfl (lv_at hl 0 rfl) ?_
        refine va_get (D := g.1) (ci := 7) (v := .ref a_this_part) (C := RX7) (T := TX7) (N := 20) hx hb hts w_X7 hown hK.1 hP 0 rfl rfl 13 (by decide) w_f42 (fun _ h9 => h9) rfl dX7_sizeOf_20 ?_
        refine lv_iload_n hx hb dX7_sizeOf_23 rfl (lv_at hl 1 rfl) ?_
        by_cases c_3 : jin z1 5 = true
        case neg => replace hR := Eq.trans (Eq.symm (if_neg c_3)) hR; cases hR
        replace hR := Eq.trans (Eq.symm (if_pos c_3)) hR
        refine va_iald hx hb hK.1 hP 10 0 rfl rfl (jin_in c_3) dX7_sizeOf_24 ?_
        refine lv_icmp_ne (tgt := 32) hx hb dX7_sizeOf_25 (by decide) (fun c_4 => ?_) (fun c_4 => ?_)
        · replace hR := Eq.trans (Eq.symm (if_neg c_4)) hR
          refine lv_iconst (v := 0) hx hb dX7_sizeOf_32 (by decide) ?_
          exact J33 z3 z2 0 _ (lv_sub hl [0, 1, 3] rfl) _ hR k
        · replace hR := Eq.trans (Eq.symm (if_pos c_4)) hR
          refine lv_iconst (v := 1) hx hb dX7_sizeOf_28 (by decide) ?_
          refine lv_goto (tgt := 33) hx hb dX7_sizeOf_29 (by decide) ?_
          exact J33 z3 z2 1 _ (lv_sub hl [0, 1, 3] rfl) _ hR k
  rw [jf_Mo_sizeOf] at hR
  refine lv_iconst (v := 0) hx hb dX7_sizeOf_0 (by decide) ?_
  refine lv_istore_n (lv' := [(2, .int 0), (0, .ref a_this), (1, .int x1)]) hx hb dX7_sizeOf_1 rfl hl (by decide) rfl (fun ls hl => ?_)
  refine lv_iconst (v := 0) hx hb dX7_sizeOf_2 (by decide) ?_
  refine lv_istore_n (lv' := [(3, .int 0), (2, .int 0), (0, .ref a_this), (1, .int x1)]) hx hb dX7_sizeOf_3 rfl hl (by decide) rfl (fun ls hl => ?_)
  obtain ⟨q_1, hq_1, hR⟩ := jbind hR
  try dsimp only at hR
  refine L4 jF x1 0 0 _ (lv_sub hl [2, 3, 1, 0] rfl) _ hq_1 (fun ls hl => ?_)
  refine lv_iload_n hx hb dX7_sizeOf_41 rfl (lv_at hl 0 rfl) ?_
  exact fin _ _ _ (Option.some.inj hR) dX7_sizeOf_42
def jf_Mo_cones_L6 (v_squares : Int32) (v_right : Nat → Int32) (v_up : Nat → Int32) : Nat → Int32 → (Nat → Int32) → Option (Nat → Int32)
  | 0, _, _ => none
  | n + 1, z1, v_part =>
    if v_squares ≤ z1 then (some v_part) else (Option.bind (jf_Mo_round v_squares v_right v_up z1) (fun q_2 => Option.bind (jf_Mo_joins v_squares v_part z1 q_2) (fun q_3 => (jf_Mo_cones_L6 v_squares v_right v_up n) (z1 + 1) q_3)))
def jf_Mo_cones (v_squares : Int32) (v_right : Nat → Int32) (v_up : Nat → Int32) (v_part : Nat → Int32) : Option (Int32 × (Nat → Int32)) :=
  Option.bind (jf_Mo_parts v_squares v_part) (fun q_1 => Option.bind (jf_Mo_cones_L6 v_squares v_right v_up jF 0 q_1) (fun q_4 => Option.bind (jf_Mo_manyParts v_squares q_4) (fun q_5 => some (q_5, q_4))))
abbrev jr_Mo_cones : Room := { frames := 2, cells := 0, slots := 0, locals := 44 }
set_option maxRecDepth 100000 in
set_option maxHeartbeats 4000000 in
theorem jc_Mo_cones (l : Launch) (g : jG) (a_this a_this_isBlock a_this_isSeen a_this_lampX a_this_lampY a_this_right a_this_up a_this_keptRight a_this_keptUp a_this_name a_this_part a_this_codes a_this_above a_this_below a_this_length a_this_isMet : Nat) (v_thrown : Int32) (v_isBounce : Int32) (v_lamps : Int32) (v_squares : Int32) (v_intervals : Int32) (v_isBlock : Nat → Int32) (v_isSeen : Nat → Int32) (v_lampX : Nat → Int32) (v_lampY : Nat → Int32) (v_right : Nat → Int32) (v_up : Nat → Int32) (v_keptRight : Nat → Int32) (v_keptUp : Nat → Int32) (v_name : Nat → Int32) (v_part : Nat → Int32) (v_codes : Nat → Int32) (v_above : Nat → Int32) (v_below : Nat → Int32) (v_length : Nat → Int32) (v_isMet : Nat → Int32) (R : Int32 × (Nat → Int32)) (hR : jf_Mo_cones v_squares v_right v_up v_part = some R) (sz : Nat) : Met l yX7_cones wsX7_cones jr_Mo_cones (jPw g [.ref a_this] (jw_Mo g a_this a_this_isBlock a_this_isSeen a_this_lampX a_this_lampY a_this_right a_this_up a_this_keptRight a_this_keptUp a_this_name a_this_part a_this_codes a_this_above a_this_below a_this_length a_this_isMet v_thrown v_isBounce v_lamps v_squares v_intervals v_isBlock v_isSeen v_lampX v_lampY v_right v_up v_keptRight v_keptUp v_name v_part v_codes v_above v_below v_length v_isMet) sz) (jQi g R.1 (jw_Mo g a_this a_this_isBlock a_this_isSeen a_this_lampX a_this_lampY a_this_right a_this_up a_this_keptRight a_this_keptUp a_this_name a_this_part a_this_codes a_this_above a_this_below a_this_length a_this_isMet v_thrown v_isBounce v_lamps v_squares v_intervals v_isBlock v_isSeen v_lampX v_lampY v_right v_up v_keptRight v_keptUp v_name R.2 v_codes v_above v_below v_length v_isMet) (va_A (jw_Mo g a_this a_this_isBlock a_this_isSeen a_this_lampX a_this_lampY a_this_right a_this_up a_this_keptRight a_this_keptUp a_this_name a_this_part a_this_codes a_this_above a_this_below a_this_length a_this_isMet v_thrown v_isBounce v_lamps v_squares v_intervals v_isBlock v_isSeen v_lampX v_lampY v_right v_up v_keptRight v_keptUp v_name v_part v_codes v_above v_below v_length v_isMet) sz)) 0 0 (va_A (jw_Mo g a_this a_this_isBlock a_this_isSeen a_this_lampX a_this_lampY a_this_right a_this_up a_this_keptRight a_this_keptUp a_this_name a_this_part a_this_codes a_this_above a_this_below a_this_length a_this_isMet v_thrown v_isBounce v_lamps v_squares v_intervals v_isBlock v_isSeen v_lampX v_lampY v_right v_up v_keptRight v_keptUp v_name v_part v_codes v_above v_below v_length v_isMet) sz) := by
  refine jm_wi (cc := cX7_cones) (maxL := 2) (by decide +kernel) rfl (Nat.le_of_ble_eq_true rfl) ?_
  intro p e s m below meth c A Q hx hb hml hown hts hK hP hD hA hS fin ls hl
  have hl : lv_has ls 2 [(0, .ref a_this)] := hl
  have hown : s.vm.findClass RX7 = some m.cls := hown
  have w_X7 : ∀ w ∈ u_ws RX7 TX7 20, w ∈ wsX7_cones := by decide +kernel
  have w_f23 := hts (.fieldLink RX7 23 "BilliardryModel" "squares" "I") (by decide +kernel)
  have L6 : ∀ (n : Nat) (z1 : Int32) (v_part : Nat → Int32) (H : Heap) (locs : List Loc), va_P g.1 vwCl (jw_Mo g a_this a_this_isBlock a_this_isSeen a_this_lampX a_this_lampY a_this_right a_this_up a_this_keptRight a_this_keptUp a_this_name a_this_part a_this_codes a_this_above a_this_below a_this_length a_this_isMet v_thrown v_isBounce v_lamps v_squares v_intervals v_isBlock v_isSeen v_lampX v_lampY v_right v_up v_keptRight v_keptUp v_name v_part v_codes v_above v_below v_length v_isMet) H → va_S A s.heap H locs → ∀ (ls : Array Slot), lv_has ls 2 [(0, .ref a_this), (1, .int z1)] → ∀ q, jf_Mo_cones_L6 v_squares v_right v_up n z1 v_part = some q → (∀ (H : Heap) (locs : List Loc), va_P g.1 vwCl (jw_Mo g a_this a_this_isBlock a_this_isSeen a_this_lampX a_this_lampY a_this_right a_this_up a_this_keptRight a_this_keptUp a_this_name a_this_part a_this_codes a_this_above a_this_below a_this_length a_this_isMet v_thrown v_isBounce v_lamps v_squares v_intervals v_isBlock v_isSeen v_lampX v_lampY v_right v_up v_keptRight v_keptUp v_name q v_codes v_above v_below v_length v_isMet) H → va_S A s.heap H locs → ∀ ls : Array Slot, lv_has ls 2 [(0, .ref a_this)] → W p l e jr_Mo_cones s m ([.ref a_this] : List Value).toArray below meth c H locs 0 0 Q (F0 m 30 ls [])) → W p l e jr_Mo_cones s m ([.ref a_this] : List Value).toArray below meth c H locs 0 0 Q (F0 m 6 ls []) := by
    intro n
    induction n with
    | zero =>
      intro z1 v_part H locs hP hS ls hl q hR k
      cases hR
    | succ n ih =>
      intro z1 v_part H locs hP hS ls hl q hR k
      rw [jf_Mo_cones_L6] at hR
      refine lv_iload_n hx hb dX7_cones_6 rfl (lv_at hl 1 rfl) ?_
      refine lv_aload_n hx hb dX7_cones_7 rfl (lv_at hl 0 rfl) ?_
      refine va_get (D := g.1) (ci := 7) (v := .int v_squares) (C := RX7) (T := TX7) (N := 20) hx hb hts w_X7 hown hK.1 hP 0 rfl rfl 7 (by decide) w_f23 (fun _ h9 => h9) rfl dX7_cones_8 ?_
      refine lv_icmp_ge (tgt := 30) hx hb dX7_cones_11 (by decide) (fun c_1 => ?_) (fun c_1 => ?_)
      · replace hR := Eq.trans (Eq.symm (if_pos c_1)) hR
        cases hR
        exact k _ _ hP hS _ (lv_sub hl [0] rfl)
      · replace hR := Eq.trans (Eq.symm (if_neg c_1)) hR
        refine lv_aload_n hx hb dX7_cones_14 rfl (lv_at hl 0 rfl) ?_
        refine lv_iload_n hx hb dX7_cones_15 rfl (lv_at hl 1 rfl) ?_
        refine lv_aload_n hx hb dX7_cones_16 rfl (lv_at hl 0 rfl) ?_
        refine lv_iload_n hx hb dX7_cones_17 rfl (lv_at hl 1 rfl) ?_
        obtain ⟨q_2, hq_2, hR⟩ := jbind hR
        try dsimp only at hR
        refine jcall_ri (va_runV (As := [.int z1]) (rest := [.int z1, .ref a_this]) ⟨hx, hb, hml, hown, hts⟩ (jc_Mo_round l g a_this a_this_isBlock a_this_isSeen a_this_lampX a_this_lampY a_this_right a_this_up a_this_keptRight a_this_keptUp a_this_name a_this_part a_this_codes a_this_above a_this_below a_this_length a_this_isMet v_thrown v_isBounce v_lamps v_squares v_intervals v_isBlock v_isSeen v_lampX v_lampY v_right v_up v_keptRight v_keptUp v_name v_part v_codes v_above v_below v_length v_isMet z1 _ hq_2) (cwV 1 hts gX7_cones_X7_round rfl rfl rfl (by decide +kernel) ⟨Nat.le_of_ble_eq_true rfl, Nat.le_of_ble_eq_true rfl⟩) (jpr_v hK hP (ci := 7) (q0 := 0) rfl rfl) rfl rfl hl.1 rfl (lv_room (Nat.le_of_ble_eq_true rfl)) dX7_cones_18 ⟨Nat.zero_le _, Nat.zero_le _⟩) ?_
        obtain ⟨q_3, hq_3, hR⟩ := jbind hR
        try dsimp only at hR
        refine jcall_wv (ws' := jw_Mo g a_this a_this_isBlock a_this_isSeen a_this_lampX a_this_lampY a_this_right a_this_up a_this_keptRight a_this_keptUp a_this_name a_this_part a_this_codes a_this_above a_this_below a_this_length a_this_isMet v_thrown v_isBounce v_lamps v_squares v_intervals v_isBlock v_isSeen v_lampX v_lampY v_right v_up v_keptRight v_keptUp v_name q_3 v_codes v_above v_below v_length v_isMet) (va_runV (As := [.int z1, .int q_2]) (rest := []) ⟨hx, hb, hml, hown, hts⟩ (jc_Mo_joins l g a_this a_this_isBlock a_this_isSeen a_this_lampX a_this_lampY a_this_right a_this_up a_this_keptRight a_this_keptUp a_this_name a_this_part a_this_codes a_this_above a_this_below a_this_length a_this_isMet v_thrown v_isBounce v_lamps v_squares v_intervals v_isBlock v_isSeen v_lampX v_lampY v_right v_up v_keptRight v_keptUp v_name v_part v_codes v_above v_below v_length v_isMet z1 q_2 _ hq_3 _) (cwV 2 hts gX7_cones_X7_joins rfl rfl rfl (by decide +kernel) ⟨Nat.le_of_ble_eq_true rfl, Nat.le_of_ble_eq_true rfl⟩) (jpw_v hK hP (jD_to hD rfl) (ci := 7) (q0 := 0) rfl rfl) rfl rfl hl.1 rfl (lv_room (Nat.le_of_ble_eq_true rfl)) dX7_cones_21 ⟨Nat.zero_le _, Nat.zero_le _⟩) hP (jD_to hD rfl) hS hA [0, 1, 2, 3, 4, 5, 6, 7, 8, 9, 10, 11, 12, 13, 14, 15] [] [0, 1, 2, 3, 4, 5, 6, 7, 8, 9, 10, 11, 12, 13, 14, 15] rfl (by decide) rfl (fun H locs hP hS => ?_)
        refine lv_iinc (v := z1 + 1) (lv' := [(1, .int (z1 + 1)), (0, .ref a_this)]) hx hb dX7_cones_24 hl (k := 1) rfl (by first | rfl | decide) (by decide) rfl (fun ls hl => ?_)
        refine lv_goto (tgt := 6) hx hb dX7_cones_27 (by decide) ?_
        exact ih (z1 + 1) q_3 _ _ hP hS _ (lv_sub hl [1, 0] rfl) _ hR k
  rw [jf_Mo_cones] at hR
  refine lv_aload_n hx hb dX7_cones_0 rfl (lv_at hl 0 rfl) ?_
  obtain ⟨q_1, hq_1, hR⟩ := jbind hR
  try dsimp only at hR
  refine jcall_wv (ws' := jw_Mo g a_this a_this_isBlock a_this_isSeen a_this_lampX a_this_lampY a_this_right a_this_up a_this_keptRight a_this_keptUp a_this_name a_this_part a_this_codes a_this_above a_this_below a_this_length a_this_isMet v_thrown v_isBounce v_lamps v_squares v_intervals v_isBlock v_isSeen v_lampX v_lampY v_right v_up v_keptRight v_keptUp v_name q_1 v_codes v_above v_below v_length v_isMet) (va_runV (As := []) (rest := []) ⟨hx, hb, hml, hown, hts⟩ (jc_Mo_parts l g a_this a_this_isBlock a_this_isSeen a_this_lampX a_this_lampY a_this_right a_this_up a_this_keptRight a_this_keptUp a_this_name a_this_part a_this_codes a_this_above a_this_below a_this_length a_this_isMet v_thrown v_isBounce v_lamps v_squares v_intervals v_isBlock v_isSeen v_lampX v_lampY v_right v_up v_keptRight v_keptUp v_name v_part v_codes v_above v_below v_length v_isMet _ hq_1 _) (cwV 0 hts gX7_cones_X7_parts rfl rfl rfl (by decide +kernel) ⟨Nat.le_of_ble_eq_true rfl, Nat.le_of_ble_eq_true rfl⟩) (jpw_v hK hP (jD_to hD rfl) (ci := 7) (q0 := 0) rfl rfl) rfl rfl hl.1 rfl (lv_room (Nat.le_of_ble_eq_true rfl)) dX7_cones_1 ⟨Nat.zero_le _, Nat.zero_le _⟩) hP (jD_to hD rfl) hS hA [0, 1, 2, 3, 4, 5, 6, 7, 8, 9, 10, 11, 12, 13, 14, 15] [] [0, 1, 2, 3, 4, 5, 6, 7, 8, 9, 10, 11, 12, 13, 14, 15] rfl (by decide) rfl (fun H locs hP hS => ?_)
  refine lv_iconst (v := 0) hx hb dX7_cones_4 (by decide) ?_
  refine lv_istore_n (lv' := [(1, .int 0), (0, .ref a_this)]) hx hb dX7_cones_5 rfl hl (by decide) rfl (fun ls hl => ?_)
  obtain ⟨q_4, hq_4, hR⟩ := jbind hR
  try dsimp only at hR
  refine L6 jF 0 q_1 _ _ hP hS _ (lv_sub hl [1, 0] rfl) _ hq_4 (fun H locs hP hS ls hl => ?_)
  refine lv_aload_n hx hb dX7_cones_30 rfl (lv_at hl 0 rfl) ?_
  obtain ⟨q_5, hq_5, hR⟩ := jbind hR
  try dsimp only at hR
  refine jcall_ri (va_runV (As := []) (rest := []) ⟨hx, hb, hml, hown, hts⟩ (jc_Mo_manyParts l g a_this a_this_isBlock a_this_isSeen a_this_lampX a_this_lampY a_this_right a_this_up a_this_keptRight a_this_keptUp a_this_name a_this_part a_this_codes a_this_above a_this_below a_this_length a_this_isMet v_thrown v_isBounce v_lamps v_squares v_intervals v_isBlock v_isSeen v_lampX v_lampY v_right v_up v_keptRight v_keptUp v_name q_4 v_codes v_above v_below v_length v_isMet _ hq_5) (cwV 0 hts gX7_cones_X7_manyParts rfl rfl rfl (by decide +kernel) ⟨Nat.le_of_ble_eq_true rfl, Nat.le_of_ble_eq_true rfl⟩) (jpr_v hK hP (ci := 7) (q0 := 0) rfl rfl) rfl rfl hl.1 rfl (lv_room (Nat.le_of_ble_eq_true rfl)) dX7_cones_31 ⟨Nat.zero_le _, Nat.zero_le _⟩) ?_
  obtain rfl := (Option.some.inj hR)
  exact fin _ _ _ _ _ rfl hP hS dX7_cones_34
def jf_Mo_pieces (v_squares : Int32) (v_right : Nat → Int32) (v_up : Nat → Int32) (v_part : Nat → Int32) : Option (Int32 × (Nat → Int32)) :=
  Option.bind (jf_Mo_findsPieces v_squares v_right v_up v_part) (fun q_1 => Option.bind (jf_Mo_manyParts v_squares q_1) (fun q_2 => some (q_2, q_1)))
abbrev jr_Mo_pieces : Room := { frames := 2, cells := 0, slots := 0, locals := 46 }
set_option maxRecDepth 100000 in
set_option maxHeartbeats 4000000 in
theorem jc_Mo_pieces (l : Launch) (g : jG) (a_this a_this_isBlock a_this_isSeen a_this_lampX a_this_lampY a_this_right a_this_up a_this_keptRight a_this_keptUp a_this_name a_this_part a_this_codes a_this_above a_this_below a_this_length a_this_isMet : Nat) (v_thrown : Int32) (v_isBounce : Int32) (v_lamps : Int32) (v_squares : Int32) (v_intervals : Int32) (v_isBlock : Nat → Int32) (v_isSeen : Nat → Int32) (v_lampX : Nat → Int32) (v_lampY : Nat → Int32) (v_right : Nat → Int32) (v_up : Nat → Int32) (v_keptRight : Nat → Int32) (v_keptUp : Nat → Int32) (v_name : Nat → Int32) (v_part : Nat → Int32) (v_codes : Nat → Int32) (v_above : Nat → Int32) (v_below : Nat → Int32) (v_length : Nat → Int32) (v_isMet : Nat → Int32) (R : Int32 × (Nat → Int32)) (hR : jf_Mo_pieces v_squares v_right v_up v_part = some R) (sz : Nat) : Met l yX7_pieces wsX7_pieces jr_Mo_pieces (jPw g [.ref a_this] (jw_Mo g a_this a_this_isBlock a_this_isSeen a_this_lampX a_this_lampY a_this_right a_this_up a_this_keptRight a_this_keptUp a_this_name a_this_part a_this_codes a_this_above a_this_below a_this_length a_this_isMet v_thrown v_isBounce v_lamps v_squares v_intervals v_isBlock v_isSeen v_lampX v_lampY v_right v_up v_keptRight v_keptUp v_name v_part v_codes v_above v_below v_length v_isMet) sz) (jQi g R.1 (jw_Mo g a_this a_this_isBlock a_this_isSeen a_this_lampX a_this_lampY a_this_right a_this_up a_this_keptRight a_this_keptUp a_this_name a_this_part a_this_codes a_this_above a_this_below a_this_length a_this_isMet v_thrown v_isBounce v_lamps v_squares v_intervals v_isBlock v_isSeen v_lampX v_lampY v_right v_up v_keptRight v_keptUp v_name R.2 v_codes v_above v_below v_length v_isMet) (va_A (jw_Mo g a_this a_this_isBlock a_this_isSeen a_this_lampX a_this_lampY a_this_right a_this_up a_this_keptRight a_this_keptUp a_this_name a_this_part a_this_codes a_this_above a_this_below a_this_length a_this_isMet v_thrown v_isBounce v_lamps v_squares v_intervals v_isBlock v_isSeen v_lampX v_lampY v_right v_up v_keptRight v_keptUp v_name v_part v_codes v_above v_below v_length v_isMet) sz)) 0 0 (va_A (jw_Mo g a_this a_this_isBlock a_this_isSeen a_this_lampX a_this_lampY a_this_right a_this_up a_this_keptRight a_this_keptUp a_this_name a_this_part a_this_codes a_this_above a_this_below a_this_length a_this_isMet v_thrown v_isBounce v_lamps v_squares v_intervals v_isBlock v_isSeen v_lampX v_lampY v_right v_up v_keptRight v_keptUp v_name v_part v_codes v_above v_below v_length v_isMet) sz) := by
  refine jm_wi (cc := cX7_pieces) (maxL := 1) (by decide +kernel) rfl (Nat.le_of_ble_eq_true rfl) ?_
  intro p e s m below meth c A Q hx hb hml hown hts hK hP hD hA hS fin ls hl
  have hl : lv_has ls 1 [(0, .ref a_this)] := hl
  have hown : s.vm.findClass RX7 = some m.cls := hown
  rw [jf_Mo_pieces] at hR
  refine lv_aload_n hx hb dX7_pieces_0 rfl (lv_at hl 0 rfl) ?_
  obtain ⟨q_1, hq_1, hR⟩ := jbind hR
  try dsimp only at hR
  refine jcall_wv (ws' := jw_Mo g a_this a_this_isBlock a_this_isSeen a_this_lampX a_this_lampY a_this_right a_this_up a_this_keptRight a_this_keptUp a_this_name a_this_part a_this_codes a_this_above a_this_below a_this_length a_this_isMet v_thrown v_isBounce v_lamps v_squares v_intervals v_isBlock v_isSeen v_lampX v_lampY v_right v_up v_keptRight v_keptUp v_name q_1 v_codes v_above v_below v_length v_isMet) (va_runV (As := []) (rest := []) ⟨hx, hb, hml, hown, hts⟩ (jc_Mo_findsPieces l g a_this a_this_isBlock a_this_isSeen a_this_lampX a_this_lampY a_this_right a_this_up a_this_keptRight a_this_keptUp a_this_name a_this_part a_this_codes a_this_above a_this_below a_this_length a_this_isMet v_thrown v_isBounce v_lamps v_squares v_intervals v_isBlock v_isSeen v_lampX v_lampY v_right v_up v_keptRight v_keptUp v_name v_part v_codes v_above v_below v_length v_isMet _ hq_1 _) (cwV 0 hts gX7_pieces_X7_findsPieces rfl rfl rfl (by decide +kernel) ⟨Nat.le_of_ble_eq_true rfl, Nat.le_of_ble_eq_true rfl⟩) (jpw_v hK hP (jD_to hD rfl) (ci := 7) (q0 := 0) rfl rfl) rfl rfl hl.1 rfl (lv_room (Nat.le_of_ble_eq_true rfl)) dX7_pieces_1 ⟨Nat.zero_le _, Nat.zero_le _⟩) hP (jD_to hD rfl) hS hA [0, 1, 2, 3, 4, 5, 6, 7, 8, 9, 10, 11, 12, 13, 14, 15] [] [0, 1, 2, 3, 4, 5, 6, 7, 8, 9, 10, 11, 12, 13, 14, 15] rfl (by decide) rfl (fun H locs hP hS => ?_)
  refine lv_aload_n hx hb dX7_pieces_4 rfl (lv_at hl 0 rfl) ?_
  obtain ⟨q_2, hq_2, hR⟩ := jbind hR
  try dsimp only at hR
  refine jcall_ri (va_runV (As := []) (rest := []) ⟨hx, hb, hml, hown, hts⟩ (jc_Mo_manyParts l g a_this a_this_isBlock a_this_isSeen a_this_lampX a_this_lampY a_this_right a_this_up a_this_keptRight a_this_keptUp a_this_name a_this_part a_this_codes a_this_above a_this_below a_this_length a_this_isMet v_thrown v_isBounce v_lamps v_squares v_intervals v_isBlock v_isSeen v_lampX v_lampY v_right v_up v_keptRight v_keptUp v_name q_1 v_codes v_above v_below v_length v_isMet _ hq_2) (cwV 0 hts gX7_pieces_X7_manyParts rfl rfl rfl (by decide +kernel) ⟨Nat.le_of_ble_eq_true rfl, Nat.le_of_ble_eq_true rfl⟩) (jpr_v hK hP (ci := 7) (q0 := 0) rfl rfl) rfl rfl hl.1 rfl (lv_room (Nat.le_of_ble_eq_true rfl)) dX7_pieces_5 ⟨Nat.zero_le _, Nat.zero_le _⟩) ?_
  obtain rfl := (Option.some.inj hR)
  exact fin _ _ _ _ _ rfl hP hS dX7_pieces_8
def jf_Mo_shears_L2 (v_squares : Int32) (v_right : Nat → Int32) (v_up : Nat → Int32) : Nat → Int32 → (Nat → Int32) → Option (Nat → Int32)
  | 0, _, _ => none
  | n + 1, z1, v_part =>
    if v_squares ≤ z1 then (some v_part) else (if jin z1 5 = true then (if jin (v_right z1.toNatClampNeg) 5 = true then (if jin z1 5 = true then ((jf_Mo_shears_L2 v_squares v_right v_up n) (z1 + 1) (upd v_part z1.toNatClampNeg (v_up (v_right z1.toNatClampNeg).toNatClampNeg))) else none) else none) else none)
def jf_Mo_shears_L35 (v_squares : Int32) (v_part : Nat → Int32) : Nat → Int32 → (Nat → Int32) → Option (Nat → Int32)
  | 0, _, _ => none
  | n + 1, z1, v_up =>
    if v_squares ≤ z1 then (some v_up) else (if jin z1 5 = true then (if jin z1 5 = true then ((jf_Mo_shears_L35 v_squares v_part n) (z1 + 1) (upd v_up z1.toNatClampNeg (v_part z1.toNatClampNeg))) else none) else none)
def jf_Mo_shears (v_squares : Int32) (v_right : Nat → Int32) (v_up : Nat → Int32) (v_part : Nat → Int32) : Option ((Nat → Int32) × (Nat → Int32)) :=
  Option.bind (jf_Mo_shears_L2 v_squares v_right v_up jF 0 v_part) (fun q_1 => Option.bind (jf_Mo_shears_L35 v_squares q_1 jF 0 v_up) (fun q_2 => some (q_2, q_1)))
abbrev jr_Mo_shears : Room := { frames := 0, cells := 0, slots := 0, locals := 0 }
set_option maxRecDepth 100000 in
set_option maxHeartbeats 4000000 in
theorem jc_Mo_shears (l : Launch) (g : jG) (a_this a_this_isBlock a_this_isSeen a_this_lampX a_this_lampY a_this_right a_this_up a_this_keptRight a_this_keptUp a_this_name a_this_part a_this_codes a_this_above a_this_below a_this_length a_this_isMet : Nat) (v_thrown : Int32) (v_isBounce : Int32) (v_lamps : Int32) (v_squares : Int32) (v_intervals : Int32) (v_isBlock : Nat → Int32) (v_isSeen : Nat → Int32) (v_lampX : Nat → Int32) (v_lampY : Nat → Int32) (v_right : Nat → Int32) (v_up : Nat → Int32) (v_keptRight : Nat → Int32) (v_keptUp : Nat → Int32) (v_name : Nat → Int32) (v_part : Nat → Int32) (v_codes : Nat → Int32) (v_above : Nat → Int32) (v_below : Nat → Int32) (v_length : Nat → Int32) (v_isMet : Nat → Int32) (R : (Nat → Int32) × (Nat → Int32)) (hR : jf_Mo_shears v_squares v_right v_up v_part = some R) (sz : Nat) : Met l yX7_shears wsX7_shears jr_Mo_shears (jPw g [.ref a_this] (jw_Mo g a_this a_this_isBlock a_this_isSeen a_this_lampX a_this_lampY a_this_right a_this_up a_this_keptRight a_this_keptUp a_this_name a_this_part a_this_codes a_this_above a_this_below a_this_length a_this_isMet v_thrown v_isBounce v_lamps v_squares v_intervals v_isBlock v_isSeen v_lampX v_lampY v_right v_up v_keptRight v_keptUp v_name v_part v_codes v_above v_below v_length v_isMet) sz) (jQv g (jw_Mo g a_this a_this_isBlock a_this_isSeen a_this_lampX a_this_lampY a_this_right a_this_up a_this_keptRight a_this_keptUp a_this_name a_this_part a_this_codes a_this_above a_this_below a_this_length a_this_isMet v_thrown v_isBounce v_lamps v_squares v_intervals v_isBlock v_isSeen v_lampX v_lampY v_right R.1 v_keptRight v_keptUp v_name R.2 v_codes v_above v_below v_length v_isMet) (va_A (jw_Mo g a_this a_this_isBlock a_this_isSeen a_this_lampX a_this_lampY a_this_right a_this_up a_this_keptRight a_this_keptUp a_this_name a_this_part a_this_codes a_this_above a_this_below a_this_length a_this_isMet v_thrown v_isBounce v_lamps v_squares v_intervals v_isBlock v_isSeen v_lampX v_lampY v_right v_up v_keptRight v_keptUp v_name v_part v_codes v_above v_below v_length v_isMet) sz)) 0 0 (va_A (jw_Mo g a_this a_this_isBlock a_this_isSeen a_this_lampX a_this_lampY a_this_right a_this_up a_this_keptRight a_this_keptUp a_this_name a_this_part a_this_codes a_this_above a_this_below a_this_length a_this_isMet v_thrown v_isBounce v_lamps v_squares v_intervals v_isBlock v_isSeen v_lampX v_lampY v_right v_up v_keptRight v_keptUp v_name v_part v_codes v_above v_below v_length v_isMet) sz) := by
  refine jm_wv (cc := cX7_shears) (maxL := 2) (by decide +kernel) rfl (Nat.le_of_ble_eq_true rfl) ?_
  intro p e s m below meth c A Q hx hb hml hown hts hK hP hD hA hS fin ls hl
  have hl : lv_has ls 2 [(0, .ref a_this)] := hl
  have hown : s.vm.findClass RX7 = some m.cls := hown
  have w_X7 : ∀ w ∈ u_ws RX7 TX7 20, w ∈ wsX7_shears := by decide +kernel
  have w_f23 := hts (.fieldLink RX7 23 "BilliardryModel" "squares" "I") (by decide +kernel)
  have w_f42 := hts (.fieldLink RX7 42 "BilliardryModel" "part" "[I") (by decide +kernel)
  have w_f30 := hts (.fieldLink RX7 30 "BilliardryModel" "up" "[I") (by decide +kernel)
  have w_f27 := hts (.fieldLink RX7 27 "BilliardryModel" "right" "[I") (by decide +kernel)
  have L2 : ∀ (n : Nat) (v_up : Nat → Int32) (z1 : Int32) (v_part : Nat → Int32) (H : Heap) (locs : List Loc), va_P g.1 vwCl (jw_Mo g a_this a_this_isBlock a_this_isSeen a_this_lampX a_this_lampY a_this_right a_this_up a_this_keptRight a_this_keptUp a_this_name a_this_part a_this_codes a_this_above a_this_below a_this_length a_this_isMet v_thrown v_isBounce v_lamps v_squares v_intervals v_isBlock v_isSeen v_lampX v_lampY v_right v_up v_keptRight v_keptUp v_name v_part v_codes v_above v_below v_length v_isMet) H → va_S A s.heap H locs → ∀ (ls : Array Slot), lv_has ls 2 [(0, .ref a_this), (1, .int z1)] → ∀ q, jf_Mo_shears_L2 v_squares v_right v_up n z1 v_part = some q → (∀ (H : Heap) (locs : List Loc), va_P g.1 vwCl (jw_Mo g a_this a_this_isBlock a_this_isSeen a_this_lampX a_this_lampY a_this_right a_this_up a_this_keptRight a_this_keptUp a_this_name a_this_part a_this_codes a_this_above a_this_below a_this_length a_this_isMet v_thrown v_isBounce v_lamps v_squares v_intervals v_isBlock v_isSeen v_lampX v_lampY v_right v_up v_keptRight v_keptUp v_name q v_codes v_above v_below v_length v_isMet) H → va_S A s.heap H locs → ∀ ls : Array Slot, lv_has ls 2 [(0, .ref a_this)] → W p l e jr_Mo_shears s m ([.ref a_this] : List Value).toArray below meth c H locs 0 0 Q (F0 m 33 ls [])) → W p l e jr_Mo_shears s m ([.ref a_this] : List Value).toArray below meth c H locs 0 0 Q (F0 m 2 ls []) := by
    intro n v_up
    induction n with
    | zero =>
      intro z1 v_part H locs hP hS ls hl q hR k
      cases hR
    | succ n ih =>
      intro z1 v_part H locs hP hS ls hl q hR k
      rw [jf_Mo_shears_L2] at hR
      refine lv_iload_n hx hb dX7_shears_2 rfl (lv_at hl 1 rfl) ?_
      refine lv_aload_n hx hb dX7_shears_3 rfl (lv_at hl 0 rfl) ?_
      refine va_get (D := g.1) (ci := 7) (v := .int v_squares) (C := RX7) (T := TX7) (N := 20) hx hb hts w_X7 hown hK.1 hP 0 rfl rfl 7 (by decide) w_f23 (fun _ h9 => h9) rfl dX7_shears_4 ?_
      refine lv_icmp_ge (tgt := 33) hx hb dX7_shears_7 (by decide) (fun c_1 => ?_) (fun c_1 => ?_)
      · replace hR := Eq.trans (Eq.symm (if_pos c_1)) hR
        cases hR
        exact k _ _ hP hS _ (lv_sub hl [0] rfl)
      · replace hR := Eq.trans (Eq.symm (if_neg c_1)) hR
        refine lv_aload_n hx hb dX7_shears_10 rfl (lv_at hl 0 rfl) ?_
        refine va_get (D := g.1) (ci := 7) (v := .ref a_this_part) (C := RX7) (T := TX7) (N := 20) hx hb hts w_X7 hown hK.1 hP 0 rfl rfl 13 (by decide) w_f42 (fun _ h9 => h9) rfl dX7_shears_11 ?_
        refine lv_iload_n hx hb dX7_shears_14 rfl (lv_at hl 1 rfl) ?_
        refine lv_aload_n hx hb dX7_shears_15 rfl (lv_at hl 0 rfl) ?_
        refine va_get (D := g.1) (ci := 7) (v := .ref a_this_up) (C := RX7) (T := TX7) (N := 20) hx hb hts w_X7 hown hK.1 hP 0 rfl rfl 9 (by decide) w_f30 (fun _ h9 => h9) rfl dX7_shears_16 ?_
        refine lv_aload_n hx hb dX7_shears_19 rfl (lv_at hl 0 rfl) ?_
        refine va_get (D := g.1) (ci := 7) (v := .ref a_this_right) (C := RX7) (T := TX7) (N := 20) hx hb hts w_X7 hown hK.1 hP 0 rfl rfl 8 (by decide) w_f27 (fun _ h9 => h9) rfl dX7_shears_20 ?_
        refine lv_iload_n hx hb dX7_shears_23 rfl (lv_at hl 1 rfl) ?_
        by_cases c_2 : jin z1 5 = true
        case neg => replace hR := Eq.trans (Eq.symm (if_neg c_2)) hR; cases hR
        replace hR := Eq.trans (Eq.symm (if_pos c_2)) hR
        refine va_iald hx hb hK.1 hP 5 0 rfl rfl (jin_in c_2) dX7_shears_24 ?_
        by_cases c_3 : jin (v_right z1.toNatClampNeg) 5 = true
        case neg => replace hR := Eq.trans (Eq.symm (if_neg c_3)) hR; cases hR
        replace hR := Eq.trans (Eq.symm (if_pos c_3)) hR
        refine va_iald hx hb hK.1 hP 6 0 rfl rfl (jin_in c_3) dX7_shears_25 ?_
        by_cases c_4 : jin z1 5 = true
        case neg => replace hR := Eq.trans (Eq.symm (if_neg c_4)) hR; cases hR
        replace hR := Eq.trans (Eq.symm (if_pos c_4)) hR
        refine va_iast hx hb hK.1 hP (jD_to hD rfl) hS 10 0 rfl rfl (jin_in c_4) dX7_shears_26 (fun H locs hP _ hS => ?_)
        have hP : va_P g.1 vwCl (jw_Mo g a_this a_this_isBlock a_this_isSeen a_this_lampX a_this_lampY a_this_right a_this_up a_this_keptRight a_this_keptUp a_this_name a_this_part a_this_codes a_this_above a_this_below a_this_length a_this_isMet v_thrown v_isBounce v_lamps v_squares v_intervals v_isBlock v_isSeen v_lampX v_lampY v_right v_up v_keptRight v_keptUp v_name (upd v_part z1.toNatClampNeg (v_up (v_right z1.toNatClampNeg).toNatClampNeg)) v_codes v_above v_below v_length v_isMet) H := hP
        refine lv_iinc (v := z1 + 1) (lv' := [(1, .int (z1 + 1)), (0, .ref a_this)]) hx hb dX7_shears_27 hl (k := 1) rfl (by first | rfl | decide) (by decide) rfl (fun ls hl => ?_)
        refine lv_goto (tgt := 2) hx hb dX7_shears_30 (by decide) ?_
        exact ih (z1 + 1) (upd v_part z1.toNatClampNeg (v_up (v_right z1.toNatClampNeg).toNatClampNeg)) _ _ hP hS _ (lv_sub hl [1, 0] rfl) _ hR k
  have L35 : ∀ (n : Nat) (v_part : Nat → Int32) (z1 : Int32) (v_up : Nat → Int32) (H : Heap) (locs : List Loc), va_P g.1 vwCl (jw_Mo g a_this a_this_isBlock a_this_isSeen a_this_lampX a_this_lampY a_this_right a_this_up a_this_keptRight a_this_keptUp a_this_name a_this_part a_this_codes a_this_above a_this_below a_this_length a_this_isMet v_thrown v_isBounce v_lamps v_squares v_intervals v_isBlock v_isSeen v_lampX v_lampY v_right v_up v_keptRight v_keptUp v_name v_part v_codes v_above v_below v_length v_isMet) H → va_S A s.heap H locs → ∀ (ls : Array Slot), lv_has ls 2 [(0, .ref a_this), (1, .int z1)] → ∀ q, jf_Mo_shears_L35 v_squares v_part n z1 v_up = some q → (∀ (H : Heap) (locs : List Loc), va_P g.1 vwCl (jw_Mo g a_this a_this_isBlock a_this_isSeen a_this_lampX a_this_lampY a_this_right a_this_up a_this_keptRight a_this_keptUp a_this_name a_this_part a_this_codes a_this_above a_this_below a_this_length a_this_isMet v_thrown v_isBounce v_lamps v_squares v_intervals v_isBlock v_isSeen v_lampX v_lampY v_right q v_keptRight v_keptUp v_name v_part v_codes v_above v_below v_length v_isMet) H → va_S A s.heap H locs → ∀ ls : Array Slot, lv_has ls 2 [] → W p l e jr_Mo_shears s m ([.ref a_this] : List Value).toArray below meth c H locs 0 0 Q (F0 m 61 ls [])) → W p l e jr_Mo_shears s m ([.ref a_this] : List Value).toArray below meth c H locs 0 0 Q (F0 m 35 ls []) := by
    intro n v_part
    induction n with
    | zero =>
      intro z1 v_up H locs hP hS ls hl q hR k
      cases hR
    | succ n ih =>
      intro z1 v_up H locs hP hS ls hl q hR k
      rw [jf_Mo_shears_L35] at hR
      refine lv_iload_n hx hb dX7_shears_35 rfl (lv_at hl 1 rfl) ?_
      refine lv_aload_n hx hb dX7_shears_36 rfl (lv_at hl 0 rfl) ?_
      refine va_get (D := g.1) (ci := 7) (v := .int v_squares) (C := RX7) (T := TX7) (N := 20) hx hb hts w_X7 hown hK.1 hP 0 rfl rfl 7 (by decide) w_f23 (fun _ h9 => h9) rfl dX7_shears_37 ?_
      refine lv_icmp_ge (tgt := 61) hx hb dX7_shears_40 (by decide) (fun c_5 => ?_) (fun c_5 => ?_)
      · replace hR := Eq.trans (Eq.symm (if_pos c_5)) hR
        cases hR
        exact k _ _ hP hS _ (lv_sub hl [] rfl)
      · replace hR := Eq.trans (Eq.symm (if_neg c_5)) hR
        refine lv_aload_n hx hb dX7_shears_43 rfl (lv_at hl 0 rfl) ?_
        refine va_get (D := g.1) (ci := 7) (v := .ref a_this_up) (C := RX7) (T := TX7) (N := 20) hx hb hts w_X7 hown hK.1 hP 0 rfl rfl 9 (by decide) w_f30 (fun _ h9 => h9) rfl dX7_shears_44 ?_
        refine lv_iload_n hx hb dX7_shears_47 rfl (lv_at hl 1 rfl) ?_
        refine lv_aload_n hx hb dX7_shears_48 rfl (lv_at hl 0 rfl) ?_
        refine va_get (D := g.1) (ci := 7) (v := .ref a_this_part) (C := RX7) (T := TX7) (N := 20) hx hb hts w_X7 hown hK.1 hP 0 rfl rfl 13 (by decide) w_f42 (fun _ h9 => h9) rfl dX7_shears_49 ?_
        refine lv_iload_n hx hb dX7_shears_52 rfl (lv_at hl 1 rfl) ?_
        by_cases c_6 : jin z1 5 = true
        case neg => replace hR := Eq.trans (Eq.symm (if_neg c_6)) hR; cases hR
        replace hR := Eq.trans (Eq.symm (if_pos c_6)) hR
        refine va_iald hx hb hK.1 hP 10 0 rfl rfl (jin_in c_6) dX7_shears_53 ?_
        by_cases c_7 : jin z1 5 = true
        case neg => replace hR := Eq.trans (Eq.symm (if_neg c_7)) hR; cases hR
        replace hR := Eq.trans (Eq.symm (if_pos c_7)) hR
        refine va_iast hx hb hK.1 hP (jD_to hD rfl) hS 6 0 rfl rfl (jin_in c_7) dX7_shears_54 (fun H locs hP _ hS => ?_)
        have hP : va_P g.1 vwCl (jw_Mo g a_this a_this_isBlock a_this_isSeen a_this_lampX a_this_lampY a_this_right a_this_up a_this_keptRight a_this_keptUp a_this_name a_this_part a_this_codes a_this_above a_this_below a_this_length a_this_isMet v_thrown v_isBounce v_lamps v_squares v_intervals v_isBlock v_isSeen v_lampX v_lampY v_right (upd v_up z1.toNatClampNeg (v_part z1.toNatClampNeg)) v_keptRight v_keptUp v_name v_part v_codes v_above v_below v_length v_isMet) H := hP
        refine lv_iinc (v := z1 + 1) (lv' := [(1, .int (z1 + 1)), (0, .ref a_this)]) hx hb dX7_shears_55 hl (k := 1) rfl (by first | rfl | decide) (by decide) rfl (fun ls hl => ?_)
        refine lv_goto (tgt := 35) hx hb dX7_shears_58 (by decide) ?_
        exact ih (z1 + 1) (upd v_up z1.toNatClampNeg (v_part z1.toNatClampNeg)) _ _ hP hS _ (lv_sub hl [1, 0] rfl) _ hR k
  rw [jf_Mo_shears] at hR
  refine lv_iconst (v := 0) hx hb dX7_shears_0 (by decide) ?_
  refine lv_istore_n (lv' := [(1, .int 0), (0, .ref a_this)]) hx hb dX7_shears_1 rfl hl (by decide) rfl (fun ls hl => ?_)
  obtain ⟨q_1, hq_1, hR⟩ := jbind hR
  try dsimp only at hR
  refine L2 jF v_up 0 v_part _ _ hP hS _ (lv_sub hl [1, 0] rfl) _ hq_1 (fun H locs hP hS ls hl => ?_)
  refine lv_iconst (v := 0) hx hb dX7_shears_33 (by decide) ?_
  refine lv_istore_n (lv' := [(1, .int 0), (0, .ref a_this)]) hx hb dX7_shears_34 rfl hl (by decide) rfl (fun ls hl => ?_)
  obtain ⟨q_2, hq_2, hR⟩ := jbind hR
  try dsimp only at hR
  refine L35 jF q_1 0 v_up _ _ hP hS _ (lv_sub hl [1, 0] rfl) _ hq_2 (fun H locs hP hS ls hl => ?_)
  obtain rfl := (Option.some.inj hR)
  exact fin _ _ _ _ hP hS dX7_shears_61
def jf_Mo_turns_L2 (v_squares : Int32) (v_right : Nat → Int32) : Nat → Int32 → (Nat → Int32) → Option (Nat → Int32)
  | 0, _, _ => none
  | n + 1, z1, v_part =>
    if v_squares ≤ z1 then (some v_part) else (Option.bind (jf_Mo_leftOf v_squares v_right z1) (fun q_1 => if jin z1 5 = true then ((jf_Mo_turns_L2 v_squares v_right n) (z1 + 1) (upd v_part z1.toNatClampNeg q_1)) else none))
def jf_Mo_turns_L29 (v_squares : Int32) (v_up : Nat → Int32) : Nat → Int32 → (Nat → Int32) → Option (Nat → Int32)
  | 0, _, _ => none
  | n + 1, z1, v_right =>
    if v_squares ≤ z1 then (some v_right) else (if jin z1 5 = true then (if jin z1 5 = true then ((jf_Mo_turns_L29 v_squares v_up n) (z1 + 1) (upd v_right z1.toNatClampNeg (v_up z1.toNatClampNeg))) else none) else none)
def jf_Mo_turns_L57 (v_squares : Int32) (v_part : Nat → Int32) : Nat → Int32 → (Nat → Int32) → Option (Nat → Int32)
  | 0, _, _ => none
  | n + 1, z1, v_up =>
    if v_squares ≤ z1 then (some v_up) else (if jin z1 5 = true then (if jin z1 5 = true then ((jf_Mo_turns_L57 v_squares v_part n) (z1 + 1) (upd v_up z1.toNatClampNeg (v_part z1.toNatClampNeg))) else none) else none)
def jf_Mo_turns (v_squares : Int32) (v_right : Nat → Int32) (v_up : Nat → Int32) (v_part : Nat → Int32) : Option ((Nat → Int32) × (Nat → Int32) × (Nat → Int32)) :=
  Option.bind (jf_Mo_turns_L2 v_squares v_right jF 0 v_part) (fun q_2 => Option.bind (jf_Mo_turns_L29 v_squares v_up jF 0 v_right) (fun q_3 => Option.bind (jf_Mo_turns_L57 v_squares q_2 jF 0 v_up) (fun q_4 => some (q_3, q_4, q_2))))
abbrev jr_Mo_turns : Room := { frames := 1, cells := 0, slots := 0, locals := 23 }
set_option maxRecDepth 100000 in
set_option maxHeartbeats 4000000 in
theorem jc_Mo_turns (l : Launch) (g : jG) (a_this a_this_isBlock a_this_isSeen a_this_lampX a_this_lampY a_this_right a_this_up a_this_keptRight a_this_keptUp a_this_name a_this_part a_this_codes a_this_above a_this_below a_this_length a_this_isMet : Nat) (v_thrown : Int32) (v_isBounce : Int32) (v_lamps : Int32) (v_squares : Int32) (v_intervals : Int32) (v_isBlock : Nat → Int32) (v_isSeen : Nat → Int32) (v_lampX : Nat → Int32) (v_lampY : Nat → Int32) (v_right : Nat → Int32) (v_up : Nat → Int32) (v_keptRight : Nat → Int32) (v_keptUp : Nat → Int32) (v_name : Nat → Int32) (v_part : Nat → Int32) (v_codes : Nat → Int32) (v_above : Nat → Int32) (v_below : Nat → Int32) (v_length : Nat → Int32) (v_isMet : Nat → Int32) (R : (Nat → Int32) × (Nat → Int32) × (Nat → Int32)) (hR : jf_Mo_turns v_squares v_right v_up v_part = some R) (sz : Nat) : Met l yX7_turns wsX7_turns jr_Mo_turns (jPw g [.ref a_this] (jw_Mo g a_this a_this_isBlock a_this_isSeen a_this_lampX a_this_lampY a_this_right a_this_up a_this_keptRight a_this_keptUp a_this_name a_this_part a_this_codes a_this_above a_this_below a_this_length a_this_isMet v_thrown v_isBounce v_lamps v_squares v_intervals v_isBlock v_isSeen v_lampX v_lampY v_right v_up v_keptRight v_keptUp v_name v_part v_codes v_above v_below v_length v_isMet) sz) (jQv g (jw_Mo g a_this a_this_isBlock a_this_isSeen a_this_lampX a_this_lampY a_this_right a_this_up a_this_keptRight a_this_keptUp a_this_name a_this_part a_this_codes a_this_above a_this_below a_this_length a_this_isMet v_thrown v_isBounce v_lamps v_squares v_intervals v_isBlock v_isSeen v_lampX v_lampY R.1 R.2.1 v_keptRight v_keptUp v_name R.2.2 v_codes v_above v_below v_length v_isMet) (va_A (jw_Mo g a_this a_this_isBlock a_this_isSeen a_this_lampX a_this_lampY a_this_right a_this_up a_this_keptRight a_this_keptUp a_this_name a_this_part a_this_codes a_this_above a_this_below a_this_length a_this_isMet v_thrown v_isBounce v_lamps v_squares v_intervals v_isBlock v_isSeen v_lampX v_lampY v_right v_up v_keptRight v_keptUp v_name v_part v_codes v_above v_below v_length v_isMet) sz)) 0 0 (va_A (jw_Mo g a_this a_this_isBlock a_this_isSeen a_this_lampX a_this_lampY a_this_right a_this_up a_this_keptRight a_this_keptUp a_this_name a_this_part a_this_codes a_this_above a_this_below a_this_length a_this_isMet v_thrown v_isBounce v_lamps v_squares v_intervals v_isBlock v_isSeen v_lampX v_lampY v_right v_up v_keptRight v_keptUp v_name v_part v_codes v_above v_below v_length v_isMet) sz) := by
  refine jm_wv (cc := cX7_turns) (maxL := 2) (by decide +kernel) rfl (Nat.le_of_ble_eq_true rfl) ?_
  intro p e s m below meth c A Q hx hb hml hown hts hK hP hD hA hS fin ls hl
  have hl : lv_has ls 2 [(0, .ref a_this)] := hl
  have hown : s.vm.findClass RX7 = some m.cls := hown
  have w_X7 : ∀ w ∈ u_ws RX7 TX7 20, w ∈ wsX7_turns := by decide +kernel
  have w_f23 := hts (.fieldLink RX7 23 "BilliardryModel" "squares" "I") (by decide +kernel)
  have w_f42 := hts (.fieldLink RX7 42 "BilliardryModel" "part" "[I") (by decide +kernel)
  have w_f27 := hts (.fieldLink RX7 27 "BilliardryModel" "right" "[I") (by decide +kernel)
  have w_f30 := hts (.fieldLink RX7 30 "BilliardryModel" "up" "[I") (by decide +kernel)
  have L2 : ∀ (n : Nat) (v_right : Nat → Int32) (v_up : Nat → Int32) (z1 : Int32) (v_part : Nat → Int32) (H : Heap) (locs : List Loc), va_P g.1 vwCl (jw_Mo g a_this a_this_isBlock a_this_isSeen a_this_lampX a_this_lampY a_this_right a_this_up a_this_keptRight a_this_keptUp a_this_name a_this_part a_this_codes a_this_above a_this_below a_this_length a_this_isMet v_thrown v_isBounce v_lamps v_squares v_intervals v_isBlock v_isSeen v_lampX v_lampY v_right v_up v_keptRight v_keptUp v_name v_part v_codes v_above v_below v_length v_isMet) H → va_S A s.heap H locs → ∀ (ls : Array Slot), lv_has ls 2 [(0, .ref a_this), (1, .int z1)] → ∀ q, jf_Mo_turns_L2 v_squares v_right n z1 v_part = some q → (∀ (H : Heap) (locs : List Loc), va_P g.1 vwCl (jw_Mo g a_this a_this_isBlock a_this_isSeen a_this_lampX a_this_lampY a_this_right a_this_up a_this_keptRight a_this_keptUp a_this_name a_this_part a_this_codes a_this_above a_this_below a_this_length a_this_isMet v_thrown v_isBounce v_lamps v_squares v_intervals v_isBlock v_isSeen v_lampX v_lampY v_right v_up v_keptRight v_keptUp v_name q v_codes v_above v_below v_length v_isMet) H → va_S A s.heap H locs → ∀ ls : Array Slot, lv_has ls 2 [(0, .ref a_this)] → W p l e jr_Mo_turns s m ([.ref a_this] : List Value).toArray below meth c H locs 0 0 Q (F0 m 27 ls [])) → W p l e jr_Mo_turns s m ([.ref a_this] : List Value).toArray below meth c H locs 0 0 Q (F0 m 2 ls []) := by
    intro n v_right v_up
    induction n with
    | zero =>
      intro z1 v_part H locs hP hS ls hl q hR k
      cases hR
    | succ n ih =>
      intro z1 v_part H locs hP hS ls hl q hR k
      rw [jf_Mo_turns_L2] at hR
      refine lv_iload_n hx hb dX7_turns_2 rfl (lv_at hl 1 rfl) ?_
      refine lv_aload_n hx hb dX7_turns_3 rfl (lv_at hl 0 rfl) ?_
      refine va_get (D := g.1) (ci := 7) (v := .int v_squares) (C := RX7) (T := TX7) (N := 20) hx hb hts w_X7 hown hK.1 hP 0 rfl rfl 7 (by decide) w_f23 (fun _ h9 => h9) rfl dX7_turns_4 ?_
      refine lv_icmp_ge (tgt := 27) hx hb dX7_turns_7 (by decide) (fun c_1 => ?_) (fun c_1 => ?_)
      · replace hR := Eq.trans (Eq.symm (if_pos c_1)) hR
        cases hR
        exact k _ _ hP hS _ (lv_sub hl [0] rfl)
      · replace hR := Eq.trans (Eq.symm (if_neg c_1)) hR
        refine lv_aload_n hx hb dX7_turns_10 rfl (lv_at hl 0 rfl) ?_
        refine va_get (D := g.1) (ci := 7) (v := .ref a_this_part) (C := RX7) (T := TX7) (N := 20) hx hb hts w_X7 hown hK.1 hP 0 rfl rfl 13 (by decide) w_f42 (fun _ h9 => h9) rfl dX7_turns_11 ?_
        refine lv_iload_n hx hb dX7_turns_14 rfl (lv_at hl 1 rfl) ?_
        refine lv_aload_n hx hb dX7_turns_15 rfl (lv_at hl 0 rfl) ?_
        refine lv_iload_n hx hb dX7_turns_16 rfl (lv_at hl 1 rfl) ?_
        obtain ⟨q_1, hq_1, hR⟩ := jbind hR
        try dsimp only at hR
        refine jcall_ri (va_runV (As := [.int z1]) (rest := [.int z1, .ref a_this_part]) ⟨hx, hb, hml, hown, hts⟩ (jc_Mo_leftOf l g a_this a_this_isBlock a_this_isSeen a_this_lampX a_this_lampY a_this_right a_this_up a_this_keptRight a_this_keptUp a_this_name a_this_part a_this_codes a_this_above a_this_below a_this_length a_this_isMet v_thrown v_isBounce v_lamps v_squares v_intervals v_isBlock v_isSeen v_lampX v_lampY v_right v_up v_keptRight v_keptUp v_name v_part v_codes v_above v_below v_length v_isMet z1 _ hq_1) (cwV 1 hts gX7_turns_X7_leftOf rfl rfl rfl (by decide +kernel) ⟨Nat.le_of_ble_eq_true rfl, Nat.le_of_ble_eq_true rfl⟩) (jpr_v hK hP (ci := 7) (q0 := 0) rfl rfl) rfl rfl hl.1 rfl (lv_room (Nat.le_of_ble_eq_true rfl)) dX7_turns_17 ⟨Nat.zero_le _, Nat.zero_le _⟩) ?_
        by_cases c_2 : jin z1 5 = true
        case neg => replace hR := Eq.trans (Eq.symm (if_neg c_2)) hR; cases hR
        replace hR := Eq.trans (Eq.symm (if_pos c_2)) hR
        refine va_iast hx hb hK.1 hP (jD_to hD rfl) hS 10 0 rfl rfl (jin_in c_2) dX7_turns_20 (fun H locs hP _ hS => ?_)
        have hP : va_P g.1 vwCl (jw_Mo g a_this a_this_isBlock a_this_isSeen a_this_lampX a_this_lampY a_this_right a_this_up a_this_keptRight a_this_keptUp a_this_name a_this_part a_this_codes a_this_above a_this_below a_this_length a_this_isMet v_thrown v_isBounce v_lamps v_squares v_intervals v_isBlock v_isSeen v_lampX v_lampY v_right v_up v_keptRight v_keptUp v_name (upd v_part z1.toNatClampNeg q_1) v_codes v_above v_below v_length v_isMet) H := hP
        refine lv_iinc (v := z1 + 1) (lv' := [(1, .int (z1 + 1)), (0, .ref a_this)]) hx hb dX7_turns_21 hl (k := 1) rfl (by first | rfl | decide) (by decide) rfl (fun ls hl => ?_)
        refine lv_goto (tgt := 2) hx hb dX7_turns_24 (by decide) ?_
        exact ih (z1 + 1) (upd v_part z1.toNatClampNeg q_1) _ _ hP hS _ (lv_sub hl [1, 0] rfl) _ hR k
  have L29 : ∀ (n : Nat) (v_up : Nat → Int32) (v_part : Nat → Int32) (z1 : Int32) (v_right : Nat → Int32) (H : Heap) (locs : List Loc), va_P g.1 vwCl (jw_Mo g a_this a_this_isBlock a_this_isSeen a_this_lampX a_this_lampY a_this_right a_this_up a_this_keptRight a_this_keptUp a_this_name a_this_part a_this_codes a_this_above a_this_below a_this_length a_this_isMet v_thrown v_isBounce v_lamps v_squares v_intervals v_isBlock v_isSeen v_lampX v_lampY v_right v_up v_keptRight v_keptUp v_name v_part v_codes v_above v_below v_length v_isMet) H → va_S A s.heap H locs → ∀ (ls : Array Slot), lv_has ls 2 [(0, .ref a_this), (1, .int z1)] → ∀ q, jf_Mo_turns_L29 v_squares v_up n z1 v_right = some q → (∀ (H : Heap) (locs : List Loc), va_P g.1 vwCl (jw_Mo g a_this a_this_isBlock a_this_isSeen a_this_lampX a_this_lampY a_this_right a_this_up a_this_keptRight a_this_keptUp a_this_name a_this_part a_this_codes a_this_above a_this_below a_this_length a_this_isMet v_thrown v_isBounce v_lamps v_squares v_intervals v_isBlock v_isSeen v_lampX v_lampY q v_up v_keptRight v_keptUp v_name v_part v_codes v_above v_below v_length v_isMet) H → va_S A s.heap H locs → ∀ ls : Array Slot, lv_has ls 2 [(0, .ref a_this)] → W p l e jr_Mo_turns s m ([.ref a_this] : List Value).toArray below meth c H locs 0 0 Q (F0 m 55 ls [])) → W p l e jr_Mo_turns s m ([.ref a_this] : List Value).toArray below meth c H locs 0 0 Q (F0 m 29 ls []) := by
    intro n v_up v_part
    induction n with
    | zero =>
      intro z1 v_right H locs hP hS ls hl q hR k
      cases hR
    | succ n ih =>
      intro z1 v_right H locs hP hS ls hl q hR k
      rw [jf_Mo_turns_L29] at hR
      refine lv_iload_n hx hb dX7_turns_29 rfl (lv_at hl 1 rfl) ?_
      refine lv_aload_n hx hb dX7_turns_30 rfl (lv_at hl 0 rfl) ?_
      refine va_get (D := g.1) (ci := 7) (v := .int v_squares) (C := RX7) (T := TX7) (N := 20) hx hb hts w_X7 hown hK.1 hP 0 rfl rfl 7 (by decide) w_f23 (fun _ h9 => h9) rfl dX7_turns_31 ?_
      refine lv_icmp_ge (tgt := 55) hx hb dX7_turns_34 (by decide) (fun c_3 => ?_) (fun c_3 => ?_)
      · replace hR := Eq.trans (Eq.symm (if_pos c_3)) hR
        cases hR
        exact k _ _ hP hS _ (lv_sub hl [0] rfl)
      · replace hR := Eq.trans (Eq.symm (if_neg c_3)) hR
        refine lv_aload_n hx hb dX7_turns_37 rfl (lv_at hl 0 rfl) ?_
        refine va_get (D := g.1) (ci := 7) (v := .ref a_this_right) (C := RX7) (T := TX7) (N := 20) hx hb hts w_X7 hown hK.1 hP 0 rfl rfl 8 (by decide) w_f27 (fun _ h9 => h9) rfl dX7_turns_38 ?_
        refine lv_iload_n hx hb dX7_turns_41 rfl (lv_at hl 1 rfl) ?_
        refine lv_aload_n hx hb dX7_turns_42 rfl (lv_at hl 0 rfl) ?_
        refine va_get (D := g.1) (ci := 7) (v := .ref a_this_up) (C := RX7) (T := TX7) (N := 20) hx hb hts w_X7 hown hK.1 hP 0 rfl rfl 9 (by decide) w_f30 (fun _ h9 => h9) rfl dX7_turns_43 ?_
        refine lv_iload_n hx hb dX7_turns_46 rfl (lv_at hl 1 rfl) ?_
        by_cases c_4 : jin z1 5 = true
        case neg => replace hR := Eq.trans (Eq.symm (if_neg c_4)) hR; cases hR
        replace hR := Eq.trans (Eq.symm (if_pos c_4)) hR
        refine va_iald hx hb hK.1 hP 6 0 rfl rfl (jin_in c_4) dX7_turns_47 ?_
        by_cases c_5 : jin z1 5 = true
        case neg => replace hR := Eq.trans (Eq.symm (if_neg c_5)) hR; cases hR
        replace hR := Eq.trans (Eq.symm (if_pos c_5)) hR
        refine va_iast hx hb hK.1 hP (jD_to hD rfl) hS 5 0 rfl rfl (jin_in c_5) dX7_turns_48 (fun H locs hP _ hS => ?_)
        have hP : va_P g.1 vwCl (jw_Mo g a_this a_this_isBlock a_this_isSeen a_this_lampX a_this_lampY a_this_right a_this_up a_this_keptRight a_this_keptUp a_this_name a_this_part a_this_codes a_this_above a_this_below a_this_length a_this_isMet v_thrown v_isBounce v_lamps v_squares v_intervals v_isBlock v_isSeen v_lampX v_lampY (upd v_right z1.toNatClampNeg (v_up z1.toNatClampNeg)) v_up v_keptRight v_keptUp v_name v_part v_codes v_above v_below v_length v_isMet) H := hP
        refine lv_iinc (v := z1 + 1) (lv' := [(1, .int (z1 + 1)), (0, .ref a_this)]) hx hb dX7_turns_49 hl (k := 1) rfl (by first | rfl | decide) (by decide) rfl (fun ls hl => ?_)
        refine lv_goto (tgt := 29) hx hb dX7_turns_52 (by decide) ?_
        exact ih (z1 + 1) (upd v_right z1.toNatClampNeg (v_up z1.toNatClampNeg)) _ _ hP hS _ (lv_sub hl [1, 0] rfl) _ hR k
  have L57 : ∀ (n : Nat) (v_right : Nat → Int32) (v_part : Nat → Int32) (z1 : Int32) (v_up : Nat → Int32) (H : Heap) (locs : List Loc), va_P g.1 vwCl (jw_Mo g a_this a_this_isBlock a_this_isSeen a_this_lampX a_this_lampY a_this_right a_this_up a_this_keptRight a_this_keptUp a_this_name a_this_part a_this_codes a_this_above a_this_below a_this_length a_this_isMet v_thrown v_isBounce v_lamps v_squares v_intervals v_isBlock v_isSeen v_lampX v_lampY v_right v_up v_keptRight v_keptUp v_name v_part v_codes v_above v_below v_length v_isMet) H → va_S A s.heap H locs → ∀ (ls : Array Slot), lv_has ls 2 [(0, .ref a_this), (1, .int z1)] → ∀ q, jf_Mo_turns_L57 v_squares v_part n z1 v_up = some q → (∀ (H : Heap) (locs : List Loc), va_P g.1 vwCl (jw_Mo g a_this a_this_isBlock a_this_isSeen a_this_lampX a_this_lampY a_this_right a_this_up a_this_keptRight a_this_keptUp a_this_name a_this_part a_this_codes a_this_above a_this_below a_this_length a_this_isMet v_thrown v_isBounce v_lamps v_squares v_intervals v_isBlock v_isSeen v_lampX v_lampY v_right q v_keptRight v_keptUp v_name v_part v_codes v_above v_below v_length v_isMet) H → va_S A s.heap H locs → ∀ ls : Array Slot, lv_has ls 2 [] → W p l e jr_Mo_turns s m ([.ref a_this] : List Value).toArray below meth c H locs 0 0 Q (F0 m 83 ls [])) → W p l e jr_Mo_turns s m ([.ref a_this] : List Value).toArray below meth c H locs 0 0 Q (F0 m 57 ls []) := by
    intro n v_right v_part
    induction n with
    | zero =>
      intro z1 v_up H locs hP hS ls hl q hR k
      cases hR
    | succ n ih =>
      intro z1 v_up H locs hP hS ls hl q hR k
      rw [jf_Mo_turns_L57] at hR
      refine lv_iload_n hx hb dX7_turns_57 rfl (lv_at hl 1 rfl) ?_
      refine lv_aload_n hx hb dX7_turns_58 rfl (lv_at hl 0 rfl) ?_
      refine va_get (D := g.1) (ci := 7) (v := .int v_squares) (C := RX7) (T := TX7) (N := 20) hx hb hts w_X7 hown hK.1 hP 0 rfl rfl 7 (by decide) w_f23 (fun _ h9 => h9) rfl dX7_turns_59 ?_
      refine lv_icmp_ge (tgt := 83) hx hb dX7_turns_62 (by decide) (fun c_6 => ?_) (fun c_6 => ?_)
      · replace hR := Eq.trans (Eq.symm (if_pos c_6)) hR
        cases hR
        exact k _ _ hP hS _ (lv_sub hl [] rfl)
      · replace hR := Eq.trans (Eq.symm (if_neg c_6)) hR
        refine lv_aload_n hx hb dX7_turns_65 rfl (lv_at hl 0 rfl) ?_
        refine va_get (D := g.1) (ci := 7) (v := .ref a_this_up) (C := RX7) (T := TX7) (N := 20) hx hb hts w_X7 hown hK.1 hP 0 rfl rfl 9 (by decide) w_f30 (fun _ h9 => h9) rfl dX7_turns_66 ?_
        refine lv_iload_n hx hb dX7_turns_69 rfl (lv_at hl 1 rfl) ?_
        refine lv_aload_n hx hb dX7_turns_70 rfl (lv_at hl 0 rfl) ?_
        refine va_get (D := g.1) (ci := 7) (v := .ref a_this_part) (C := RX7) (T := TX7) (N := 20) hx hb hts w_X7 hown hK.1 hP 0 rfl rfl 13 (by decide) w_f42 (fun _ h9 => h9) rfl dX7_turns_71 ?_
        refine lv_iload_n hx hb dX7_turns_74 rfl (lv_at hl 1 rfl) ?_
        by_cases c_7 : jin z1 5 = true
        case neg => replace hR := Eq.trans (Eq.symm (if_neg c_7)) hR; cases hR
        replace hR := Eq.trans (Eq.symm (if_pos c_7)) hR
        refine va_iald hx hb hK.1 hP 10 0 rfl rfl (jin_in c_7) dX7_turns_75 ?_
        by_cases c_8 : jin z1 5 = true
        case neg => replace hR := Eq.trans (Eq.symm (if_neg c_8)) hR; cases hR
        replace hR := Eq.trans (Eq.symm (if_pos c_8)) hR
        refine va_iast hx hb hK.1 hP (jD_to hD rfl) hS 6 0 rfl rfl (jin_in c_8) dX7_turns_76 (fun H locs hP _ hS => ?_)
        have hP : va_P g.1 vwCl (jw_Mo g a_this a_this_isBlock a_this_isSeen a_this_lampX a_this_lampY a_this_right a_this_up a_this_keptRight a_this_keptUp a_this_name a_this_part a_this_codes a_this_above a_this_below a_this_length a_this_isMet v_thrown v_isBounce v_lamps v_squares v_intervals v_isBlock v_isSeen v_lampX v_lampY v_right (upd v_up z1.toNatClampNeg (v_part z1.toNatClampNeg)) v_keptRight v_keptUp v_name v_part v_codes v_above v_below v_length v_isMet) H := hP
        refine lv_iinc (v := z1 + 1) (lv' := [(1, .int (z1 + 1)), (0, .ref a_this)]) hx hb dX7_turns_77 hl (k := 1) rfl (by first | rfl | decide) (by decide) rfl (fun ls hl => ?_)
        refine lv_goto (tgt := 57) hx hb dX7_turns_80 (by decide) ?_
        exact ih (z1 + 1) (upd v_up z1.toNatClampNeg (v_part z1.toNatClampNeg)) _ _ hP hS _ (lv_sub hl [1, 0] rfl) _ hR k
  rw [jf_Mo_turns] at hR
  refine lv_iconst (v := 0) hx hb dX7_turns_0 (by decide) ?_
  refine lv_istore_n (lv' := [(1, .int 0), (0, .ref a_this)]) hx hb dX7_turns_1 rfl hl (by decide) rfl (fun ls hl => ?_)
  obtain ⟨q_2, hq_2, hR⟩ := jbind hR
  try dsimp only at hR
  refine L2 jF v_right v_up 0 v_part _ _ hP hS _ (lv_sub hl [1, 0] rfl) _ hq_2 (fun H locs hP hS ls hl => ?_)
  refine lv_iconst (v := 0) hx hb dX7_turns_27 (by decide) ?_
  refine lv_istore_n (lv' := [(1, .int 0), (0, .ref a_this)]) hx hb dX7_turns_28 rfl hl (by decide) rfl (fun ls hl => ?_)
  obtain ⟨q_3, hq_3, hR⟩ := jbind hR
  try dsimp only at hR
  refine L29 jF v_up q_2 0 v_right _ _ hP hS _ (lv_sub hl [1, 0] rfl) _ hq_3 (fun H locs hP hS ls hl => ?_)
  refine lv_iconst (v := 0) hx hb dX7_turns_55 (by decide) ?_
  refine lv_istore_n (lv' := [(1, .int 0), (0, .ref a_this)]) hx hb dX7_turns_56 rfl hl (by decide) rfl (fun ls hl => ?_)
  obtain ⟨q_4, hq_4, hR⟩ := jbind hR
  try dsimp only at hR
  refine L57 jF q_3 q_2 0 v_up _ _ hP hS _ (lv_sub hl [1, 0] rfl) _ hq_4 (fun H locs hP hS ls hl => ?_)
  obtain rfl := (Option.some.inj hR)
  exact fin _ _ _ _ hP hS dX7_turns_83
def jf_Mo_names_b72 (self : Int32 → Int32 → Option Int32) (v_name : Nat → Int32) (z2 : Int32) (z4 : Int32) (z5 : Int32) (s0 : Int32) : Option Int32 :=
  self s0 (z5 + 1)
def jf_Mo_names_b71 (self : Int32 → Int32 → Option Int32) (v_name : Nat → Int32) (z2 : Int32) (z4 : Int32) (z5 : Int32) : Option Int32 :=
  jf_Mo_names_b72 self v_name z2 z4 z5 0
def jf_Mo_names_L39 (v_name : Nat → Int32) (z2 : Int32) (z4 : Int32) : Nat → Int32 → Int32 → Option Int32
  | 0, _, _ => none
  | n + 1, z3, z5 =>
    if z4 ≤ z5 then (some z3) else (if z3 = 0 then (jf_Mo_names_b71 (jf_Mo_names_L39 v_name z2 z4 n) v_name z2 z4 z5) else (if jin z5 5 = true then (if jin z4 5 = true then (if v_name z5.toNatClampNeg = v_name z4.toNatClampNeg then (jf_Mo_names_b71 (jf_Mo_names_L39 v_name z2 z4 n) v_name z2 z4 z5) else (jf_Mo_names_b72 (jf_Mo_names_L39 v_name z2 z4 n) v_name z2 z4 z5 1)) else none) else none))
def jf_Mo_names_L7 (v_squares : Int32) : Nat → Int32 → Int32 → Int32 → (Nat → Int32) → Option (Int32 × (Nat → Int32))
  | 0, _, _, _, _ => none
  | n + 1, z2, z3, z4, v_name =>
    if v_squares ≤ z4 then (some (z3, v_name)) else (if v_squares = 0 then none else if jin z4 5 = true then (if v_squares = 0 then none else jlet (z2 / v_squares) (fun y2_1 => Option.bind (jf_Mo_names_L39 (upd v_name z4.toNatClampNeg (z2 - z2 / v_squares * v_squares)) y2_1 z4 jF z3 0) (fun q_1 => (jf_Mo_names_L7 v_squares n) y2_1 q_1 (z4 + 1) (upd v_name z4.toNatClampNeg (z2 - z2 / v_squares * v_squares))))) else none)
def jf_Mo_names (v_squares : Int32) (v_name : Nat → Int32) (x1 : Int32) : Option (Int32 × (Nat → Int32)) :=
  Option.bind (jf_Mo_names_L7 v_squares jF x1 1 0 v_name) (fun q_2 => some (q_2.1 &&& 1, q_2.2))
abbrev jr_Mo_names : Room := { frames := 0, cells := 0, slots := 0, locals := 0 }
set_option maxRecDepth 100000 in
set_option maxHeartbeats 4000000 in
theorem jc_Mo_names (l : Launch) (g : jG) (a_this a_this_isBlock a_this_isSeen a_this_lampX a_this_lampY a_this_right a_this_up a_this_keptRight a_this_keptUp a_this_name a_this_part a_this_codes a_this_above a_this_below a_this_length a_this_isMet : Nat) (v_thrown : Int32) (v_isBounce : Int32) (v_lamps : Int32) (v_squares : Int32) (v_intervals : Int32) (v_isBlock : Nat → Int32) (v_isSeen : Nat → Int32) (v_lampX : Nat → Int32) (v_lampY : Nat → Int32) (v_right : Nat → Int32) (v_up : Nat → Int32) (v_keptRight : Nat → Int32) (v_keptUp : Nat → Int32) (v_name : Nat → Int32) (v_part : Nat → Int32) (v_codes : Nat → Int32) (v_above : Nat → Int32) (v_below : Nat → Int32) (v_length : Nat → Int32) (v_isMet : Nat → Int32) (x1 : Int32) (R : Int32 × (Nat → Int32)) (hR : jf_Mo_names v_squares v_name x1 = some R) (sz : Nat) : Met l yX7_names wsX7_names jr_Mo_names (jPw g [.ref a_this, .int x1] (jw_Mo g a_this a_this_isBlock a_this_isSeen a_this_lampX a_this_lampY a_this_right a_this_up a_this_keptRight a_this_keptUp a_this_name a_this_part a_this_codes a_this_above a_this_below a_this_length a_this_isMet v_thrown v_isBounce v_lamps v_squares v_intervals v_isBlock v_isSeen v_lampX v_lampY v_right v_up v_keptRight v_keptUp v_name v_part v_codes v_above v_below v_length v_isMet) sz) (jQi g R.1 (jw_Mo g a_this a_this_isBlock a_this_isSeen a_this_lampX a_this_lampY a_this_right a_this_up a_this_keptRight a_this_keptUp a_this_name a_this_part a_this_codes a_this_above a_this_below a_this_length a_this_isMet v_thrown v_isBounce v_lamps v_squares v_intervals v_isBlock v_isSeen v_lampX v_lampY v_right v_up v_keptRight v_keptUp R.2 v_part v_codes v_above v_below v_length v_isMet) (va_A (jw_Mo g a_this a_this_isBlock a_this_isSeen a_this_lampX a_this_lampY a_this_right a_this_up a_this_keptRight a_this_keptUp a_this_name a_this_part a_this_codes a_this_above a_this_below a_this_length a_this_isMet v_thrown v_isBounce v_lamps v_squares v_intervals v_isBlock v_isSeen v_lampX v_lampY v_right v_up v_keptRight v_keptUp v_name v_part v_codes v_above v_below v_length v_isMet) sz)) 0 0 (va_A (jw_Mo g a_this a_this_isBlock a_this_isSeen a_this_lampX a_this_lampY a_this_right a_this_up a_this_keptRight a_this_keptUp a_this_name a_this_part a_this_codes a_this_above a_this_below a_this_length a_this_isMet v_thrown v_isBounce v_lamps v_squares v_intervals v_isBlock v_isSeen v_lampX v_lampY v_right v_up v_keptRight v_keptUp v_name v_part v_codes v_above v_below v_length v_isMet) sz) := by
  refine jm_wz (cc := cX7_names) (maxL := 6) (by decide +kernel) rfl (Nat.le_of_ble_eq_true rfl) ?_
  intro p e s m below meth c A Q hx hb hml hown hts hK hP hD hA hS fin ls hl
  have hl : lv_has ls 6 [(0, .ref a_this), (1, .int x1)] := hl
  have hown : s.vm.findClass RX7 = some m.cls := hown
  have w_X7 : ∀ w ∈ u_ws RX7 TX7 20, w ∈ wsX7_names := by decide +kernel
  have w_f23 := hts (.fieldLink RX7 23 "BilliardryModel" "squares" "I") (by decide +kernel)
  have w_f39 := hts (.fieldLink RX7 39 "BilliardryModel" "name" "[I") (by decide +kernel)
  have L7 : ∀ (n : Nat) (z2 : Int32) (z3 : Int32) (z4 : Int32) (v_name : Nat → Int32) (H : Heap) (locs : List Loc), va_P g.1 vwCl (jw_Mo g a_this a_this_isBlock a_this_isSeen a_this_lampX a_this_lampY a_this_right a_this_up a_this_keptRight a_this_keptUp a_this_name a_this_part a_this_codes a_this_above a_this_below a_this_length a_this_isMet v_thrown v_isBounce v_lamps v_squares v_intervals v_isBlock v_isSeen v_lampX v_lampY v_right v_up v_keptRight v_keptUp v_name v_part v_codes v_above v_below v_length v_isMet) H → va_S A s.heap H locs → ∀ (ls : Array Slot), lv_has ls 6 [(0, .ref a_this), (2, .int z2), (3, .int z3), (4, .int z4)] → ∀ q, jf_Mo_names_L7 v_squares n z2 z3 z4 v_name = some q → (∀ (H : Heap) (locs : List Loc), va_P g.1 vwCl (jw_Mo g a_this a_this_isBlock a_this_isSeen a_this_lampX a_this_lampY a_this_right a_this_up a_this_keptRight a_this_keptUp a_this_name a_this_part a_this_codes a_this_above a_this_below a_this_length a_this_isMet v_thrown v_isBounce v_lamps v_squares v_intervals v_isBlock v_isSeen v_lampX v_lampY v_right v_up v_keptRight v_keptUp q.2 v_part v_codes v_above v_below v_length v_isMet) H → va_S A s.heap H locs → ∀ ls : Array Slot, lv_has ls 6 [(3, .int q.1)] → W p l e jr_Mo_names s m ([.ref a_this, .int x1] : List Value).toArray below meth c H locs 0 0 Q (F0 m 85 ls [])) → W p l e jr_Mo_names s m ([.ref a_this, .int x1] : List Value).toArray below meth c H locs 0 0 Q (F0 m 7 ls []) := by
    intro n
    induction n with
    | zero =>
      intro z2 z3 z4 v_name H locs hP hS ls hl q hR k
      cases hR
    | succ n ih =>
      have L39 : ∀ (n : Nat) (v_name : Nat → Int32) (z2 : Int32) (z4 : Int32) (z3 : Int32) (z5 : Int32) (H : Heap) (locs : List Loc), va_P g.1 vwCl (jw_Mo g a_this a_this_isBlock a_this_isSeen a_this_lampX a_this_lampY a_this_right a_this_up a_this_keptRight a_this_keptUp a_this_name a_this_part a_this_codes a_this_above a_this_below a_this_length a_this_isMet v_thrown v_isBounce v_lamps v_squares v_intervals v_isBlock v_isSeen v_lampX v_lampY v_right v_up v_keptRight v_keptUp v_name v_part v_codes v_above v_below v_length v_isMet) H → va_S A s.heap H locs → ∀ (ls : Array Slot), lv_has ls 6 [(0, .ref a_this), (2, .int z2), (3, .int z3), (4, .int z4), (5, .int z5)] → ∀ q, jf_Mo_names_L39 v_name z2 z4 n z3 z5 = some q → (∀ (H : Heap) (locs : List Loc), va_P g.1 vwCl (jw_Mo g a_this a_this_isBlock a_this_isSeen a_this_lampX a_this_lampY a_this_right a_this_up a_this_keptRight a_this_keptUp a_this_name a_this_part a_this_codes a_this_above a_this_below a_this_length a_this_isMet v_thrown v_isBounce v_lamps v_squares v_intervals v_isBlock v_isSeen v_lampX v_lampY v_right v_up v_keptRight v_keptUp v_name v_part v_codes v_above v_below v_length v_isMet) H → va_S A s.heap H locs → ∀ ls : Array Slot, lv_has ls 6 [(0, .ref a_this), (2, .int z2), (3, .int q), (4, .int z4)] → W p l e jr_Mo_names s m ([.ref a_this, .int x1] : List Value).toArray below meth c H locs 0 0 Q (F0 m 79 ls [])) → W p l e jr_Mo_names s m ([.ref a_this, .int x1] : List Value).toArray below meth c H locs 0 0 Q (F0 m 39 ls []) := by
        intro n v_name z2 z4
        induction n with
        | zero =>
          intro z3 z5 H locs hP hS ls hl q hR k
          cases hR
        | succ n ih =>
          have J72 : ∀ (z5 : Int32) (s0 : Int32) (H : Heap) (locs : List Loc), va_P g.1 vwCl (jw_Mo g a_this a_this_isBlock a_this_isSeen a_this_lampX a_this_lampY a_this_right a_this_up a_this_keptRight a_this_keptUp a_this_name a_this_part a_this_codes a_this_above a_this_below a_this_length a_this_isMet v_thrown v_isBounce v_lamps v_squares v_intervals v_isBlock v_isSeen v_lampX v_lampY v_right v_up v_keptRight v_keptUp v_name v_part v_codes v_above v_below v_length v_isMet) H → va_S A s.heap H locs → ∀ (ls : Array Slot), lv_has ls 6 [(0, .ref a_this), (2, .int z2), (4, .int z4), (5, .int z5)] → ∀ q, jf_Mo_names_b72 (jf_Mo_names_L39 v_name z2 z4 n) v_name z2 z4 z5 s0 = some q → (∀ (H : Heap) (locs : List Loc), va_P g.1 vwCl (jw_Mo g a_this a_this_isBlock a_this_isSeen a_this_lampX a_this_lampY a_this_right a_this_up a_this_keptRight a_this_keptUp a_this_name a_this_part a_this_codes a_this_above a_this_below a_this_length a_this_isMet v_thrown v_isBounce v_lamps v_squares v_intervals v_isBlock v_isSeen v_lampX v_lampY v_right v_up v_keptRight v_keptUp v_name v_part v_codes v_above v_below v_length v_isMet) H → va_S A s.heap H locs → ∀ ls : Array Slot, lv_has ls 6 [(0, .ref a_this), (2, .int z2), (3, .int q), (4, .int z4)] → W p l e jr_Mo_names s m ([.ref a_this, .int x1] : List Value).toArray below meth c H locs 0 0 Q (F0 m 79 ls [])) → W p l e jr_Mo_names s m ([.ref a_this, .int x1] : List Value).toArray below meth c H locs 0 0 Q (F0 m 72 ls [.int s0]) := by
            intro z5 s0 H locs hP hS ls hl q hR k
            rw [jf_Mo_names_b72] at hR
            refine lv_istore_n (lv' := [(3, .int s0), (0, .ref a_this), (2, .int z2), (4, .int z4), (5, .int z5)]) hx hb dX7_names_72 rfl hl (by decide) rfl (fun ls hl => ?_)
            refine lv_iinc (v := z5 + 1) (lv' := [(5, .int (z5 + 1)), (3, .int s0), (0, .ref a_this), (2, .int z2), (4, .int z4)]) hx hb dX7_names_73 hl (k := 4) rfl (by first | rfl | decide) (by decide) rfl (fun ls hl => ?_)
            refine lv_goto (tgt := 39) hx hb dX7_names_76 (by decide) ?_
            exact ih s0 (z5 + 1) _ _ hP hS _ (lv_sub hl [2, 3, 1, 4, 0] rfl) _ hR k
          have J71 : ∀ (z5 : Int32) (H : Heap) (locs : List Loc), va_P g.1 vwCl (jw_Mo g a_this a_this_isBlock a_this_isSeen a_this_lampX a_this_lampY a_this_right a_this_up a_this_keptRight a_this_keptUp a_this_name a_this_part a_this_codes a_this_above a_this_below a_this_length a_this_isMet v_thrown v_isBounce v_lamps v_squares v_intervals v_isBlock v_isSeen v_lampX v_lampY v_right v_up v_keptRight v_keptUp v_name v_part v_codes v_above v_below v_length v_isMet) H → va_S A s.heap H locs → ∀ (ls : Array Slot), lv_has ls 6 [(0, .ref a_this), (2, .int z2), (4, .int z4), (5, .int z5)] → ∀ q, jf_Mo_names_b71 (jf_Mo_names_L39 v_name z2 z4 n) v_name z2 z4 z5 = some q → (∀ (H : Heap) (locs : List Loc), va_P g.1 vwCl (jw_Mo g a_this a_this_isBlock a_this_isSeen a_this_lampX a_this_lampY a_this_right a_this_up a_this_keptRight a_this_keptUp a_this_name a_this_part a_this_codes a_this_above a_this_below a_this_length a_this_isMet v_thrown v_isBounce v_lamps v_squares v_intervals v_isBlock v_isSeen v_lampX v_lampY v_right v_up v_keptRight v_keptUp v_name v_part v_codes v_above v_below v_length v_isMet) H → va_S A s.heap H locs → ∀ ls : Array Slot, lv_has ls 6 [(0, .ref a_this), (2, .int z2), (3, .int q), (4, .int z4)] → W p l e jr_Mo_names s m ([.ref a_this, .int x1] : List Value).toArray below meth c H locs 0 0 Q (F0 m 79 ls [])) → W p l e jr_Mo_names s m ([.ref a_this, .int x1] : List Value).toArray below meth c H locs 0 0 Q (F0 m 71 ls []) := by
            intro z5 H locs hP hS ls hl q hR k
            rw [jf_Mo_names_b71] at hR
            refine lv_iconst (v := 0) hx hb dX7_names_71 (by decide) ?_
            exact J72 z5 0 _ _ hP hS _ (lv_sub hl [0, 1, 2, 3] rfl) _ hR k
          intro z3 z5 H locs hP hS ls hl q hR k
          rw [jf_Mo_names_L39] at hR
          refine lv_iload hx hb dX7_names_39 (lv_at hl 4 rfl) ?_
          refine lv_iload hx hb dX7_names_41 (lv_at hl 3 rfl) ?_
          refine lv_icmp_ge (tgt := 79) hx hb dX7_names_43 (by decide) (fun c_5 => ?_) (fun c_5 => ?_)
          · replace hR := Eq.trans (Eq.symm (if_pos c_5)) hR
            cases hR
            exact k _ _ hP hS _ (lv_sub hl [0, 1, 2, 3] rfl)
          · replace hR := Eq.trans (Eq.symm (if_neg c_5)) hR
            refine lv_iload_n hx hb dX7_names_46 rfl (lv_at hl 2 rfl) ?_
            refine lv_if_eq (tgt := 71) hx hb dX7_names_47 (by decide) (fun c_6 => ?_) (fun c_6 => ?_)
            · replace hR := Eq.trans (Eq.symm (if_pos c_6)) hR
              exact J71 z5 _ _ hP hS _ (lv_sub hl [0, 1, 3, 4] rfl) _ hR k
            · replace hR := Eq.trans (Eq.symm (if_neg c_6)) hR
              refine lv_aload_n hx hb dX7_names_50 rfl (lv_at hl 0 rfl) ?_
              refine va_get (D := g.1) (ci := 7) (v := .ref a_this_name) (C := RX7) (T := TX7) (N := 20) hx hb hts w_X7 hown hK.1 hP 0 rfl rfl 12 (by decide) w_f39 (fun _ h9 => h9) rfl dX7_names_51 ?_
              refine lv_iload hx hb dX7_names_54 (lv_at hl 4 rfl) ?_
              by_cases c_7 : jin z5 5 = true
              case neg => replace hR := Eq.trans (Eq.symm (if_neg c_7)) hR; cases hR
              replace hR := Eq.trans (Eq.symm (if_pos c_7)) hR
              refine va_iald hx hb hK.1 hP 9 0 rfl rfl (jin_in c_7) dX7_names_56 ?_
              refine lv_aload_n hx hb dX7_names_57 rfl (lv_at hl 0 rfl) ?_
              refine va_get (D := g.1) (ci := 7) (v := .ref a_this_name) (C := RX7) (T := TX7) (N := 20) hx hb hts w_X7 hown hK.1 hP 0 rfl rfl 12 (by decide) w_f39 (fun _ h9 => h9) rfl dX7_names_58 ?_
              refine lv_iload hx hb dX7_names_61 (lv_at hl 3 rfl) ?_
              by_cases c_8 : jin z4 5 = true
              case neg => replace hR := Eq.trans (Eq.symm (if_neg c_8)) hR; cases hR
              replace hR := Eq.trans (Eq.symm (if_pos c_8)) hR
              refine va_iald hx hb hK.1 hP 9 0 rfl rfl (jin_in c_8) dX7_names_63 ?_
              refine lv_icmp_eq (tgt := 71) hx hb dX7_names_64 (by decide) (fun c_9 => ?_) (fun c_9 => ?_)
              · replace hR := Eq.trans (Eq.symm (if_pos c_9)) hR
                exact J71 z5 _ _ hP hS _ (lv_sub hl [0, 1, 3, 4] rfl) _ hR k
              · replace hR := Eq.trans (Eq.symm (if_neg c_9)) hR
                refine lv_iconst (v := 1) hx hb dX7_names_67 (by decide) ?_
                refine lv_goto (tgt := 72) hx hb dX7_names_68 (by decide) ?_
                exact J72 z5 1 _ _ hP hS _ (lv_sub hl [0, 1, 3, 4] rfl) _ hR k
      intro z2 z3 z4 v_name H locs hP hS ls hl q hR k
      rw [jf_Mo_names_L7] at hR
      refine lv_iload hx hb dX7_names_7 (lv_at hl 3 rfl) ?_
      refine lv_aload_n hx hb dX7_names_9 rfl (lv_at hl 0 rfl) ?_
      refine va_get (D := g.1) (ci := 7) (v := .int v_squares) (C := RX7) (T := TX7) (N := 20) hx hb hts w_X7 hown hK.1 hP 0 rfl rfl 7 (by decide) w_f23 (fun _ h9 => h9) rfl dX7_names_10 ?_
      refine lv_icmp_ge (tgt := 85) hx hb dX7_names_13 (by decide) (fun c_1 => ?_) (fun c_1 => ?_)
      · replace hR := Eq.trans (Eq.symm (if_pos c_1)) hR
        cases hR
        exact k _ _ hP hS _ (lv_sub hl [2] rfl)
      · replace hR := Eq.trans (Eq.symm (if_neg c_1)) hR
        refine lv_aload_n hx hb dX7_names_16 rfl (lv_at hl 0 rfl) ?_
        refine va_get (D := g.1) (ci := 7) (v := .ref a_this_name) (C := RX7) (T := TX7) (N := 20) hx hb hts w_X7 hown hK.1 hP 0 rfl rfl 12 (by decide) w_f39 (fun _ h9 => h9) rfl dX7_names_17 ?_
        refine lv_iload hx hb dX7_names_20 (lv_at hl 3 rfl) ?_
        refine lv_iload_n hx hb dX7_names_22 rfl (lv_at hl 1 rfl) ?_
        refine lv_aload_n hx hb dX7_names_23 rfl (lv_at hl 0 rfl) ?_
        refine va_get (D := g.1) (ci := 7) (v := .int v_squares) (C := RX7) (T := TX7) (N := 20) hx hb hts w_X7 hown hK.1 hP 0 rfl rfl 7 (by decide) w_f23 (fun _ h9 => h9) rfl dX7_names_24 ?_
        by_cases c_2 : v_squares = 0
        · replace hR := Eq.trans (Eq.symm (if_pos c_2)) hR
          cases hR
        replace hR := Eq.trans (Eq.symm (if_neg c_2)) hR
        refine lv_irem hx hb dX7_names_27 c_2 ?_
        by_cases c_3 : jin z4 5 = true
        case neg => replace hR := Eq.trans (Eq.symm (if_neg c_3)) hR; cases hR
        replace hR := Eq.trans (Eq.symm (if_pos c_3)) hR
        refine va_iast hx hb hK.1 hP (jD_to hD rfl) hS 9 0 rfl rfl (jin_in c_3) dX7_names_28 (fun H locs hP _ hS => ?_)
        have hP : va_P g.1 vwCl (jw_Mo g a_this a_this_isBlock a_this_isSeen a_this_lampX a_this_lampY a_this_right a_this_up a_this_keptRight a_this_keptUp a_this_name a_this_part a_this_codes a_this_above a_this_below a_this_length a_this_isMet v_thrown v_isBounce v_lamps v_squares v_intervals v_isBlock v_isSeen v_lampX v_lampY v_right v_up v_keptRight v_keptUp (upd v_name z4.toNatClampNeg (z2 - z2 / v_squares * v_squares)) v_part v_codes v_above v_below v_length v_isMet) H := hP
        refine lv_iload_n hx hb dX7_names_29 rfl (lv_at hl 1 rfl) ?_
        refine lv_aload_n hx hb dX7_names_30 rfl (lv_at hl 0 rfl) ?_
        refine va_get (D := g.1) (ci := 7) (v := .int v_squares) (C := RX7) (T := TX7) (N := 20) hx hb hts w_X7 hown hK.1 hP 0 rfl rfl 7 (by decide) w_f23 (fun _ h9 => h9) rfl dX7_names_31 ?_
        by_cases c_4 : v_squares = 0
        · replace hR := Eq.trans (Eq.symm (if_pos c_4)) hR
          cases hR
        replace hR := Eq.trans (Eq.symm (if_neg c_4)) hR
        refine lv_idiv hx hb dX7_names_34 c_4 ?_
        refine jlet_i hR (fun y2_1 hR => ?_)
        try dsimp only at hR
        refine lv_istore_n (lv' := [(2, .int y2_1), (0, .ref a_this), (3, .int z3), (4, .int z4)]) hx hb dX7_names_35 rfl hl (by decide) rfl (fun ls hl => ?_)
        refine lv_iconst (v := 0) hx hb dX7_names_36 (by decide) ?_
        refine lv_istore (lv' := [(5, .int 0), (2, .int y2_1), (0, .ref a_this), (3, .int z3), (4, .int z4)]) hx hb dX7_names_37 hl (by decide) rfl (fun ls hl => ?_)
        obtain ⟨q_1, hq_1, hR⟩ := jbind hR
        try dsimp only at hR
        refine L39 jF (upd v_name z4.toNatClampNeg (z2 - z2 / v_squares * v_squares)) y2_1 z4 z3 0 _ _ hP hS _ (lv_sub hl [2, 1, 3, 4, 0] rfl) _ hq_1 (fun H locs hP hS ls hl => ?_)
        refine lv_iinc (v := z4 + 1) (lv' := [(4, .int (z4 + 1)), (0, .ref a_this), (2, .int y2_1), (3, .int q_1)]) hx hb dX7_names_79 hl (k := 3) rfl (by first | rfl | decide) (by decide) rfl (fun ls hl => ?_)
        refine lv_goto (tgt := 7) hx hb dX7_names_82 (by decide) ?_
        exact ih y2_1 q_1 (z4 + 1) (upd v_name z4.toNatClampNeg (z2 - z2 / v_squares * v_squares)) _ _ hP hS _ (lv_sub hl [1, 2, 3, 0] rfl) _ hR k
  rw [jf_Mo_names] at hR
  refine lv_iload_n hx hb dX7_names_0 rfl (lv_at hl 1 rfl) ?_
  refine lv_istore_n (lv' := [(2, .int x1), (0, .ref a_this), (1, .int x1)]) hx hb dX7_names_1 rfl hl (by decide) rfl (fun ls hl => ?_)
  refine lv_iconst (v := 1) hx hb dX7_names_2 (by decide) ?_
  refine lv_istore_n (lv' := [(3, .int 1), (2, .int x1), (0, .ref a_this), (1, .int x1)]) hx hb dX7_names_3 rfl hl (by decide) rfl (fun ls hl => ?_)
  refine lv_iconst (v := 0) hx hb dX7_names_4 (by decide) ?_
  refine lv_istore (lv' := [(4, .int 0), (3, .int 1), (2, .int x1), (0, .ref a_this), (1, .int x1)]) hx hb dX7_names_5 hl (by decide) rfl (fun ls hl => ?_)
  obtain ⟨q_2, hq_2, hR⟩ := jbind hR
  try dsimp only at hR
  refine L7 jF x1 1 0 v_name _ _ hP hS _ (lv_sub hl [3, 2, 1, 0] rfl) _ hq_2 (fun H locs hP hS ls hl => ?_)
  refine lv_iload_n hx hb dX7_names_85 rfl (lv_at hl 0 rfl) ?_
  obtain rfl := (Option.some.inj hR)
  exact fin _ _ _ _ _ (by first | rfl | decide) hP hS dX7_names_86
def jf_Mo_number_L14 (v_name : Nat → Int32) (z1 : Int32) (z2 : Int32) : Nat → Int32 → Option Int32
  | 0, _ => none
  | n + 1, z3 =>
    if jin z3 5 = true then (if v_name z3.toNatClampNeg = z2 then (some z3) else ((jf_Mo_number_L14 v_name z1 z2 n) (z3 + 1))) else none
def jf_Mo_number_L4 (v_squares : Int32) (v_right : Nat → Int32) (v_up : Nat → Int32) (v_name : Nat → Int32) : Nat → Int32 → Int32 → Option Int32
  | 0, _, _ => none
  | n + 1, z1, z2 =>
    if v_squares ≤ z2 then (some z1) else (Option.bind (jf_Mo_number_L14 v_name z1 z2 jF 0) (fun q_1 => if jin q_1 5 = true then (if jin (v_right q_1.toNatClampNeg) 5 = true then (if jin q_1 5 = true then (if jin (v_up q_1.toNatClampNeg) 5 = true then (jlet (((25 * z1) + (5 * (v_name (v_right q_1.toNatClampNeg).toNatClampNeg))) + (v_name (v_up q_1.toNatClampNeg).toNatClampNeg)) (fun y1_1 => (jf_Mo_number_L4 v_squares v_right v_up v_name n) y1_1 (z2 + 1))) else none) else none) else none) else none))
def jf_Mo_number (v_squares : Int32) (v_right : Nat → Int32) (v_up : Nat → Int32) (v_name : Nat → Int32) : Option Int32 :=
  Option.bind (jf_Mo_number_L4 v_squares v_right v_up v_name jF 0 0) (fun q_2 => some q_2)
abbrev jr_Mo_number : Room := { frames := 0, cells := 0, slots := 0, locals := 0 }
set_option maxRecDepth 100000 in
set_option maxHeartbeats 4000000 in
theorem jc_Mo_number (l : Launch) (g : jG) (a_this a_this_isBlock a_this_isSeen a_this_lampX a_this_lampY a_this_right a_this_up a_this_keptRight a_this_keptUp a_this_name a_this_part a_this_codes a_this_above a_this_below a_this_length a_this_isMet : Nat) (v_thrown : Int32) (v_isBounce : Int32) (v_lamps : Int32) (v_squares : Int32) (v_intervals : Int32) (v_isBlock : Nat → Int32) (v_isSeen : Nat → Int32) (v_lampX : Nat → Int32) (v_lampY : Nat → Int32) (v_right : Nat → Int32) (v_up : Nat → Int32) (v_keptRight : Nat → Int32) (v_keptUp : Nat → Int32) (v_name : Nat → Int32) (v_part : Nat → Int32) (v_codes : Nat → Int32) (v_above : Nat → Int32) (v_below : Nat → Int32) (v_length : Nat → Int32) (v_isMet : Nat → Int32) (R : Int32) (hR : jf_Mo_number v_squares v_right v_up v_name = some R) : Met l yX7_number wsX7_number jr_Mo_number (jPr g [.ref a_this] (jw_Mo g a_this a_this_isBlock a_this_isSeen a_this_lampX a_this_lampY a_this_right a_this_up a_this_keptRight a_this_keptUp a_this_name a_this_part a_this_codes a_this_above a_this_below a_this_length a_this_isMet v_thrown v_isBounce v_lamps v_squares v_intervals v_isBlock v_isSeen v_lampX v_lampY v_right v_up v_keptRight v_keptUp v_name v_part v_codes v_above v_below v_length v_isMet)) (vp_Si (fun r => r = R)) 0 0 (fun _ => False) := by
  refine jm_ri (cc := cX7_number) (maxL := 4) (by decide +kernel) rfl (Nat.le_of_ble_eq_true rfl) ?_
  intro p e s m below meth c Q hx hb hml hown hts hK hP fin ls hl
  have hl : lv_has ls 4 [(0, .ref a_this)] := hl
  have hown : s.vm.findClass RX7 = some m.cls := hown
  have w_X7 : ∀ w ∈ u_ws RX7 TX7 20, w ∈ wsX7_number := by decide +kernel
  have w_f23 := hts (.fieldLink RX7 23 "BilliardryModel" "squares" "I") (by decide +kernel)
  have w_f39 := hts (.fieldLink RX7 39 "BilliardryModel" "name" "[I") (by decide +kernel)
  have w_f27 := hts (.fieldLink RX7 27 "BilliardryModel" "right" "[I") (by decide +kernel)
  have w_f30 := hts (.fieldLink RX7 30 "BilliardryModel" "up" "[I") (by decide +kernel)
  have L4 : ∀ (n : Nat) (z1 : Int32) (z2 : Int32) (ls : Array Slot), lv_has ls 4 [(0, .ref a_this), (1, .int z1), (2, .int z2)] → ∀ q, jf_Mo_number_L4 v_squares v_right v_up v_name n z1 z2 = some q → (∀ ls : Array Slot, lv_has ls 4 [(1, .int q)] → W p l e jr_Mo_number s m ([.ref a_this] : List Value).toArray below meth c s.heap [] 0 0 Q (F0 m 67 ls [])) → W p l e jr_Mo_number s m ([.ref a_this] : List Value).toArray below meth c s.heap [] 0 0 Q (F0 m 4 ls []) := by
    intro n
    induction n with
    | zero =>
      intro z1 z2 ls hl q hR k
      cases hR
    | succ n ih =>
      have L14 : ∀ (n : Nat) (z1 : Int32) (z2 : Int32) (z3 : Int32) (ls : Array Slot), lv_has ls 4 [(0, .ref a_this), (1, .int z1), (2, .int z2), (3, .int z3)] → ∀ q, jf_Mo_number_L14 v_name z1 z2 n z3 = some q → (∀ ls : Array Slot, lv_has ls 4 [(0, .ref a_this), (1, .int z1), (2, .int z2), (3, .int q)] → W p l e jr_Mo_number s m ([.ref a_this] : List Value).toArray below meth c s.heap [] 0 0 Q (F0 m 30 ls [])) → W p l e jr_Mo_number s m ([.ref a_this] : List Value).toArray below meth c s.heap [] 0 0 Q (F0 m 14 ls []) := by
        intro n z1 z2
        induction n with
        | zero =>
          intro z3 ls hl q hR k
          cases hR
        | succ n ih =>
          intro z3 ls hl q hR k
          rw [jf_Mo_number_L14] at hR
          refine lv_aload_n hx hb dX7_number_14 rfl (lv_at hl 0 rfl) ?_
          refine va_get (D := g.1) (ci := 7) (v := .ref a_this_name) (C := RX7) (T := TX7) (N := 20) hx hb hts w_X7 hown hK.1 hP 0 rfl rfl 12 (by decide) w_f39 (fun _ h9 => h9) rfl dX7_number_15 ?_
          refine lv_iload_n hx hb dX7_number_18 rfl (lv_at hl 3 rfl) ?_
          by_cases c_2 : jin z3 5 = true
          case neg => replace hR := Eq.trans (Eq.symm (if_neg c_2)) hR; cases hR
          replace hR := Eq.trans (Eq.symm (if_pos c_2)) hR
          refine va_iald hx hb hK.1 hP 9 0 rfl rfl (jin_in c_2) dX7_number_19 ?_
          refine lv_iload_n hx hb dX7_number_20 rfl (lv_at hl 2 rfl) ?_
          refine lv_icmp_eq (tgt := 30) hx hb dX7_number_21 (by decide) (fun c_3 => ?_) (fun c_3 => ?_)
          · replace hR := Eq.trans (Eq.symm (if_pos c_3)) hR
            cases hR
            exact k _ (lv_sub hl [0, 1, 2, 3] rfl)
          · replace hR := Eq.trans (Eq.symm (if_neg c_3)) hR
            refine lv_iinc (v := z3 + 1) (lv' := [(3, .int (z3 + 1)), (0, .ref a_this), (1, .int z1), (2, .int z2)]) hx hb dX7_number_24 hl (k := 3) rfl (by first | rfl | decide) (by decide) rfl (fun ls hl => ?_)
            refine lv_goto (tgt := 14) hx hb dX7_number_27 (by decide) ?_
            exact ih (z3 + 1) _ (lv_sub hl [1, 2, 3, 0] rfl) _ hR k
      intro z1 z2 ls hl q hR k
      rw [jf_Mo_number_L4] at hR
      refine lv_iload_n hx hb dX7_number_4 rfl (lv_at hl 2 rfl) ?_
      refine lv_aload_n hx hb dX7_number_5 rfl (lv_at hl 0 rfl) ?_
      refine va_get (D := g.1) (ci := 7) (v := .int v_squares) (C := RX7) (T := TX7) (N := 20) hx hb hts w_X7 hown hK.1 hP 0 rfl rfl 7 (by decide) w_f23 (fun _ h9 => h9) rfl dX7_number_6 ?_
      refine lv_icmp_ge (tgt := 67) hx hb dX7_number_9 (by decide) (fun c_1 => ?_) (fun c_1 => ?_)
      · replace hR := Eq.trans (Eq.symm (if_pos c_1)) hR
        cases hR
        exact k _ (lv_sub hl [1] rfl)
      · replace hR := Eq.trans (Eq.symm (if_neg c_1)) hR
        refine lv_iconst (v := 0) hx hb dX7_number_12 (by decide) ?_
        refine lv_istore_n (lv' := [(3, .int 0), (0, .ref a_this), (1, .int z1), (2, .int z2)]) hx hb dX7_number_13 rfl hl (by decide) rfl (fun ls hl => ?_)
        obtain ⟨q_1, hq_1, hR⟩ := jbind hR
        try dsimp only at hR
        refine L14 jF z1 z2 0 _ (lv_sub hl [1, 2, 3, 0] rfl) _ hq_1 (fun ls hl => ?_)
        refine lv_bipush (v := 25) hx hb dX7_number_30 (by decide) ?_
        refine lv_iload_n hx hb dX7_number_32 rfl (lv_at hl 1 rfl) ?_
        refine lv_imul hx hb dX7_number_33 ?_
        refine lv_iconst (v := 5) hx hb dX7_number_34 (by decide) ?_
        refine lv_aload_n hx hb dX7_number_35 rfl (lv_at hl 0 rfl) ?_
        refine va_get (D := g.1) (ci := 7) (v := .ref a_this_name) (C := RX7) (T := TX7) (N := 20) hx hb hts w_X7 hown hK.1 hP 0 rfl rfl 12 (by decide) w_f39 (fun _ h9 => h9) rfl dX7_number_36 ?_
        refine lv_aload_n hx hb dX7_number_39 rfl (lv_at hl 0 rfl) ?_
        refine va_get (D := g.1) (ci := 7) (v := .ref a_this_right) (C := RX7) (T := TX7) (N := 20) hx hb hts w_X7 hown hK.1 hP 0 rfl rfl 8 (by decide) w_f27 (fun _ h9 => h9) rfl dX7_number_40 ?_
        refine lv_iload_n hx hb dX7_number_43 rfl (lv_at hl 3 rfl) ?_
        by_cases c_4 : jin q_1 5 = true
        case neg => replace hR := Eq.trans (Eq.symm (if_neg c_4)) hR; cases hR
        replace hR := Eq.trans (Eq.symm (if_pos c_4)) hR
        refine va_iald hx hb hK.1 hP 5 0 rfl rfl (jin_in c_4) dX7_number_44 ?_
        by_cases c_5 : jin (v_right q_1.toNatClampNeg) 5 = true
        case neg => replace hR := Eq.trans (Eq.symm (if_neg c_5)) hR; cases hR
        replace hR := Eq.trans (Eq.symm (if_pos c_5)) hR
        refine va_iald hx hb hK.1 hP 9 0 rfl rfl (jin_in c_5) dX7_number_45 ?_
        refine lv_imul hx hb dX7_number_46 ?_
        refine lv_iadd hx hb dX7_number_47 ?_
        refine lv_aload_n hx hb dX7_number_48 rfl (lv_at hl 0 rfl) ?_
        refine va_get (D := g.1) (ci := 7) (v := .ref a_this_name) (C := RX7) (T := TX7) (N := 20) hx hb hts w_X7 hown hK.1 hP 0 rfl rfl 12 (by decide) w_f39 (fun _ h9 => h9) rfl dX7_number_49 ?_
        refine lv_aload_n hx hb dX7_number_52 rfl (lv_at hl 0 rfl) ?_
        refine va_get (D := g.1) (ci := 7) (v := .ref a_this_up) (C := RX7) (T := TX7) (N := 20) hx hb hts w_X7 hown hK.1 hP 0 rfl rfl 9 (by decide) w_f30 (fun _ h9 => h9) rfl dX7_number_53 ?_
        refine lv_iload_n hx hb dX7_number_56 rfl (lv_at hl 3 rfl) ?_
        by_cases c_6 : jin q_1 5 = true
        case neg => replace hR := Eq.trans (Eq.symm (if_neg c_6)) hR; cases hR
        replace hR := Eq.trans (Eq.symm (if_pos c_6)) hR
        refine va_iald hx hb hK.1 hP 6 0 rfl rfl (jin_in c_6) dX7_number_57 ?_
        by_cases c_7 : jin (v_up q_1.toNatClampNeg) 5 = true
        case neg => replace hR := Eq.trans (Eq.symm (if_neg c_7)) hR; cases hR
        replace hR := Eq.trans (Eq.symm (if_pos c_7)) hR
        refine va_iald hx hb hK.1 hP 9 0 rfl rfl (jin_in c_7) dX7_number_58 ?_
        refine lv_iadd hx hb dX7_number_59 ?_
        refine jlet_i hR (fun y1_1 hR => ?_)
        try dsimp only at hR
        refine lv_istore_n (lv' := [(1, .int y1_1), (0, .ref a_this), (2, .int z2), (3, .int q_1)]) hx hb dX7_number_60 rfl hl (by decide) rfl (fun ls hl => ?_)
        refine lv_iinc (v := z2 + 1) (lv' := [(2, .int (z2 + 1)), (1, .int y1_1), (0, .ref a_this), (3, .int q_1)]) hx hb dX7_number_61 hl (k := 2) rfl (by first | rfl | decide) (by decide) rfl (fun ls hl => ?_)
        refine lv_goto (tgt := 4) hx hb dX7_number_64 (by decide) ?_
        exact ih y1_1 (z2 + 1) _ (lv_sub hl [2, 1, 0] rfl) _ hR k
  rw [jf_Mo_number] at hR
  refine lv_iconst (v := 0) hx hb dX7_number_0 (by decide) ?_
  refine lv_istore_n (lv' := [(1, .int 0), (0, .ref a_this)]) hx hb dX7_number_1 rfl hl (by decide) rfl (fun ls hl => ?_)
  refine lv_iconst (v := 0) hx hb dX7_number_2 (by decide) ?_
  refine lv_istore_n (lv' := [(2, .int 0), (1, .int 0), (0, .ref a_this)]) hx hb dX7_number_3 rfl hl (by decide) rfl (fun ls hl => ?_)
  obtain ⟨q_2, hq_2, hR⟩ := jbind hR
  try dsimp only at hR
  refine L4 jF 0 0 _ (lv_sub hl [2, 1, 0] rfl) _ hq_2 (fun ls hl => ?_)
  refine lv_iload_n hx hb dX7_number_67 rfl (lv_at hl 0 rfl) ?_
  exact fin _ _ _ (Option.some.inj hR) dX7_number_68
def jf_Mo_codeNow_L4 (v_squares : Int32) : Nat → Int32 → Int32 → Option Int32
  | 0, _, _ => none
  | n + 1, z1, z2 =>
    if v_squares ≤ z2 then (some z1) else (jlet (z1 * v_squares) (fun y1_1 => (jf_Mo_codeNow_L4 v_squares n) y1_1 (z2 + 1)))
def jf_Mo_codeNow_b55 (self : Int32 → Int32 → (Nat → Int32) → Option (Int32 × (Nat → Int32))) (v_squares : Int32) (v_right : Nat → Int32) (v_up : Nat → Int32) (v_name : Nat → Int32) (z1 : Int32) (z3 : Int32) (s0 : Int32) : Option (Int32 × (Nat → Int32)) :=
  self s0 (z3 + 1) v_name
def jf_Mo_codeNow_L30 (v_squares : Int32) (v_right : Nat → Int32) (v_up : Nat → Int32) (z1 : Int32) : Nat → Int32 → Int32 → (Nat → Int32) → Option (Int32 × (Nat → Int32))
  | 0, _, _, _ => none
  | n + 1, z2, z3, v_name =>
    if z1 ≤ z3 then (some (z2, v_name)) else (Option.bind (jf_Mo_names v_squares v_name z3) (fun q_2 => if q_2.1 = 0 then (jf_Mo_codeNow_b55 (jf_Mo_codeNow_L30 v_squares v_right v_up z1 n) v_squares v_right v_up q_2.2 z1 z3 z2) else (Option.bind (jf_Mo_number v_squares v_right v_up q_2.2) (fun q_3 => jf_Mo_codeNow_b55 (jf_Mo_codeNow_L30 v_squares v_right v_up z1 n) v_squares v_right v_up q_2.2 z1 z3 (jf_Mo_least z2 q_3)))))
def jf_Mo_codeNow (v_squares : Int32) (v_right : Nat → Int32) (v_up : Nat → Int32) (v_name : Nat → Int32) : Option (Int32 × (Nat → Int32)) :=
  Option.bind (jf_Mo_codeNow_L4 v_squares jF 1 0) (fun q_1 => Option.bind (jf_Mo_codeNow_L30 v_squares v_right v_up q_1 jF 2147483647 0 v_name) (fun q_4 => some (q_4.1, q_4.2)))
abbrev jr_Mo_codeNow : Room := { frames := 1, cells := 0, slots := 0, locals := 25 }
set_option maxRecDepth 100000 in
set_option maxHeartbeats 4000000 in
theorem jc_Mo_codeNow (l : Launch) (g : jG) (a_this a_this_isBlock a_this_isSeen a_this_lampX a_this_lampY a_this_right a_this_up a_this_keptRight a_this_keptUp a_this_name a_this_part a_this_codes a_this_above a_this_below a_this_length a_this_isMet : Nat) (v_thrown : Int32) (v_isBounce : Int32) (v_lamps : Int32) (v_squares : Int32) (v_intervals : Int32) (v_isBlock : Nat → Int32) (v_isSeen : Nat → Int32) (v_lampX : Nat → Int32) (v_lampY : Nat → Int32) (v_right : Nat → Int32) (v_up : Nat → Int32) (v_keptRight : Nat → Int32) (v_keptUp : Nat → Int32) (v_name : Nat → Int32) (v_part : Nat → Int32) (v_codes : Nat → Int32) (v_above : Nat → Int32) (v_below : Nat → Int32) (v_length : Nat → Int32) (v_isMet : Nat → Int32) (R : Int32 × (Nat → Int32)) (hR : jf_Mo_codeNow v_squares v_right v_up v_name = some R) (sz : Nat) : Met l yX7_codeNow wsX7_codeNow jr_Mo_codeNow (jPw g [.ref a_this] (jw_Mo g a_this a_this_isBlock a_this_isSeen a_this_lampX a_this_lampY a_this_right a_this_up a_this_keptRight a_this_keptUp a_this_name a_this_part a_this_codes a_this_above a_this_below a_this_length a_this_isMet v_thrown v_isBounce v_lamps v_squares v_intervals v_isBlock v_isSeen v_lampX v_lampY v_right v_up v_keptRight v_keptUp v_name v_part v_codes v_above v_below v_length v_isMet) sz) (jQi g R.1 (jw_Mo g a_this a_this_isBlock a_this_isSeen a_this_lampX a_this_lampY a_this_right a_this_up a_this_keptRight a_this_keptUp a_this_name a_this_part a_this_codes a_this_above a_this_below a_this_length a_this_isMet v_thrown v_isBounce v_lamps v_squares v_intervals v_isBlock v_isSeen v_lampX v_lampY v_right v_up v_keptRight v_keptUp R.2 v_part v_codes v_above v_below v_length v_isMet) (va_A (jw_Mo g a_this a_this_isBlock a_this_isSeen a_this_lampX a_this_lampY a_this_right a_this_up a_this_keptRight a_this_keptUp a_this_name a_this_part a_this_codes a_this_above a_this_below a_this_length a_this_isMet v_thrown v_isBounce v_lamps v_squares v_intervals v_isBlock v_isSeen v_lampX v_lampY v_right v_up v_keptRight v_keptUp v_name v_part v_codes v_above v_below v_length v_isMet) sz)) 0 0 (va_A (jw_Mo g a_this a_this_isBlock a_this_isSeen a_this_lampX a_this_lampY a_this_right a_this_up a_this_keptRight a_this_keptUp a_this_name a_this_part a_this_codes a_this_above a_this_below a_this_length a_this_isMet v_thrown v_isBounce v_lamps v_squares v_intervals v_isBlock v_isSeen v_lampX v_lampY v_right v_up v_keptRight v_keptUp v_name v_part v_codes v_above v_below v_length v_isMet) sz) := by
  refine jm_wi (cc := cX7_codeNow) (maxL := 4) (by decide +kernel) rfl (Nat.le_of_ble_eq_true rfl) ?_
  intro p e s m below meth c A Q hx hb hml hown hts hK hP hD hA hS fin ls hl
  have hl : lv_has ls 4 [(0, .ref a_this)] := hl
  have hown : s.vm.findClass RX7 = some m.cls := hown
  have w_X7 : ∀ w ∈ u_ws RX7 TX7 20, w ∈ wsX7_codeNow := by decide +kernel
  have w_f23 := hts (.fieldLink RX7 23 "BilliardryModel" "squares" "I") (by decide +kernel)
  have L4 : ∀ (n : Nat) (v_name : Nat → Int32) (z1 : Int32) (z2 : Int32) (H : Heap) (locs : List Loc), va_P g.1 vwCl (jw_Mo g a_this a_this_isBlock a_this_isSeen a_this_lampX a_this_lampY a_this_right a_this_up a_this_keptRight a_this_keptUp a_this_name a_this_part a_this_codes a_this_above a_this_below a_this_length a_this_isMet v_thrown v_isBounce v_lamps v_squares v_intervals v_isBlock v_isSeen v_lampX v_lampY v_right v_up v_keptRight v_keptUp v_name v_part v_codes v_above v_below v_length v_isMet) H → va_S A s.heap H locs → ∀ (ls : Array Slot), lv_has ls 4 [(0, .ref a_this), (1, .int z1), (2, .int z2)] → ∀ q, jf_Mo_codeNow_L4 v_squares n z1 z2 = some q → (∀ (H : Heap) (locs : List Loc), va_P g.1 vwCl (jw_Mo g a_this a_this_isBlock a_this_isSeen a_this_lampX a_this_lampY a_this_right a_this_up a_this_keptRight a_this_keptUp a_this_name a_this_part a_this_codes a_this_above a_this_below a_this_length a_this_isMet v_thrown v_isBounce v_lamps v_squares v_intervals v_isBlock v_isSeen v_lampX v_lampY v_right v_up v_keptRight v_keptUp v_name v_part v_codes v_above v_below v_length v_isMet) H → va_S A s.heap H locs → ∀ ls : Array Slot, lv_has ls 4 [(0, .ref a_this), (1, .int q)] → W p l e jr_Mo_codeNow s m ([.ref a_this] : List Value).toArray below meth c H locs 0 0 Q (F0 m 25 ls [])) → W p l e jr_Mo_codeNow s m ([.ref a_this] : List Value).toArray below meth c H locs 0 0 Q (F0 m 4 ls []) := by
    intro n v_name
    induction n with
    | zero =>
      intro z1 z2 H locs hP hS ls hl q hR k
      cases hR
    | succ n ih =>
      intro z1 z2 H locs hP hS ls hl q hR k
      rw [jf_Mo_codeNow_L4] at hR
      refine lv_iload_n hx hb dX7_codeNow_4 rfl (lv_at hl 2 rfl) ?_
      refine lv_aload_n hx hb dX7_codeNow_5 rfl (lv_at hl 0 rfl) ?_
      refine va_get (D := g.1) (ci := 7) (v := .int v_squares) (C := RX7) (T := TX7) (N := 20) hx hb hts w_X7 hown hK.1 hP 0 rfl rfl 7 (by decide) w_f23 (fun _ h9 => h9) rfl dX7_codeNow_6 ?_
      refine lv_icmp_ge (tgt := 25) hx hb dX7_codeNow_9 (by decide) (fun c_1 => ?_) (fun c_1 => ?_)
      · replace hR := Eq.trans (Eq.symm (if_pos c_1)) hR
        cases hR
        exact k _ _ hP hS _ (lv_sub hl [0, 1] rfl)
      · replace hR := Eq.trans (Eq.symm (if_neg c_1)) hR
        refine lv_iload_n hx hb dX7_codeNow_12 rfl (lv_at hl 1 rfl) ?_
        refine lv_aload_n hx hb dX7_codeNow_13 rfl (lv_at hl 0 rfl) ?_
        refine va_get (D := g.1) (ci := 7) (v := .int v_squares) (C := RX7) (T := TX7) (N := 20) hx hb hts w_X7 hown hK.1 hP 0 rfl rfl 7 (by decide) w_f23 (fun _ h9 => h9) rfl dX7_codeNow_14 ?_
        refine lv_imul hx hb dX7_codeNow_17 ?_
        refine jlet_i hR (fun y1_1 hR => ?_)
        try dsimp only at hR
        refine lv_istore_n (lv' := [(1, .int y1_1), (0, .ref a_this), (2, .int z2)]) hx hb dX7_codeNow_18 rfl hl (by decide) rfl (fun ls hl => ?_)
        refine lv_iinc (v := z2 + 1) (lv' := [(2, .int (z2 + 1)), (1, .int y1_1), (0, .ref a_this)]) hx hb dX7_codeNow_19 hl (k := 2) rfl (by first | rfl | decide) (by decide) rfl (fun ls hl => ?_)
        refine lv_goto (tgt := 4) hx hb dX7_codeNow_22 (by decide) ?_
        exact ih y1_1 (z2 + 1) _ _ hP hS _ (lv_sub hl [2, 1, 0] rfl) _ hR k
  have L30 : ∀ (n : Nat) (z1 : Int32) (z2 : Int32) (z3 : Int32) (v_name : Nat → Int32) (H : Heap) (locs : List Loc), va_P g.1 vwCl (jw_Mo g a_this a_this_isBlock a_this_isSeen a_this_lampX a_this_lampY a_this_right a_this_up a_this_keptRight a_this_keptUp a_this_name a_this_part a_this_codes a_this_above a_this_below a_this_length a_this_isMet v_thrown v_isBounce v_lamps v_squares v_intervals v_isBlock v_isSeen v_lampX v_lampY v_right v_up v_keptRight v_keptUp v_name v_part v_codes v_above v_below v_length v_isMet) H → va_S A s.heap H locs → ∀ (ls : Array Slot), lv_has ls 4 [(0, .ref a_this), (1, .int z1), (2, .int z2), (3, .int z3)] → ∀ q, jf_Mo_codeNow_L30 v_squares v_right v_up z1 n z2 z3 v_name = some q → (∀ (H : Heap) (locs : List Loc), va_P g.1 vwCl (jw_Mo g a_this a_this_isBlock a_this_isSeen a_this_lampX a_this_lampY a_this_right a_this_up a_this_keptRight a_this_keptUp a_this_name a_this_part a_this_codes a_this_above a_this_below a_this_length a_this_isMet v_thrown v_isBounce v_lamps v_squares v_intervals v_isBlock v_isSeen v_lampX v_lampY v_right v_up v_keptRight v_keptUp q.2 v_part v_codes v_above v_below v_length v_isMet) H → va_S A s.heap H locs → ∀ ls : Array Slot, lv_has ls 4 [(2, .int q.1)] → W p l e jr_Mo_codeNow s m ([.ref a_this] : List Value).toArray below meth c H locs 0 0 Q (F0 m 62 ls [])) → W p l e jr_Mo_codeNow s m ([.ref a_this] : List Value).toArray below meth c H locs 0 0 Q (F0 m 30 ls []) := by
    intro n z1
    induction n with
    | zero =>
      intro z2 z3 v_name H locs hP hS ls hl q hR k
      cases hR
    | succ n ih =>
      have J55 : ∀ (v_name : Nat → Int32) (z3 : Int32) (s0 : Int32) (H : Heap) (locs : List Loc), va_P g.1 vwCl (jw_Mo g a_this a_this_isBlock a_this_isSeen a_this_lampX a_this_lampY a_this_right a_this_up a_this_keptRight a_this_keptUp a_this_name a_this_part a_this_codes a_this_above a_this_below a_this_length a_this_isMet v_thrown v_isBounce v_lamps v_squares v_intervals v_isBlock v_isSeen v_lampX v_lampY v_right v_up v_keptRight v_keptUp v_name v_part v_codes v_above v_below v_length v_isMet) H → va_S A s.heap H locs → ∀ (ls : Array Slot), lv_has ls 4 [(0, .ref a_this), (1, .int z1), (3, .int z3)] → ∀ q, jf_Mo_codeNow_b55 (jf_Mo_codeNow_L30 v_squares v_right v_up z1 n) v_squares v_right v_up v_name z1 z3 s0 = some q → (∀ (H : Heap) (locs : List Loc), va_P g.1 vwCl (jw_Mo g a_this a_this_isBlock a_this_isSeen a_this_lampX a_this_lampY a_this_right a_this_up a_this_keptRight a_this_keptUp a_this_name a_this_part a_this_codes a_this_above a_this_below a_this_length a_this_isMet v_thrown v_isBounce v_lamps v_squares v_intervals v_isBlock v_isSeen v_lampX v_lampY v_right v_up v_keptRight v_keptUp q.2 v_part v_codes v_above v_below v_length v_isMet) H → va_S A s.heap H locs → ∀ ls : Array Slot, lv_has ls 4 [(2, .int q.1)] → W p l e jr_Mo_codeNow s m ([.ref a_this] : List Value).toArray below meth c H locs 0 0 Q (F0 m 62 ls [])) → W p l e jr_Mo_codeNow s m ([.ref a_this] : List Value).toArray below meth c H locs 0 0 Q (F0 m 55 ls [.int s0]) := by
        intro v_name z3 s0 H locs hP hS ls hl q hR k
        rw [jf_Mo_codeNow_b55] at hR
        refine lv_istore_n (lv' := [(2, .int s0), (0, .ref a_this), (1, .int z1), (3, .int z3)]) hx hb dX7_codeNow_55 rfl hl (by decide) rfl (fun ls hl => ?_)
        refine lv_iinc (v := z3 + 1) (lv' := [(3, .int (z3 + 1)), (2, .int s0), (0, .ref a_this), (1, .int z1)]) hx hb dX7_codeNow_56 hl (k := 3) rfl (by first | rfl | decide) (by decide) rfl (fun ls hl => ?_)
        refine lv_goto (tgt := 30) hx hb dX7_codeNow_59 (by decide) ?_
        exact ih s0 (z3 + 1) v_name _ _ hP hS _ (lv_sub hl [2, 3, 1, 0] rfl) _ hR k
      intro z2 z3 v_name H locs hP hS ls hl q hR k
      rw [jf_Mo_codeNow_L30] at hR
      refine lv_iload_n hx hb dX7_codeNow_30 rfl (lv_at hl 3 rfl) ?_
      refine lv_iload_n hx hb dX7_codeNow_31 rfl (lv_at hl 1 rfl) ?_
      refine lv_icmp_ge (tgt := 62) hx hb dX7_codeNow_32 (by decide) (fun c_2 => ?_) (fun c_2 => ?_)
      · replace hR := Eq.trans (Eq.symm (if_pos c_2)) hR
        cases hR
        exact k _ _ hP hS _ (lv_sub hl [2] rfl)
      · replace hR := Eq.trans (Eq.symm (if_neg c_2)) hR
        refine lv_aload_n hx hb dX7_codeNow_35 rfl (lv_at hl 0 rfl) ?_
        refine lv_iload_n hx hb dX7_codeNow_36 rfl (lv_at hl 3 rfl) ?_
        obtain ⟨q_2, hq_2, hR⟩ := jbind hR
        try dsimp only at hR
        refine jcall_wi (ws' := jw_Mo g a_this a_this_isBlock a_this_isSeen a_this_lampX a_this_lampY a_this_right a_this_up a_this_keptRight a_this_keptUp a_this_name a_this_part a_this_codes a_this_above a_this_below a_this_length a_this_isMet v_thrown v_isBounce v_lamps v_squares v_intervals v_isBlock v_isSeen v_lampX v_lampY v_right v_up v_keptRight v_keptUp q_2.2 v_part v_codes v_above v_below v_length v_isMet) (va_runV (As := [.int z3]) (rest := []) ⟨hx, hb, hml, hown, hts⟩ (jc_Mo_names l g a_this a_this_isBlock a_this_isSeen a_this_lampX a_this_lampY a_this_right a_this_up a_this_keptRight a_this_keptUp a_this_name a_this_part a_this_codes a_this_above a_this_below a_this_length a_this_isMet v_thrown v_isBounce v_lamps v_squares v_intervals v_isBlock v_isSeen v_lampX v_lampY v_right v_up v_keptRight v_keptUp v_name v_part v_codes v_above v_below v_length v_isMet z3 _ hq_2 _) (cwV 1 hts gX7_codeNow_X7_names rfl rfl rfl (by decide +kernel) ⟨Nat.le_of_ble_eq_true rfl, Nat.le_of_ble_eq_true rfl⟩) (jpw_v hK hP (jD_to hD rfl) (ci := 7) (q0 := 0) rfl rfl) rfl rfl hl.1 rfl (lv_room (Nat.le_of_ble_eq_true rfl)) dX7_codeNow_37 ⟨Nat.zero_le _, Nat.zero_le _⟩) hP (jD_to hD rfl) hS hA [0, 1, 2, 3, 4, 5, 6, 7, 8, 9, 10, 11, 12, 13, 14, 15] [] [0, 1, 2, 3, 4, 5, 6, 7, 8, 9, 10, 11, 12, 13, 14, 15] rfl (by decide) rfl (fun H locs hP hS => ?_)
        refine lv_if_eq (tgt := 54) hx hb dX7_codeNow_40 (by decide) (fun c_3 => ?_) (fun c_3 => ?_)
        · replace hR := Eq.trans (Eq.symm (if_pos c_3)) hR
          refine lv_iload_n hx hb dX7_codeNow_54 rfl (lv_at hl 2 rfl) ?_
          exact J55 q_2.2 z3 z2 _ _ hP hS _ (lv_sub hl [0, 1, 3] rfl) _ hR k
        · replace hR := Eq.trans (Eq.symm (if_neg c_3)) hR
          refine lv_iload_n hx hb dX7_codeNow_43 rfl (lv_at hl 2 rfl) ?_
          refine lv_aload_n hx hb dX7_codeNow_44 rfl (lv_at hl 0 rfl) ?_
          obtain ⟨q_3, hq_3, hR⟩ := jbind hR
          try dsimp only at hR
          refine jcall_ri (va_runV (As := []) (rest := [.int z2]) ⟨hx, hb, hml, hown, hts⟩ (jc_Mo_number l g a_this a_this_isBlock a_this_isSeen a_this_lampX a_this_lampY a_this_right a_this_up a_this_keptRight a_this_keptUp a_this_name a_this_part a_this_codes a_this_above a_this_below a_this_length a_this_isMet v_thrown v_isBounce v_lamps v_squares v_intervals v_isBlock v_isSeen v_lampX v_lampY v_right v_up v_keptRight v_keptUp q_2.2 v_part v_codes v_above v_below v_length v_isMet _ hq_3) (cwV 0 hts gX7_codeNow_X7_number rfl rfl rfl (by decide +kernel) ⟨Nat.le_of_ble_eq_true rfl, Nat.le_of_ble_eq_true rfl⟩) (jpr_v hK hP (ci := 7) (q0 := 0) rfl rfl) rfl rfl hl.1 rfl (lv_room (Nat.le_of_ble_eq_true rfl)) dX7_codeNow_45 ⟨Nat.zero_le _, Nat.zero_le _⟩) ?_
          refine jcall_ri (va_runS (As := [.int z2, .int q_3]) (rest := []) ⟨hx, hb, hml, hown, hts⟩ (jc_Mo_least l g  z2 q_3 _ rfl) (va_cwS 2 hts gX7_codeNow_X7_least rfl rfl rfl (by decide +kernel) ⟨Nat.le_of_ble_eq_true rfl, Nat.le_of_ble_eq_true rfl⟩) (jpr_s hK (hP.sub (ws' := []) [] rfl)) rfl rfl hl.1 rfl (lv_room (Nat.le_of_ble_eq_true rfl)) dX7_codeNow_48 ⟨Nat.zero_le _, Nat.zero_le _⟩) ?_
          refine lv_goto (tgt := 55) hx hb dX7_codeNow_51 (by decide) ?_
          exact J55 q_2.2 z3 (jf_Mo_least z2 q_3) _ _ hP hS _ (lv_sub hl [0, 1, 3] rfl) _ hR k
  rw [jf_Mo_codeNow] at hR
  refine lv_iconst (v := 1) hx hb dX7_codeNow_0 (by decide) ?_
  refine lv_istore_n (lv' := [(1, .int 1), (0, .ref a_this)]) hx hb dX7_codeNow_1 rfl hl (by decide) rfl (fun ls hl => ?_)
  refine lv_iconst (v := 0) hx hb dX7_codeNow_2 (by decide) ?_
  refine lv_istore_n (lv' := [(2, .int 0), (1, .int 1), (0, .ref a_this)]) hx hb dX7_codeNow_3 rfl hl (by decide) rfl (fun ls hl => ?_)
  obtain ⟨q_1, hq_1, hR⟩ := jbind hR
  try dsimp only at hR
  refine L4 jF v_name 1 0 _ _ hP hS _ (lv_sub hl [2, 1, 0] rfl) _ hq_1 (fun H locs hP hS ls hl => ?_)
  refine lv_ldc (v := 2147483647) hx hb hown (hts (.constant RX7 184 (2147483647)) (by decide +kernel)) dX7_codeNow_25 ?_
  refine lv_istore_n (lv' := [(2, .int 2147483647), (0, .ref a_this), (1, .int q_1)]) hx hb dX7_codeNow_27 rfl hl (by decide) rfl (fun ls hl => ?_)
  refine lv_iconst (v := 0) hx hb dX7_codeNow_28 (by decide) ?_
  refine lv_istore_n (lv' := [(3, .int 0), (2, .int 2147483647), (0, .ref a_this), (1, .int q_1)]) hx hb dX7_codeNow_29 rfl hl (by decide) rfl (fun ls hl => ?_)
  obtain ⟨q_4, hq_4, hR⟩ := jbind hR
  try dsimp only at hR
  refine L30 jF q_1 2147483647 0 v_name _ _ hP hS _ (lv_sub hl [2, 3, 1, 0] rfl) _ hq_4 (fun H locs hP hS ls hl => ?_)
  refine lv_iload_n hx hb dX7_codeNow_62 rfl (lv_at hl 0 rfl) ?_
  obtain rfl := (Option.some.inj hR)
  exact fin _ _ _ _ _ rfl hP hS dX7_codeNow_63
def jf_Mo_shear (v_thrown : Int32) (v_squares : Int32) (v_right : Nat → Int32) (v_up : Nat → Int32) (v_name : Nat → Int32) (v_part : Nat → Int32) : Option (Int32 × Int32 × (Nat → Int32) × (Nat → Int32) × (Nat → Int32)) :=
  Option.bind (jf_Mo_shears v_squares v_right v_up v_part) (fun q_1 => Option.bind (jf_Mo_codeNow v_squares v_right q_1.1 v_name) (fun q_2 => some (q_2.1, 0, q_1.1, q_2.2, q_1.2)))
abbrev jr_Mo_shear : Room := { frames := 2, cells := 0, slots := 0, locals := 48 }
set_option maxRecDepth 100000 in
set_option maxHeartbeats 4000000 in
theorem jc_Mo_shear (l : Launch) (g : jG) (a_this a_this_isBlock a_this_isSeen a_this_lampX a_this_lampY a_this_right a_this_up a_this_keptRight a_this_keptUp a_this_name a_this_part a_this_codes a_this_above a_this_below a_this_length a_this_isMet : Nat) (v_thrown : Int32) (v_isBounce : Int32) (v_lamps : Int32) (v_squares : Int32) (v_intervals : Int32) (v_isBlock : Nat → Int32) (v_isSeen : Nat → Int32) (v_lampX : Nat → Int32) (v_lampY : Nat → Int32) (v_right : Nat → Int32) (v_up : Nat → Int32) (v_keptRight : Nat → Int32) (v_keptUp : Nat → Int32) (v_name : Nat → Int32) (v_part : Nat → Int32) (v_codes : Nat → Int32) (v_above : Nat → Int32) (v_below : Nat → Int32) (v_length : Nat → Int32) (v_isMet : Nat → Int32) (R : Int32 × Int32 × (Nat → Int32) × (Nat → Int32) × (Nat → Int32)) (hR : jf_Mo_shear v_thrown v_squares v_right v_up v_name v_part = some R) (sz : Nat) : Met l yX7_shear wsX7_shear jr_Mo_shear (jPw g [.ref a_this] (jw_Mo g a_this a_this_isBlock a_this_isSeen a_this_lampX a_this_lampY a_this_right a_this_up a_this_keptRight a_this_keptUp a_this_name a_this_part a_this_codes a_this_above a_this_below a_this_length a_this_isMet v_thrown v_isBounce v_lamps v_squares v_intervals v_isBlock v_isSeen v_lampX v_lampY v_right v_up v_keptRight v_keptUp v_name v_part v_codes v_above v_below v_length v_isMet) sz) (jQi g R.1 (jw_Mo g a_this a_this_isBlock a_this_isSeen a_this_lampX a_this_lampY a_this_right a_this_up a_this_keptRight a_this_keptUp a_this_name a_this_part a_this_codes a_this_above a_this_below a_this_length a_this_isMet R.2.1 v_isBounce v_lamps v_squares v_intervals v_isBlock v_isSeen v_lampX v_lampY v_right R.2.2.1 v_keptRight v_keptUp R.2.2.2.1 R.2.2.2.2 v_codes v_above v_below v_length v_isMet) (va_A (jw_Mo g a_this a_this_isBlock a_this_isSeen a_this_lampX a_this_lampY a_this_right a_this_up a_this_keptRight a_this_keptUp a_this_name a_this_part a_this_codes a_this_above a_this_below a_this_length a_this_isMet v_thrown v_isBounce v_lamps v_squares v_intervals v_isBlock v_isSeen v_lampX v_lampY v_right v_up v_keptRight v_keptUp v_name v_part v_codes v_above v_below v_length v_isMet) sz)) 0 0 (va_A (jw_Mo g a_this a_this_isBlock a_this_isSeen a_this_lampX a_this_lampY a_this_right a_this_up a_this_keptRight a_this_keptUp a_this_name a_this_part a_this_codes a_this_above a_this_below a_this_length a_this_isMet v_thrown v_isBounce v_lamps v_squares v_intervals v_isBlock v_isSeen v_lampX v_lampY v_right v_up v_keptRight v_keptUp v_name v_part v_codes v_above v_below v_length v_isMet) sz) := by
  refine jm_wi (cc := cX7_shear) (maxL := 1) (by decide +kernel) rfl (Nat.le_of_ble_eq_true rfl) ?_
  intro p e s m below meth c A Q hx hb hml hown hts hK hP hD hA hS fin ls hl
  have hl : lv_has ls 1 [(0, .ref a_this)] := hl
  have hown : s.vm.findClass RX7 = some m.cls := hown
  have w_X7 : ∀ w ∈ u_ws RX7 TX7 20, w ∈ wsX7_shear := by decide +kernel
  have w_f60 := hts (.fieldLink RX7 60 "BilliardryModel" "thrown" "I") (by decide +kernel)
  rw [jf_Mo_shear] at hR
  refine lv_aload_n hx hb dX7_shear_0 rfl (lv_at hl 0 rfl) ?_
  refine lv_iconst (v := 0) hx hb dX7_shear_1 (by decide) ?_
  refine va_put (D := g.1) (ci := 7) (v := .int 0) (ty := .int) (C := RX7) (T := TX7) (N := 20) hx hb hts w_X7 tyX7 tyX7_ok nmX7 hown hK.1 hP (jD_to hD rfl) hS 0 rfl rfl 0 (by decide) w_f60 (fun _ h9 => h9) rfl (by decide +kernel) rfl rfl (Nat.le_of_ble_eq_true rfl) dX7_shear_2 (fun H locs hP _ hS => ?_)
  have hP : va_P g.1 vwCl (jw_Mo g a_this a_this_isBlock a_this_isSeen a_this_lampX a_this_lampY a_this_right a_this_up a_this_keptRight a_this_keptUp a_this_name a_this_part a_this_codes a_this_above a_this_below a_this_length a_this_isMet 0 v_isBounce v_lamps v_squares v_intervals v_isBlock v_isSeen v_lampX v_lampY v_right v_up v_keptRight v_keptUp v_name v_part v_codes v_above v_below v_length v_isMet) H := hP
  refine lv_aload_n hx hb dX7_shear_5 rfl (lv_at hl 0 rfl) ?_
  obtain ⟨q_1, hq_1, hR⟩ := jbind hR
  try dsimp only at hR
  refine jcall_wv (ws' := jw_Mo g a_this a_this_isBlock a_this_isSeen a_this_lampX a_this_lampY a_this_right a_this_up a_this_keptRight a_this_keptUp a_this_name a_this_part a_this_codes a_this_above a_this_below a_this_length a_this_isMet 0 v_isBounce v_lamps v_squares v_intervals v_isBlock v_isSeen v_lampX v_lampY v_right q_1.1 v_keptRight v_keptUp v_name q_1.2 v_codes v_above v_below v_length v_isMet) (va_runV (As := []) (rest := []) ⟨hx, hb, hml, hown, hts⟩ (jc_Mo_shears l g a_this a_this_isBlock a_this_isSeen a_this_lampX a_this_lampY a_this_right a_this_up a_this_keptRight a_this_keptUp a_this_name a_this_part a_this_codes a_this_above a_this_below a_this_length a_this_isMet 0 v_isBounce v_lamps v_squares v_intervals v_isBlock v_isSeen v_lampX v_lampY v_right v_up v_keptRight v_keptUp v_name v_part v_codes v_above v_below v_length v_isMet _ hq_1 _) (cwV 0 hts gX7_shear_X7_shears rfl rfl rfl (by decide +kernel) ⟨Nat.le_of_ble_eq_true rfl, Nat.le_of_ble_eq_true rfl⟩) (jpw_v hK hP (jD_to hD rfl) (ci := 7) (q0 := 0) rfl rfl) rfl rfl hl.1 rfl (lv_room (Nat.le_of_ble_eq_true rfl)) dX7_shear_6 ⟨Nat.zero_le _, Nat.zero_le _⟩) hP (jD_to hD rfl) hS hA [0, 1, 2, 3, 4, 5, 6, 7, 8, 9, 10, 11, 12, 13, 14, 15] [] [0, 1, 2, 3, 4, 5, 6, 7, 8, 9, 10, 11, 12, 13, 14, 15] rfl (by decide) rfl (fun H locs hP hS => ?_)
  refine lv_aload_n hx hb dX7_shear_9 rfl (lv_at hl 0 rfl) ?_
  obtain ⟨q_2, hq_2, hR⟩ := jbind hR
  try dsimp only at hR
  refine jcall_wi (ws' := jw_Mo g a_this a_this_isBlock a_this_isSeen a_this_lampX a_this_lampY a_this_right a_this_up a_this_keptRight a_this_keptUp a_this_name a_this_part a_this_codes a_this_above a_this_below a_this_length a_this_isMet 0 v_isBounce v_lamps v_squares v_intervals v_isBlock v_isSeen v_lampX v_lampY v_right q_1.1 v_keptRight v_keptUp q_2.2 q_1.2 v_codes v_above v_below v_length v_isMet) (va_runV (As := []) (rest := []) ⟨hx, hb, hml, hown, hts⟩ (jc_Mo_codeNow l g a_this a_this_isBlock a_this_isSeen a_this_lampX a_this_lampY a_this_right a_this_up a_this_keptRight a_this_keptUp a_this_name a_this_part a_this_codes a_this_above a_this_below a_this_length a_this_isMet 0 v_isBounce v_lamps v_squares v_intervals v_isBlock v_isSeen v_lampX v_lampY v_right q_1.1 v_keptRight v_keptUp v_name q_1.2 v_codes v_above v_below v_length v_isMet _ hq_2 _) (cwV 0 hts gX7_shear_X7_codeNow rfl rfl rfl (by decide +kernel) ⟨Nat.le_of_ble_eq_true rfl, Nat.le_of_ble_eq_true rfl⟩) (jpw_v hK hP (jD_to hD rfl) (ci := 7) (q0 := 0) rfl rfl) rfl rfl hl.1 rfl (lv_room (Nat.le_of_ble_eq_true rfl)) dX7_shear_10 ⟨Nat.zero_le _, Nat.zero_le _⟩) hP (jD_to hD rfl) hS hA [0, 1, 2, 3, 4, 5, 6, 7, 8, 9, 10, 11, 12, 13, 14, 15] [] [0, 1, 2, 3, 4, 5, 6, 7, 8, 9, 10, 11, 12, 13, 14, 15] rfl (by decide) rfl (fun H locs hP hS => ?_)
  obtain rfl := (Option.some.inj hR)
  exact fin _ _ _ _ _ rfl hP hS dX7_shear_13
def jf_Mo_turn (v_thrown : Int32) (v_squares : Int32) (v_right : Nat → Int32) (v_up : Nat → Int32) (v_name : Nat → Int32) (v_part : Nat → Int32) : Option (Int32 × Int32 × (Nat → Int32) × (Nat → Int32) × (Nat → Int32) × (Nat → Int32)) :=
  Option.bind (jf_Mo_turns v_squares v_right v_up v_part) (fun q_1 => Option.bind (jf_Mo_codeNow v_squares q_1.1 q_1.2.1 v_name) (fun q_2 => some (q_2.1, 0, q_1.1, q_1.2.1, q_2.2, q_1.2.2)))
abbrev jr_Mo_turn : Room := { frames := 2, cells := 0, slots := 0, locals := 48 }
set_option maxRecDepth 100000 in
set_option maxHeartbeats 4000000 in
theorem jc_Mo_turn (l : Launch) (g : jG) (a_this a_this_isBlock a_this_isSeen a_this_lampX a_this_lampY a_this_right a_this_up a_this_keptRight a_this_keptUp a_this_name a_this_part a_this_codes a_this_above a_this_below a_this_length a_this_isMet : Nat) (v_thrown : Int32) (v_isBounce : Int32) (v_lamps : Int32) (v_squares : Int32) (v_intervals : Int32) (v_isBlock : Nat → Int32) (v_isSeen : Nat → Int32) (v_lampX : Nat → Int32) (v_lampY : Nat → Int32) (v_right : Nat → Int32) (v_up : Nat → Int32) (v_keptRight : Nat → Int32) (v_keptUp : Nat → Int32) (v_name : Nat → Int32) (v_part : Nat → Int32) (v_codes : Nat → Int32) (v_above : Nat → Int32) (v_below : Nat → Int32) (v_length : Nat → Int32) (v_isMet : Nat → Int32) (R : Int32 × Int32 × (Nat → Int32) × (Nat → Int32) × (Nat → Int32) × (Nat → Int32)) (hR : jf_Mo_turn v_thrown v_squares v_right v_up v_name v_part = some R) (sz : Nat) : Met l yX7_turn wsX7_turn jr_Mo_turn (jPw g [.ref a_this] (jw_Mo g a_this a_this_isBlock a_this_isSeen a_this_lampX a_this_lampY a_this_right a_this_up a_this_keptRight a_this_keptUp a_this_name a_this_part a_this_codes a_this_above a_this_below a_this_length a_this_isMet v_thrown v_isBounce v_lamps v_squares v_intervals v_isBlock v_isSeen v_lampX v_lampY v_right v_up v_keptRight v_keptUp v_name v_part v_codes v_above v_below v_length v_isMet) sz) (jQi g R.1 (jw_Mo g a_this a_this_isBlock a_this_isSeen a_this_lampX a_this_lampY a_this_right a_this_up a_this_keptRight a_this_keptUp a_this_name a_this_part a_this_codes a_this_above a_this_below a_this_length a_this_isMet R.2.1 v_isBounce v_lamps v_squares v_intervals v_isBlock v_isSeen v_lampX v_lampY R.2.2.1 R.2.2.2.1 v_keptRight v_keptUp R.2.2.2.2.1 R.2.2.2.2.2 v_codes v_above v_below v_length v_isMet) (va_A (jw_Mo g a_this a_this_isBlock a_this_isSeen a_this_lampX a_this_lampY a_this_right a_this_up a_this_keptRight a_this_keptUp a_this_name a_this_part a_this_codes a_this_above a_this_below a_this_length a_this_isMet v_thrown v_isBounce v_lamps v_squares v_intervals v_isBlock v_isSeen v_lampX v_lampY v_right v_up v_keptRight v_keptUp v_name v_part v_codes v_above v_below v_length v_isMet) sz)) 0 0 (va_A (jw_Mo g a_this a_this_isBlock a_this_isSeen a_this_lampX a_this_lampY a_this_right a_this_up a_this_keptRight a_this_keptUp a_this_name a_this_part a_this_codes a_this_above a_this_below a_this_length a_this_isMet v_thrown v_isBounce v_lamps v_squares v_intervals v_isBlock v_isSeen v_lampX v_lampY v_right v_up v_keptRight v_keptUp v_name v_part v_codes v_above v_below v_length v_isMet) sz) := by
  refine jm_wi (cc := cX7_turn) (maxL := 1) (by decide +kernel) rfl (Nat.le_of_ble_eq_true rfl) ?_
  intro p e s m below meth c A Q hx hb hml hown hts hK hP hD hA hS fin ls hl
  have hl : lv_has ls 1 [(0, .ref a_this)] := hl
  have hown : s.vm.findClass RX7 = some m.cls := hown
  have w_X7 : ∀ w ∈ u_ws RX7 TX7 20, w ∈ wsX7_turn := by decide +kernel
  have w_f60 := hts (.fieldLink RX7 60 "BilliardryModel" "thrown" "I") (by decide +kernel)
  rw [jf_Mo_turn] at hR
  refine lv_aload_n hx hb dX7_turn_0 rfl (lv_at hl 0 rfl) ?_
  refine lv_iconst (v := 0) hx hb dX7_turn_1 (by decide) ?_
  refine va_put (D := g.1) (ci := 7) (v := .int 0) (ty := .int) (C := RX7) (T := TX7) (N := 20) hx hb hts w_X7 tyX7 tyX7_ok nmX7 hown hK.1 hP (jD_to hD rfl) hS 0 rfl rfl 0 (by decide) w_f60 (fun _ h9 => h9) rfl (by decide +kernel) rfl rfl (Nat.le_of_ble_eq_true rfl) dX7_turn_2 (fun H locs hP _ hS => ?_)
  have hP : va_P g.1 vwCl (jw_Mo g a_this a_this_isBlock a_this_isSeen a_this_lampX a_this_lampY a_this_right a_this_up a_this_keptRight a_this_keptUp a_this_name a_this_part a_this_codes a_this_above a_this_below a_this_length a_this_isMet 0 v_isBounce v_lamps v_squares v_intervals v_isBlock v_isSeen v_lampX v_lampY v_right v_up v_keptRight v_keptUp v_name v_part v_codes v_above v_below v_length v_isMet) H := hP
  refine lv_aload_n hx hb dX7_turn_5 rfl (lv_at hl 0 rfl) ?_
  obtain ⟨q_1, hq_1, hR⟩ := jbind hR
  try dsimp only at hR
  refine jcall_wv (ws' := jw_Mo g a_this a_this_isBlock a_this_isSeen a_this_lampX a_this_lampY a_this_right a_this_up a_this_keptRight a_this_keptUp a_this_name a_this_part a_this_codes a_this_above a_this_below a_this_length a_this_isMet 0 v_isBounce v_lamps v_squares v_intervals v_isBlock v_isSeen v_lampX v_lampY q_1.1 q_1.2.1 v_keptRight v_keptUp v_name q_1.2.2 v_codes v_above v_below v_length v_isMet) (va_runV (As := []) (rest := []) ⟨hx, hb, hml, hown, hts⟩ (jc_Mo_turns l g a_this a_this_isBlock a_this_isSeen a_this_lampX a_this_lampY a_this_right a_this_up a_this_keptRight a_this_keptUp a_this_name a_this_part a_this_codes a_this_above a_this_below a_this_length a_this_isMet 0 v_isBounce v_lamps v_squares v_intervals v_isBlock v_isSeen v_lampX v_lampY v_right v_up v_keptRight v_keptUp v_name v_part v_codes v_above v_below v_length v_isMet _ hq_1 _) (cwV 0 hts gX7_turn_X7_turns rfl rfl rfl (by decide +kernel) ⟨Nat.le_of_ble_eq_true rfl, Nat.le_of_ble_eq_true rfl⟩) (jpw_v hK hP (jD_to hD rfl) (ci := 7) (q0 := 0) rfl rfl) rfl rfl hl.1 rfl (lv_room (Nat.le_of_ble_eq_true rfl)) dX7_turn_6 ⟨Nat.zero_le _, Nat.zero_le _⟩) hP (jD_to hD rfl) hS hA [0, 1, 2, 3, 4, 5, 6, 7, 8, 9, 10, 11, 12, 13, 14, 15] [] [0, 1, 2, 3, 4, 5, 6, 7, 8, 9, 10, 11, 12, 13, 14, 15] rfl (by decide) rfl (fun H locs hP hS => ?_)
  refine lv_aload_n hx hb dX7_turn_9 rfl (lv_at hl 0 rfl) ?_
  obtain ⟨q_2, hq_2, hR⟩ := jbind hR
  try dsimp only at hR
  refine jcall_wi (ws' := jw_Mo g a_this a_this_isBlock a_this_isSeen a_this_lampX a_this_lampY a_this_right a_this_up a_this_keptRight a_this_keptUp a_this_name a_this_part a_this_codes a_this_above a_this_below a_this_length a_this_isMet 0 v_isBounce v_lamps v_squares v_intervals v_isBlock v_isSeen v_lampX v_lampY q_1.1 q_1.2.1 v_keptRight v_keptUp q_2.2 q_1.2.2 v_codes v_above v_below v_length v_isMet) (va_runV (As := []) (rest := []) ⟨hx, hb, hml, hown, hts⟩ (jc_Mo_codeNow l g a_this a_this_isBlock a_this_isSeen a_this_lampX a_this_lampY a_this_right a_this_up a_this_keptRight a_this_keptUp a_this_name a_this_part a_this_codes a_this_above a_this_below a_this_length a_this_isMet 0 v_isBounce v_lamps v_squares v_intervals v_isBlock v_isSeen v_lampX v_lampY q_1.1 q_1.2.1 v_keptRight v_keptUp v_name q_1.2.2 v_codes v_above v_below v_length v_isMet _ hq_2 _) (cwV 0 hts gX7_turn_X7_codeNow rfl rfl rfl (by decide +kernel) ⟨Nat.le_of_ble_eq_true rfl, Nat.le_of_ble_eq_true rfl⟩) (jpw_v hK hP (jD_to hD rfl) (ci := 7) (q0 := 0) rfl rfl) rfl rfl hl.1 rfl (lv_room (Nat.le_of_ble_eq_true rfl)) dX7_turn_10 ⟨Nat.zero_le _, Nat.zero_le _⟩) hP (jD_to hD rfl) hS hA [0, 1, 2, 3, 4, 5, 6, 7, 8, 9, 10, 11, 12, 13, 14, 15] [] [0, 1, 2, 3, 4, 5, 6, 7, 8, 9, 10, 11, 12, 13, 14, 15] rfl (by decide) rfl (fun H locs hP hS => ?_)
  obtain rfl := (Option.some.inj hR)
  exact fin _ _ _ _ _ rfl hP hS dX7_turn_13
def jf_Mo_code (v_thrown : Int32) (v_squares : Int32) (v_right : Nat → Int32) (v_up : Nat → Int32) (v_name : Nat → Int32) : Option (Int32 × Int32 × (Nat → Int32)) :=
  Option.bind (jf_Mo_codeNow v_squares v_right v_up v_name) (fun q_1 => some (q_1.1, 0, q_1.2))
abbrev jr_Mo_code : Room := { frames := 2, cells := 0, slots := 0, locals := 48 }
set_option maxRecDepth 100000 in
set_option maxHeartbeats 4000000 in
theorem jc_Mo_code (l : Launch) (g : jG) (a_this a_this_isBlock a_this_isSeen a_this_lampX a_this_lampY a_this_right a_this_up a_this_keptRight a_this_keptUp a_this_name a_this_part a_this_codes a_this_above a_this_below a_this_length a_this_isMet : Nat) (v_thrown : Int32) (v_isBounce : Int32) (v_lamps : Int32) (v_squares : Int32) (v_intervals : Int32) (v_isBlock : Nat → Int32) (v_isSeen : Nat → Int32) (v_lampX : Nat → Int32) (v_lampY : Nat → Int32) (v_right : Nat → Int32) (v_up : Nat → Int32) (v_keptRight : Nat → Int32) (v_keptUp : Nat → Int32) (v_name : Nat → Int32) (v_part : Nat → Int32) (v_codes : Nat → Int32) (v_above : Nat → Int32) (v_below : Nat → Int32) (v_length : Nat → Int32) (v_isMet : Nat → Int32) (R : Int32 × Int32 × (Nat → Int32)) (hR : jf_Mo_code v_thrown v_squares v_right v_up v_name = some R) (sz : Nat) : Met l yX7_code wsX7_code jr_Mo_code (jPw g [.ref a_this] (jw_Mo g a_this a_this_isBlock a_this_isSeen a_this_lampX a_this_lampY a_this_right a_this_up a_this_keptRight a_this_keptUp a_this_name a_this_part a_this_codes a_this_above a_this_below a_this_length a_this_isMet v_thrown v_isBounce v_lamps v_squares v_intervals v_isBlock v_isSeen v_lampX v_lampY v_right v_up v_keptRight v_keptUp v_name v_part v_codes v_above v_below v_length v_isMet) sz) (jQi g R.1 (jw_Mo g a_this a_this_isBlock a_this_isSeen a_this_lampX a_this_lampY a_this_right a_this_up a_this_keptRight a_this_keptUp a_this_name a_this_part a_this_codes a_this_above a_this_below a_this_length a_this_isMet R.2.1 v_isBounce v_lamps v_squares v_intervals v_isBlock v_isSeen v_lampX v_lampY v_right v_up v_keptRight v_keptUp R.2.2 v_part v_codes v_above v_below v_length v_isMet) (va_A (jw_Mo g a_this a_this_isBlock a_this_isSeen a_this_lampX a_this_lampY a_this_right a_this_up a_this_keptRight a_this_keptUp a_this_name a_this_part a_this_codes a_this_above a_this_below a_this_length a_this_isMet v_thrown v_isBounce v_lamps v_squares v_intervals v_isBlock v_isSeen v_lampX v_lampY v_right v_up v_keptRight v_keptUp v_name v_part v_codes v_above v_below v_length v_isMet) sz)) 0 0 (va_A (jw_Mo g a_this a_this_isBlock a_this_isSeen a_this_lampX a_this_lampY a_this_right a_this_up a_this_keptRight a_this_keptUp a_this_name a_this_part a_this_codes a_this_above a_this_below a_this_length a_this_isMet v_thrown v_isBounce v_lamps v_squares v_intervals v_isBlock v_isSeen v_lampX v_lampY v_right v_up v_keptRight v_keptUp v_name v_part v_codes v_above v_below v_length v_isMet) sz) := by
  refine jm_wi (cc := cX7_code) (maxL := 1) (by decide +kernel) rfl (Nat.le_of_ble_eq_true rfl) ?_
  intro p e s m below meth c A Q hx hb hml hown hts hK hP hD hA hS fin ls hl
  have hl : lv_has ls 1 [(0, .ref a_this)] := hl
  have hown : s.vm.findClass RX7 = some m.cls := hown
  have w_X7 : ∀ w ∈ u_ws RX7 TX7 20, w ∈ wsX7_code := by decide +kernel
  have w_f60 := hts (.fieldLink RX7 60 "BilliardryModel" "thrown" "I") (by decide +kernel)
  rw [jf_Mo_code] at hR
  refine lv_aload_n hx hb dX7_code_0 rfl (lv_at hl 0 rfl) ?_
  refine lv_iconst (v := 0) hx hb dX7_code_1 (by decide) ?_
  refine va_put (D := g.1) (ci := 7) (v := .int 0) (ty := .int) (C := RX7) (T := TX7) (N := 20) hx hb hts w_X7 tyX7 tyX7_ok nmX7 hown hK.1 hP (jD_to hD rfl) hS 0 rfl rfl 0 (by decide) w_f60 (fun _ h9 => h9) rfl (by decide +kernel) rfl rfl (Nat.le_of_ble_eq_true rfl) dX7_code_2 (fun H locs hP _ hS => ?_)
  have hP : va_P g.1 vwCl (jw_Mo g a_this a_this_isBlock a_this_isSeen a_this_lampX a_this_lampY a_this_right a_this_up a_this_keptRight a_this_keptUp a_this_name a_this_part a_this_codes a_this_above a_this_below a_this_length a_this_isMet 0 v_isBounce v_lamps v_squares v_intervals v_isBlock v_isSeen v_lampX v_lampY v_right v_up v_keptRight v_keptUp v_name v_part v_codes v_above v_below v_length v_isMet) H := hP
  refine lv_aload_n hx hb dX7_code_5 rfl (lv_at hl 0 rfl) ?_
  obtain ⟨q_1, hq_1, hR⟩ := jbind hR
  try dsimp only at hR
  refine jcall_wi (ws' := jw_Mo g a_this a_this_isBlock a_this_isSeen a_this_lampX a_this_lampY a_this_right a_this_up a_this_keptRight a_this_keptUp a_this_name a_this_part a_this_codes a_this_above a_this_below a_this_length a_this_isMet 0 v_isBounce v_lamps v_squares v_intervals v_isBlock v_isSeen v_lampX v_lampY v_right v_up v_keptRight v_keptUp q_1.2 v_part v_codes v_above v_below v_length v_isMet) (va_runV (As := []) (rest := []) ⟨hx, hb, hml, hown, hts⟩ (jc_Mo_codeNow l g a_this a_this_isBlock a_this_isSeen a_this_lampX a_this_lampY a_this_right a_this_up a_this_keptRight a_this_keptUp a_this_name a_this_part a_this_codes a_this_above a_this_below a_this_length a_this_isMet 0 v_isBounce v_lamps v_squares v_intervals v_isBlock v_isSeen v_lampX v_lampY v_right v_up v_keptRight v_keptUp v_name v_part v_codes v_above v_below v_length v_isMet _ hq_1 _) (cwV 0 hts gX7_code_X7_codeNow rfl rfl rfl (by decide +kernel) ⟨Nat.le_of_ble_eq_true rfl, Nat.le_of_ble_eq_true rfl⟩) (jpw_v hK hP (jD_to hD rfl) (ci := 7) (q0 := 0) rfl rfl) rfl rfl hl.1 rfl (lv_room (Nat.le_of_ble_eq_true rfl)) dX7_code_6 ⟨Nat.zero_le _, Nat.zero_le _⟩) hP (jD_to hD rfl) hS hA [0, 1, 2, 3, 4, 5, 6, 7, 8, 9, 10, 11, 12, 13, 14, 15] [] [0, 1, 2, 3, 4, 5, 6, 7, 8, 9, 10, 11, 12, 13, 14, 15] rfl (by decide) rfl (fun H locs hP hS => ?_)
  obtain rfl := (Option.some.inj hR)
  exact fin _ _ _ _ _ rfl hP hS dX7_code_9
def jf_Mo_lays_L9 : Nat → Int32 → Int32 → (Nat → Int32) → (Nat → Int32) → Option ((Nat → Int32) × (Nat → Int32))
  | 0, _, _, _, _ => none
  | n + 1, z2, z3, v_right, v_up =>
    if z3 < 0 then (some (v_right, v_up)) else (if jin z3 5 = true then (if jin z3 5 = true then (jlet (z2 / 25) (fun y2_1 => (jf_Mo_lays_L9 n) y2_1 (z3 + (-1)) (upd v_right z3.toNatClampNeg ((z2 / 5) - (z2 / 5) / 5 * 5)) (upd v_up z3.toNatClampNeg (z2 - z2 / 5 * 5)))) else none) else none)
def jf_Mo_lays (v_squares : Int32) (v_right : Nat → Int32) (v_up : Nat → Int32) (x1 : Int32) : Option ((Nat → Int32) × (Nat → Int32)) :=
  jlet (v_squares - 1) (fun y3_1 => Option.bind (jf_Mo_lays_L9 jF x1 y3_1 v_right v_up) (fun q_1 => some (q_1.1, q_1.2)))
abbrev jr_Mo_lays : Room := { frames := 0, cells := 0, slots := 0, locals := 0 }
set_option maxRecDepth 100000 in
set_option maxHeartbeats 4000000 in
theorem jc_Mo_lays (l : Launch) (g : jG) (a_this a_this_isBlock a_this_isSeen a_this_lampX a_this_lampY a_this_right a_this_up a_this_keptRight a_this_keptUp a_this_name a_this_part a_this_codes a_this_above a_this_below a_this_length a_this_isMet : Nat) (v_thrown : Int32) (v_isBounce : Int32) (v_lamps : Int32) (v_squares : Int32) (v_intervals : Int32) (v_isBlock : Nat → Int32) (v_isSeen : Nat → Int32) (v_lampX : Nat → Int32) (v_lampY : Nat → Int32) (v_right : Nat → Int32) (v_up : Nat → Int32) (v_keptRight : Nat → Int32) (v_keptUp : Nat → Int32) (v_name : Nat → Int32) (v_part : Nat → Int32) (v_codes : Nat → Int32) (v_above : Nat → Int32) (v_below : Nat → Int32) (v_length : Nat → Int32) (v_isMet : Nat → Int32) (x1 : Int32) (R : (Nat → Int32) × (Nat → Int32)) (hR : jf_Mo_lays v_squares v_right v_up x1 = some R) (sz : Nat) : Met l yX7_lays wsX7_lays jr_Mo_lays (jPw g [.ref a_this, .int x1] (jw_Mo g a_this a_this_isBlock a_this_isSeen a_this_lampX a_this_lampY a_this_right a_this_up a_this_keptRight a_this_keptUp a_this_name a_this_part a_this_codes a_this_above a_this_below a_this_length a_this_isMet v_thrown v_isBounce v_lamps v_squares v_intervals v_isBlock v_isSeen v_lampX v_lampY v_right v_up v_keptRight v_keptUp v_name v_part v_codes v_above v_below v_length v_isMet) sz) (jQv g (jw_Mo g a_this a_this_isBlock a_this_isSeen a_this_lampX a_this_lampY a_this_right a_this_up a_this_keptRight a_this_keptUp a_this_name a_this_part a_this_codes a_this_above a_this_below a_this_length a_this_isMet v_thrown v_isBounce v_lamps v_squares v_intervals v_isBlock v_isSeen v_lampX v_lampY R.1 R.2 v_keptRight v_keptUp v_name v_part v_codes v_above v_below v_length v_isMet) (va_A (jw_Mo g a_this a_this_isBlock a_this_isSeen a_this_lampX a_this_lampY a_this_right a_this_up a_this_keptRight a_this_keptUp a_this_name a_this_part a_this_codes a_this_above a_this_below a_this_length a_this_isMet v_thrown v_isBounce v_lamps v_squares v_intervals v_isBlock v_isSeen v_lampX v_lampY v_right v_up v_keptRight v_keptUp v_name v_part v_codes v_above v_below v_length v_isMet) sz)) 0 0 (va_A (jw_Mo g a_this a_this_isBlock a_this_isSeen a_this_lampX a_this_lampY a_this_right a_this_up a_this_keptRight a_this_keptUp a_this_name a_this_part a_this_codes a_this_above a_this_below a_this_length a_this_isMet v_thrown v_isBounce v_lamps v_squares v_intervals v_isBlock v_isSeen v_lampX v_lampY v_right v_up v_keptRight v_keptUp v_name v_part v_codes v_above v_below v_length v_isMet) sz) := by
  refine jm_wv (cc := cX7_lays) (maxL := 4) (by decide +kernel) rfl (Nat.le_of_ble_eq_true rfl) ?_
  intro p e s m below meth c A Q hx hb hml hown hts hK hP hD hA hS fin ls hl
  have hl : lv_has ls 4 [(0, .ref a_this), (1, .int x1)] := hl
  have hown : s.vm.findClass RX7 = some m.cls := hown
  have w_X7 : ∀ w ∈ u_ws RX7 TX7 20, w ∈ wsX7_lays := by decide +kernel
  have w_f23 := hts (.fieldLink RX7 23 "BilliardryModel" "squares" "I") (by decide +kernel)
  have w_f30 := hts (.fieldLink RX7 30 "BilliardryModel" "up" "[I") (by decide +kernel)
  have w_f27 := hts (.fieldLink RX7 27 "BilliardryModel" "right" "[I") (by decide +kernel)
  have L9 : ∀ (n : Nat) (z2 : Int32) (z3 : Int32) (v_right : Nat → Int32) (v_up : Nat → Int32) (H : Heap) (locs : List Loc), va_P g.1 vwCl (jw_Mo g a_this a_this_isBlock a_this_isSeen a_this_lampX a_this_lampY a_this_right a_this_up a_this_keptRight a_this_keptUp a_this_name a_this_part a_this_codes a_this_above a_this_below a_this_length a_this_isMet v_thrown v_isBounce v_lamps v_squares v_intervals v_isBlock v_isSeen v_lampX v_lampY v_right v_up v_keptRight v_keptUp v_name v_part v_codes v_above v_below v_length v_isMet) H → va_S A s.heap H locs → ∀ (ls : Array Slot), lv_has ls 4 [(0, .ref a_this), (2, .int z2), (3, .int z3)] → ∀ q, jf_Mo_lays_L9 n z2 z3 v_right v_up = some q → (∀ (H : Heap) (locs : List Loc), va_P g.1 vwCl (jw_Mo g a_this a_this_isBlock a_this_isSeen a_this_lampX a_this_lampY a_this_right a_this_up a_this_keptRight a_this_keptUp a_this_name a_this_part a_this_codes a_this_above a_this_below a_this_length a_this_isMet v_thrown v_isBounce v_lamps v_squares v_intervals v_isBlock v_isSeen v_lampX v_lampY q.1 q.2 v_keptRight v_keptUp v_name v_part v_codes v_above v_below v_length v_isMet) H → va_S A s.heap H locs → ∀ ls : Array Slot, lv_has ls 4 [] → W p l e jr_Mo_lays s m ([.ref a_this, .int x1] : List Value).toArray below meth c H locs 0 0 Q (F0 m 44 ls [])) → W p l e jr_Mo_lays s m ([.ref a_this, .int x1] : List Value).toArray below meth c H locs 0 0 Q (F0 m 9 ls []) := by
    intro n
    induction n with
    | zero =>
      intro z2 z3 v_right v_up H locs hP hS ls hl q hR k
      cases hR
    | succ n ih =>
      intro z2 z3 v_right v_up H locs hP hS ls hl q hR k
      rw [jf_Mo_lays_L9] at hR
      refine lv_iload_n hx hb dX7_lays_9 rfl (lv_at hl 2 rfl) ?_
      refine lv_if_lt (tgt := 44) hx hb dX7_lays_10 (by decide) (fun c_1 => ?_) (fun c_1 => ?_)
      · replace hR := Eq.trans (Eq.symm (if_pos c_1)) hR
        cases hR
        exact k _ _ hP hS _ (lv_sub hl [] rfl)
      · replace hR := Eq.trans (Eq.symm (if_neg c_1)) hR
        refine lv_aload_n hx hb dX7_lays_13 rfl (lv_at hl 0 rfl) ?_
        refine va_get (D := g.1) (ci := 7) (v := .ref a_this_up) (C := RX7) (T := TX7) (N := 20) hx hb hts w_X7 hown hK.1 hP 0 rfl rfl 9 (by decide) w_f30 (fun _ h9 => h9) rfl dX7_lays_14 ?_
        refine lv_iload_n hx hb dX7_lays_17 rfl (lv_at hl 2 rfl) ?_
        refine lv_iload_n hx hb dX7_lays_18 rfl (lv_at hl 1 rfl) ?_
        refine lv_iconst (v := 5) hx hb dX7_lays_19 (by decide) ?_
        refine lv_irem hx hb dX7_lays_20 (by decide) ?_
        by_cases c_2 : jin z3 5 = true
        case neg => replace hR := Eq.trans (Eq.symm (if_neg c_2)) hR; cases hR
        replace hR := Eq.trans (Eq.symm (if_pos c_2)) hR
        refine va_iast hx hb hK.1 hP (jD_to hD rfl) hS 6 0 rfl rfl (jin_in c_2) dX7_lays_21 (fun H locs hP _ hS => ?_)
        have hP : va_P g.1 vwCl (jw_Mo g a_this a_this_isBlock a_this_isSeen a_this_lampX a_this_lampY a_this_right a_this_up a_this_keptRight a_this_keptUp a_this_name a_this_part a_this_codes a_this_above a_this_below a_this_length a_this_isMet v_thrown v_isBounce v_lamps v_squares v_intervals v_isBlock v_isSeen v_lampX v_lampY v_right (upd v_up z3.toNatClampNeg (z2 - z2 / 5 * 5)) v_keptRight v_keptUp v_name v_part v_codes v_above v_below v_length v_isMet) H := hP
        refine lv_aload_n hx hb dX7_lays_22 rfl (lv_at hl 0 rfl) ?_
        refine va_get (D := g.1) (ci := 7) (v := .ref a_this_right) (C := RX7) (T := TX7) (N := 20) hx hb hts w_X7 hown hK.1 hP 0 rfl rfl 8 (by decide) w_f27 (fun _ h9 => h9) rfl dX7_lays_23 ?_
        refine lv_iload_n hx hb dX7_lays_26 rfl (lv_at hl 2 rfl) ?_
        refine lv_iload_n hx hb dX7_lays_27 rfl (lv_at hl 1 rfl) ?_
        refine lv_iconst (v := 5) hx hb dX7_lays_28 (by decide) ?_
        refine lv_idiv hx hb dX7_lays_29 (by decide) ?_
        refine lv_iconst (v := 5) hx hb dX7_lays_30 (by decide) ?_
        refine lv_irem hx hb dX7_lays_31 (by decide) ?_
        by_cases c_3 : jin z3 5 = true
        case neg => replace hR := Eq.trans (Eq.symm (if_neg c_3)) hR; cases hR
        replace hR := Eq.trans (Eq.symm (if_pos c_3)) hR
        refine va_iast hx hb hK.1 hP (jD_to hD rfl) hS 5 0 rfl rfl (jin_in c_3) dX7_lays_32 (fun H locs hP _ hS => ?_)
        have hP : va_P g.1 vwCl (jw_Mo g a_this a_this_isBlock a_this_isSeen a_this_lampX a_this_lampY a_this_right a_this_up a_this_keptRight a_this_keptUp a_this_name a_this_part a_this_codes a_this_above a_this_below a_this_length a_this_isMet v_thrown v_isBounce v_lamps v_squares v_intervals v_isBlock v_isSeen v_lampX v_lampY (upd v_right z3.toNatClampNeg ((z2 / 5) - (z2 / 5) / 5 * 5)) (upd v_up z3.toNatClampNeg (z2 - z2 / 5 * 5)) v_keptRight v_keptUp v_name v_part v_codes v_above v_below v_length v_isMet) H := hP
        refine lv_iload_n hx hb dX7_lays_33 rfl (lv_at hl 1 rfl) ?_
        refine lv_bipush (v := 25) hx hb dX7_lays_34 (by decide) ?_
        refine lv_idiv hx hb dX7_lays_36 (by decide) ?_
        refine jlet_i hR (fun y2_1 hR => ?_)
        try dsimp only at hR
        refine lv_istore_n (lv' := [(2, .int y2_1), (0, .ref a_this), (3, .int z3)]) hx hb dX7_lays_37 rfl hl (by decide) rfl (fun ls hl => ?_)
        refine lv_iinc (v := z3 + (-1)) (lv' := [(3, .int (z3 + (-1))), (2, .int y2_1), (0, .ref a_this)]) hx hb dX7_lays_38 hl (k := 2) rfl (by first | rfl | decide) (by decide) rfl (fun ls hl => ?_)
        refine lv_goto (tgt := 9) hx hb dX7_lays_41 (by decide) ?_
        exact ih y2_1 (z3 + (-1)) (upd v_right z3.toNatClampNeg ((z2 / 5) - (z2 / 5) / 5 * 5)) (upd v_up z3.toNatClampNeg (z2 - z2 / 5 * 5)) _ _ hP hS _ (lv_sub hl [2, 1, 0] rfl) _ hR k
  rw [jf_Mo_lays] at hR
  refine lv_iload_n hx hb dX7_lays_0 rfl (lv_at hl 1 rfl) ?_
  refine lv_istore_n (lv' := [(2, .int x1), (0, .ref a_this), (1, .int x1)]) hx hb dX7_lays_1 rfl hl (by decide) rfl (fun ls hl => ?_)
  refine lv_aload_n hx hb dX7_lays_2 rfl (lv_at hl 1 rfl) ?_
  refine va_get (D := g.1) (ci := 7) (v := .int v_squares) (C := RX7) (T := TX7) (N := 20) hx hb hts w_X7 hown hK.1 hP 0 rfl rfl 7 (by decide) w_f23 (fun _ h9 => h9) rfl dX7_lays_3 ?_
  refine lv_iconst (v := 1) hx hb dX7_lays_6 (by decide) ?_
  refine lv_isub hx hb dX7_lays_7 ?_
  refine jlet_i hR (fun y3_1 hR => ?_)
  try dsimp only at hR
  refine lv_istore_n (lv' := [(3, .int y3_1), (2, .int x1), (0, .ref a_this), (1, .int x1)]) hx hb dX7_lays_8 rfl hl (by decide) rfl (fun ls hl => ?_)
  obtain ⟨q_1, hq_1, hR⟩ := jbind hR
  try dsimp only at hR
  refine L9 jF x1 y3_1 v_right v_up _ _ hP hS _ (lv_sub hl [2, 1, 0] rfl) _ hq_1 (fun H locs hP hS ls hl => ?_)
  obtain rfl := (Option.some.inj hR)
  exact fin _ _ _ _ hP hS dX7_lays_44
def jf_Mo_withCode_L2 (n0 : Nat) (v_r0 : Nat → Int32) (z1 : Int32) (z2 : Int32) : Nat → Int32 → Option (Unit ⊕ Unit)
  | 0, _ => none
  | n + 1, z3 =>
    if z1 ≤ z3 then (some (.inr ())) else (if jin z3 n0 = true then (if v_r0 z3.toNatClampNeg = z2 then (some (.inl ())) else ((jf_Mo_withCode_L2 n0 v_r0 z1 z2 n) (z3 + 1))) else none)
def jf_Mo_withCode (n0 : Nat) (v_r0 : Nat → Int32) (x1 : Int32) (x2 : Int32) : Option (Int32 × (Nat → Int32)) :=
  Option.bind (jf_Mo_withCode_L2 n0 v_r0 x1 x2 jF 0) (fun q_1 => jsum (fun o_1 => some (x1, v_r0)) (fun o_2 => if jin x1 n0 = true then (some (x1 + 1, upd v_r0 x1.toNatClampNeg x2)) else none) q_1)
abbrev jr_Mo_withCode : Room := { frames := 0, cells := 0, slots := 0, locals := 0 }
set_option maxRecDepth 100000 in
set_option maxHeartbeats 4000000 in
theorem jc_Mo_withCode (l : Launch) (g : jG) (a_r0 : Nat) (n0 : Nat) (h_n0 : n0 < 2147483648) (v_r0 : Nat → Int32) (x1 : Int32) (x2 : Int32) (R : Int32 × (Nat → Int32)) (hR : jf_Mo_withCode n0 v_r0 x1 x2 = some R) (sz : Nat) : Met l yX7_withCode wsX7_withCode jr_Mo_withCode (jPw g [.ref a_r0, .int x1, .int x2] (jw_arI g a_r0 n0 v_r0) sz) (jQi g R.1 (jw_arI g a_r0 n0 R.2) (va_A (jw_arI g a_r0 n0 v_r0) sz)) 0 0 (va_A (jw_arI g a_r0 n0 v_r0) sz) := by
  refine jm_wi (cc := cX7_withCode) (maxL := 4) (by decide +kernel) rfl (Nat.le_of_ble_eq_true rfl) ?_
  intro p e s m below meth c A Q hx hb hml hown hts hK hP hD hA hS fin ls hl
  have hl : lv_has ls 4 [(0, .ref a_r0), (1, .int x1), (2, .int x2)] := hl
  have hown : s.vm.findClass RX7 = some m.cls := hown
  have L2 : ∀ (n : Nat) (v_r0 : Nat → Int32) (z1 : Int32) (z2 : Int32) (z3 : Int32) (H : Heap) (locs : List Loc), va_P g.1 vwCl (jw_arI g a_r0 n0 v_r0) H → va_S A s.heap H locs → ∀ (ls : Array Slot), lv_has ls 4 [(0, .ref a_r0), (1, .int z1), (2, .int z2), (3, .int z3)] → ∀ q, jf_Mo_withCode_L2 n0 v_r0 z1 z2 n z3 = some q → ((∀ o, q = .inl o → ∀ (H : Heap) (locs : List Loc), va_P g.1 vwCl (jw_arI g a_r0 n0 v_r0) H → va_S A s.heap H locs → ∀ ls : Array Slot, lv_has ls 4 [(1, .int z1)] → W p l e jr_Mo_withCode s m ([.ref a_r0, .int x1, .int x2] : List Value).toArray below meth c H locs 0 0 Q (F0 m 14 ls [])) ∧ (∀ o, q = .inr o → ∀ (H : Heap) (locs : List Loc), va_P g.1 vwCl (jw_arI g a_r0 n0 v_r0) H → va_S A s.heap H locs → ∀ ls : Array Slot, lv_has ls 4 [(0, .ref a_r0), (1, .int z1), (2, .int z2)] → W p l e jr_Mo_withCode s m ([.ref a_r0, .int x1, .int x2] : List Value).toArray below meth c H locs 0 0 Q (F0 m 22 ls []))) → W p l e jr_Mo_withCode s m ([.ref a_r0, .int x1, .int x2] : List Value).toArray below meth c H locs 0 0 Q (F0 m 2 ls []) := by
    intro n v_r0 z1 z2
    induction n with
    | zero =>
      intro z3 H locs hP hS ls hl q hR k
      cases hR
    | succ n ih =>
      intro z3 H locs hP hS ls hl q hR k
      rw [jf_Mo_withCode_L2] at hR
      refine lv_iload_n hx hb dX7_withCode_2 rfl (lv_at hl 3 rfl) ?_
      refine lv_iload_n hx hb dX7_withCode_3 rfl (lv_at hl 1 rfl) ?_
      refine lv_icmp_ge (tgt := 22) hx hb dX7_withCode_4 (by decide) (fun c_1 => ?_) (fun c_1 => ?_)
      · replace hR := Eq.trans (Eq.symm (if_pos c_1)) hR
        cases hR
        exact k.2 _ rfl _ _ hP hS _ (lv_sub hl [0, 1, 2] rfl)
      · replace hR := Eq.trans (Eq.symm (if_neg c_1)) hR
        refine lv_aload_n hx hb dX7_withCode_7 rfl (lv_at hl 0 rfl) ?_
        refine lv_iload_n hx hb dX7_withCode_8 rfl (lv_at hl 3 rfl) ?_
        by_cases c_2 : jin z3 n0 = true
        case neg => replace hR := Eq.trans (Eq.symm (if_neg c_2)) hR; cases hR
        replace hR := Eq.trans (Eq.symm (if_pos c_2)) hR
        refine va_iald hx hb hK.1 hP 0 0 rfl rfl (jin_in c_2) dX7_withCode_9 ?_
        refine lv_iload_n hx hb dX7_withCode_10 rfl (lv_at hl 2 rfl) ?_
        refine lv_icmp_ne (tgt := 16) hx hb dX7_withCode_11 (by decide) (fun c_3 => ?_) (fun c_3 => ?_)
        · replace hR := Eq.trans (Eq.symm (if_neg c_3)) hR
          refine lv_iinc (v := z3 + 1) (lv' := [(3, .int (z3 + 1)), (0, .ref a_r0), (1, .int z1), (2, .int z2)]) hx hb dX7_withCode_16 hl (k := 3) rfl (by first | rfl | decide) (by decide) rfl (fun ls hl => ?_)
          refine lv_goto (tgt := 2) hx hb dX7_withCode_19 (by decide) ?_
          exact ih (z3 + 1) _ _ hP hS _ (lv_sub hl [1, 2, 3, 0] rfl) _ hR k
        · replace hR := Eq.trans (Eq.symm (if_pos c_3)) hR
          cases hR
          exact k.1 _ rfl _ _ hP hS _ (lv_sub hl [1] rfl)
  rw [jf_Mo_withCode] at hR
  refine lv_iconst (v := 0) hx hb dX7_withCode_0 (by decide) ?_
  refine lv_istore_n (lv' := [(3, .int 0), (0, .ref a_r0), (1, .int x1), (2, .int x2)]) hx hb dX7_withCode_1 rfl hl (by decide) rfl (fun ls hl => ?_)
  obtain ⟨q_1, hq_1, hR⟩ := jbind hR
  refine L2 jF v_r0 x1 x2 0 _ _ hP hS _ (lv_sub hl [1, 2, 3, 0] rfl) _ hq_1 ⟨fun o_1 ho H locs hP hS ls hl => ?_, fun o_2 ho H locs hP hS ls hl => ?_⟩
  · rw [ho] at hR
    try dsimp only [jsum] at hR
    refine lv_iload_n hx hb dX7_withCode_14 rfl (lv_at hl 0 rfl) ?_
    obtain rfl := (Option.some.inj hR)
    exact fin _ _ _ _ _ rfl hP hS dX7_withCode_15
  · rw [ho] at hR
    try dsimp only [jsum] at hR
    refine lv_aload_n hx hb dX7_withCode_22 rfl (lv_at hl 0 rfl) ?_
    refine lv_iload_n hx hb dX7_withCode_23 rfl (lv_at hl 1 rfl) ?_
    refine lv_iload_n hx hb dX7_withCode_24 rfl (lv_at hl 2 rfl) ?_
    by_cases c_4 : jin x1 n0 = true
    case neg => replace hR := Eq.trans (Eq.symm (if_neg c_4)) hR; cases hR
    replace hR := Eq.trans (Eq.symm (if_pos c_4)) hR
    refine va_iast hx hb hK.1 hP (jD_to hD rfl) hS 0 0 rfl rfl (jin_in c_4) dX7_withCode_25 (fun H locs hP _ hS => ?_)
    have hP : va_P g.1 vwCl (jw_arI g a_r0 n0 (upd v_r0 x1.toNatClampNeg x2)) H := hP
    refine lv_iload_n hx hb dX7_withCode_26 rfl (lv_at hl 1 rfl) ?_
    refine lv_iconst (v := 1) hx hb dX7_withCode_27 (by decide) ?_
    refine lv_iadd hx hb dX7_withCode_28 ?_
    obtain rfl := (Option.some.inj hR)
    exact fin _ _ _ _ _ rfl hP hS dX7_withCode_29
def jf_Mo_kin_L7 (v_squares : Int32) (v_right : Nat → Int32) (v_up : Nat → Int32) : Nat → Int32 → (Nat → Int32) → (Nat → Int32) → Option ((Nat → Int32) × (Nat → Int32))
  | 0, _, _, _ => none
  | n + 1, z1, v_keptRight, v_keptUp =>
    if v_squares ≤ z1 then (some (v_keptRight, v_keptUp)) else (if jin z1 5 = true then (if jin z1 5 = true then (if jin z1 5 = true then (if jin z1 5 = true then ((jf_Mo_kin_L7 v_squares v_right v_up n) (z1 + 1) (upd v_keptRight z1.toNatClampNeg (v_right z1.toNatClampNeg)) (upd v_keptUp z1.toNatClampNeg (v_up z1.toNatClampNeg))) else none) else none) else none) else none)
def jf_Mo_kin_L60 (v_squares : Int32) : Nat → Int32 → Int32 → (Nat → Int32) → (Nat → Int32) → (Nat → Int32) → (Nat → Int32) → (Nat → Int32) → Option (Int32 × (Nat → Int32) × (Nat → Int32) × (Nat → Int32) × (Nat → Int32) × (Nat → Int32))
  | 0, _, _, _, _, _, _, _ => none
  | n + 1, z1, z2, v_right, v_up, v_name, v_part, v_codes =>
    if z1 ≤ z2 then (some (z1, v_right, v_up, v_name, v_part, v_codes)) else (if jin z2 200 = true then (Option.bind (jf_Mo_lays v_squares v_right v_up (v_codes z2.toNatClampNeg)) (fun q_4 => Option.bind (jf_Mo_shears v_squares q_4.1 q_4.2 v_part) (fun q_5 => Option.bind (jf_Mo_codeNow v_squares q_4.1 q_5.1 v_name) (fun q_6 => Option.bind (jf_Mo_withCode 200 v_codes z1 q_6.1) (fun q_7 => if jin z2 200 = true then (Option.bind (jf_Mo_lays v_squares q_4.1 q_5.1 (q_7.2 z2.toNatClampNeg)) (fun q_8 => Option.bind (jf_Mo_turns v_squares q_8.1 q_8.2 q_5.2) (fun q_9 => Option.bind (jf_Mo_codeNow v_squares q_9.1 q_9.2.1 q_6.2) (fun q_10 => Option.bind (jf_Mo_withCode 200 q_7.2 q_7.1 q_10.1) (fun q_11 => (jf_Mo_kin_L60 v_squares n) q_11.1 (z2 + 1) q_9.1 q_9.2.1 q_10.2 q_9.2.2 q_11.2))))) else none))))) else none)
def jf_Mo_kin_L127 (v_squares : Int32) (v_keptRight : Nat → Int32) (v_keptUp : Nat → Int32) (z1 : Int32) : Nat → Int32 → (Nat → Int32) → (Nat → Int32) → Option ((Nat → Int32) × (Nat → Int32))
  | 0, _, _, _ => none
  | n + 1, z2, v_right, v_up =>
    if v_squares ≤ z2 then (some (v_right, v_up)) else (if jin z2 5 = true then (if jin z2 5 = true then (if jin z2 5 = true then (if jin z2 5 = true then ((jf_Mo_kin_L127 v_squares v_keptRight v_keptUp z1 n) (z2 + 1) (upd v_right z2.toNatClampNeg (v_keptRight z2.toNatClampNeg)) (upd v_up z2.toNatClampNeg (v_keptUp z2.toNatClampNeg))) else none) else none) else none) else none)
def jf_Mo_kin (v_thrown : Int32) (v_squares : Int32) (v_right : Nat → Int32) (v_up : Nat → Int32) (v_keptRight : Nat → Int32) (v_keptUp : Nat → Int32) (v_name : Nat → Int32) (v_part : Nat → Int32) (v_codes : Nat → Int32) : Option (Int32 × Int32 × (Nat → Int32) × (Nat → Int32) × (Nat → Int32) × (Nat → Int32) × (Nat → Int32) × (Nat → Int32) × (Nat → Int32)) :=
  Option.bind (jf_Mo_kin_L7 v_squares v_right v_up jF 0 v_keptRight v_keptUp) (fun q_1 => Option.bind (jf_Mo_codeNow v_squares v_right v_up v_name) (fun q_2 => Option.bind (jf_Mo_withCode 200 v_codes 0 q_2.1) (fun q_3 => Option.bind (jf_Mo_kin_L60 v_squares jF q_3.1 0 v_right v_up q_2.2 v_part q_3.2) (fun q_12 => Option.bind (jf_Mo_kin_L127 v_squares q_1.1 q_1.2 q_12.1 jF 0 q_12.2.1 q_12.2.2.1) (fun q_13 => some (q_12.1, 0, q_13.1, q_13.2, q_1.1, q_1.2, q_12.2.2.2.1, q_12.2.2.2.2.1, q_12.2.2.2.2.2))))))
abbrev jr_Mo_kin : Room := { frames := 2, cells := 0, slots := 0, locals := 48 }
set_option maxRecDepth 100000 in
set_option maxHeartbeats 4000000 in
theorem jc_Mo_kin (l : Launch) (g : jG) (a_this a_this_isBlock a_this_isSeen a_this_lampX a_this_lampY a_this_right a_this_up a_this_keptRight a_this_keptUp a_this_name a_this_part a_this_codes a_this_above a_this_below a_this_length a_this_isMet : Nat) (v_thrown : Int32) (v_isBounce : Int32) (v_lamps : Int32) (v_squares : Int32) (v_intervals : Int32) (v_isBlock : Nat → Int32) (v_isSeen : Nat → Int32) (v_lampX : Nat → Int32) (v_lampY : Nat → Int32) (v_right : Nat → Int32) (v_up : Nat → Int32) (v_keptRight : Nat → Int32) (v_keptUp : Nat → Int32) (v_name : Nat → Int32) (v_part : Nat → Int32) (v_codes : Nat → Int32) (v_above : Nat → Int32) (v_below : Nat → Int32) (v_length : Nat → Int32) (v_isMet : Nat → Int32) (R : Int32 × Int32 × (Nat → Int32) × (Nat → Int32) × (Nat → Int32) × (Nat → Int32) × (Nat → Int32) × (Nat → Int32) × (Nat → Int32)) (hR : jf_Mo_kin v_thrown v_squares v_right v_up v_keptRight v_keptUp v_name v_part v_codes = some R) (sz : Nat) : Met l yX7_kin wsX7_kin jr_Mo_kin (jPw g [.ref a_this] (jw_Mo g a_this a_this_isBlock a_this_isSeen a_this_lampX a_this_lampY a_this_right a_this_up a_this_keptRight a_this_keptUp a_this_name a_this_part a_this_codes a_this_above a_this_below a_this_length a_this_isMet v_thrown v_isBounce v_lamps v_squares v_intervals v_isBlock v_isSeen v_lampX v_lampY v_right v_up v_keptRight v_keptUp v_name v_part v_codes v_above v_below v_length v_isMet) sz) (jQi g R.1 (jw_Mo g a_this a_this_isBlock a_this_isSeen a_this_lampX a_this_lampY a_this_right a_this_up a_this_keptRight a_this_keptUp a_this_name a_this_part a_this_codes a_this_above a_this_below a_this_length a_this_isMet R.2.1 v_isBounce v_lamps v_squares v_intervals v_isBlock v_isSeen v_lampX v_lampY R.2.2.1 R.2.2.2.1 R.2.2.2.2.1 R.2.2.2.2.2.1 R.2.2.2.2.2.2.1 R.2.2.2.2.2.2.2.1 R.2.2.2.2.2.2.2.2 v_above v_below v_length v_isMet) (va_A (jw_Mo g a_this a_this_isBlock a_this_isSeen a_this_lampX a_this_lampY a_this_right a_this_up a_this_keptRight a_this_keptUp a_this_name a_this_part a_this_codes a_this_above a_this_below a_this_length a_this_isMet v_thrown v_isBounce v_lamps v_squares v_intervals v_isBlock v_isSeen v_lampX v_lampY v_right v_up v_keptRight v_keptUp v_name v_part v_codes v_above v_below v_length v_isMet) sz)) 0 0 (va_A (jw_Mo g a_this a_this_isBlock a_this_isSeen a_this_lampX a_this_lampY a_this_right a_this_up a_this_keptRight a_this_keptUp a_this_name a_this_part a_this_codes a_this_above a_this_below a_this_length a_this_isMet v_thrown v_isBounce v_lamps v_squares v_intervals v_isBlock v_isSeen v_lampX v_lampY v_right v_up v_keptRight v_keptUp v_name v_part v_codes v_above v_below v_length v_isMet) sz) := by
  refine jm_wi (cc := cX7_kin) (maxL := 3) (by decide +kernel) rfl (Nat.le_of_ble_eq_true rfl) ?_
  intro p e s m below meth c A Q hx hb hml hown hts hK hP hD hA hS fin ls hl
  have hl : lv_has ls 3 [(0, .ref a_this)] := hl
  have hown : s.vm.findClass RX7 = some m.cls := hown
  have w_X7 : ∀ w ∈ u_ws RX7 TX7 20, w ∈ wsX7_kin := by decide +kernel
  have w_f60 := hts (.fieldLink RX7 60 "BilliardryModel" "thrown" "I") (by decide +kernel)
  have w_f23 := hts (.fieldLink RX7 23 "BilliardryModel" "squares" "I") (by decide +kernel)
  have w_f33 := hts (.fieldLink RX7 33 "BilliardryModel" "keptRight" "[I") (by decide +kernel)
  have w_f27 := hts (.fieldLink RX7 27 "BilliardryModel" "right" "[I") (by decide +kernel)
  have w_f36 := hts (.fieldLink RX7 36 "BilliardryModel" "keptUp" "[I") (by decide +kernel)
  have w_f30 := hts (.fieldLink RX7 30 "BilliardryModel" "up" "[I") (by decide +kernel)
  have w_f45 := hts (.fieldLink RX7 45 "BilliardryModel" "codes" "[I") (by decide +kernel)
  have L7 : ∀ (n : Nat) (v_thrown : Int32) (v_right : Nat → Int32) (v_up : Nat → Int32) (v_name : Nat → Int32) (v_part : Nat → Int32) (v_codes : Nat → Int32) (z1 : Int32) (v_keptRight : Nat → Int32) (v_keptUp : Nat → Int32) (H : Heap) (locs : List Loc), va_P g.1 vwCl (jw_Mo g a_this a_this_isBlock a_this_isSeen a_this_lampX a_this_lampY a_this_right a_this_up a_this_keptRight a_this_keptUp a_this_name a_this_part a_this_codes a_this_above a_this_below a_this_length a_this_isMet v_thrown v_isBounce v_lamps v_squares v_intervals v_isBlock v_isSeen v_lampX v_lampY v_right v_up v_keptRight v_keptUp v_name v_part v_codes v_above v_below v_length v_isMet) H → va_S A s.heap H locs → ∀ (ls : Array Slot), lv_has ls 3 [(0, .ref a_this), (1, .int z1)] → ∀ q, jf_Mo_kin_L7 v_squares v_right v_up n z1 v_keptRight v_keptUp = some q → (∀ (H : Heap) (locs : List Loc), va_P g.1 vwCl (jw_Mo g a_this a_this_isBlock a_this_isSeen a_this_lampX a_this_lampY a_this_right a_this_up a_this_keptRight a_this_keptUp a_this_name a_this_part a_this_codes a_this_above a_this_below a_this_length a_this_isMet v_thrown v_isBounce v_lamps v_squares v_intervals v_isBlock v_isSeen v_lampX v_lampY v_right v_up q.1 q.2 v_name v_part v_codes v_above v_below v_length v_isMet) H → va_S A s.heap H locs → ∀ ls : Array Slot, lv_has ls 3 [(0, .ref a_this)] → W p l e jr_Mo_kin s m ([.ref a_this] : List Value).toArray below meth c H locs 0 0 Q (F0 m 45 ls [])) → W p l e jr_Mo_kin s m ([.ref a_this] : List Value).toArray below meth c H locs 0 0 Q (F0 m 7 ls []) := by
    intro n v_thrown v_right v_up v_name v_part v_codes
    induction n with
    | zero =>
      intro z1 v_keptRight v_keptUp H locs hP hS ls hl q hR k
      cases hR
    | succ n ih =>
      intro z1 v_keptRight v_keptUp H locs hP hS ls hl q hR k
      rw [jf_Mo_kin_L7] at hR
      refine lv_iload_n hx hb dX7_kin_7 rfl (lv_at hl 1 rfl) ?_
      refine lv_aload_n hx hb dX7_kin_8 rfl (lv_at hl 0 rfl) ?_
      refine va_get (D := g.1) (ci := 7) (v := .int v_squares) (C := RX7) (T := TX7) (N := 20) hx hb hts w_X7 hown hK.1 hP 0 rfl rfl 7 (by decide) w_f23 (fun _ h9 => h9) rfl dX7_kin_9 ?_
      refine lv_icmp_ge (tgt := 45) hx hb dX7_kin_12 (by decide) (fun c_1 => ?_) (fun c_1 => ?_)
      · replace hR := Eq.trans (Eq.symm (if_pos c_1)) hR
        cases hR
        exact k _ _ hP hS _ (lv_sub hl [0] rfl)
      · replace hR := Eq.trans (Eq.symm (if_neg c_1)) hR
        refine lv_aload_n hx hb dX7_kin_15 rfl (lv_at hl 0 rfl) ?_
        refine va_get (D := g.1) (ci := 7) (v := .ref a_this_keptRight) (C := RX7) (T := TX7) (N := 20) hx hb hts w_X7 hown hK.1 hP 0 rfl rfl 10 (by decide) w_f33 (fun _ h9 => h9) rfl dX7_kin_16 ?_
        refine lv_iload_n hx hb dX7_kin_19 rfl (lv_at hl 1 rfl) ?_
        refine lv_aload_n hx hb dX7_kin_20 rfl (lv_at hl 0 rfl) ?_
        refine va_get (D := g.1) (ci := 7) (v := .ref a_this_right) (C := RX7) (T := TX7) (N := 20) hx hb hts w_X7 hown hK.1 hP 0 rfl rfl 8 (by decide) w_f27 (fun _ h9 => h9) rfl dX7_kin_21 ?_
        refine lv_iload_n hx hb dX7_kin_24 rfl (lv_at hl 1 rfl) ?_
        by_cases c_2 : jin z1 5 = true
        case neg => replace hR := Eq.trans (Eq.symm (if_neg c_2)) hR; cases hR
        replace hR := Eq.trans (Eq.symm (if_pos c_2)) hR
        refine va_iald hx hb hK.1 hP 5 0 rfl rfl (jin_in c_2) dX7_kin_25 ?_
        by_cases c_3 : jin z1 5 = true
        case neg => replace hR := Eq.trans (Eq.symm (if_neg c_3)) hR; cases hR
        replace hR := Eq.trans (Eq.symm (if_pos c_3)) hR
        refine va_iast hx hb hK.1 hP (jD_to hD rfl) hS 7 0 rfl rfl (jin_in c_3) dX7_kin_26 (fun H locs hP _ hS => ?_)
        have hP : va_P g.1 vwCl (jw_Mo g a_this a_this_isBlock a_this_isSeen a_this_lampX a_this_lampY a_this_right a_this_up a_this_keptRight a_this_keptUp a_this_name a_this_part a_this_codes a_this_above a_this_below a_this_length a_this_isMet v_thrown v_isBounce v_lamps v_squares v_intervals v_isBlock v_isSeen v_lampX v_lampY v_right v_up (upd v_keptRight z1.toNatClampNeg (v_right z1.toNatClampNeg)) v_keptUp v_name v_part v_codes v_above v_below v_length v_isMet) H := hP
        refine lv_aload_n hx hb dX7_kin_27 rfl (lv_at hl 0 rfl) ?_
        refine va_get (D := g.1) (ci := 7) (v := .ref a_this_keptUp) (C := RX7) (T := TX7) (N := 20) hx hb hts w_X7 hown hK.1 hP 0 rfl rfl 11 (by decide) w_f36 (fun _ h9 => h9) rfl dX7_kin_28 ?_
        refine lv_iload_n hx hb dX7_kin_31 rfl (lv_at hl 1 rfl) ?_
        refine lv_aload_n hx hb dX7_kin_32 rfl (lv_at hl 0 rfl) ?_
        refine va_get (D := g.1) (ci := 7) (v := .ref a_this_up) (C := RX7) (T := TX7) (N := 20) hx hb hts w_X7 hown hK.1 hP 0 rfl rfl 9 (by decide) w_f30 (fun _ h9 => h9) rfl dX7_kin_33 ?_
        refine lv_iload_n hx hb dX7_kin_36 rfl (lv_at hl 1 rfl) ?_
        by_cases c_4 : jin z1 5 = true
        case neg => replace hR := Eq.trans (Eq.symm (if_neg c_4)) hR; cases hR
        replace hR := Eq.trans (Eq.symm (if_pos c_4)) hR
        refine va_iald hx hb hK.1 hP 6 0 rfl rfl (jin_in c_4) dX7_kin_37 ?_
        by_cases c_5 : jin z1 5 = true
        case neg => replace hR := Eq.trans (Eq.symm (if_neg c_5)) hR; cases hR
        replace hR := Eq.trans (Eq.symm (if_pos c_5)) hR
        refine va_iast hx hb hK.1 hP (jD_to hD rfl) hS 8 0 rfl rfl (jin_in c_5) dX7_kin_38 (fun H locs hP _ hS => ?_)
        have hP : va_P g.1 vwCl (jw_Mo g a_this a_this_isBlock a_this_isSeen a_this_lampX a_this_lampY a_this_right a_this_up a_this_keptRight a_this_keptUp a_this_name a_this_part a_this_codes a_this_above a_this_below a_this_length a_this_isMet v_thrown v_isBounce v_lamps v_squares v_intervals v_isBlock v_isSeen v_lampX v_lampY v_right v_up (upd v_keptRight z1.toNatClampNeg (v_right z1.toNatClampNeg)) (upd v_keptUp z1.toNatClampNeg (v_up z1.toNatClampNeg)) v_name v_part v_codes v_above v_below v_length v_isMet) H := hP
        refine lv_iinc (v := z1 + 1) (lv' := [(1, .int (z1 + 1)), (0, .ref a_this)]) hx hb dX7_kin_39 hl (k := 1) rfl (by first | rfl | decide) (by decide) rfl (fun ls hl => ?_)
        refine lv_goto (tgt := 7) hx hb dX7_kin_42 (by decide) ?_
        exact ih (z1 + 1) (upd v_keptRight z1.toNatClampNeg (v_right z1.toNatClampNeg)) (upd v_keptUp z1.toNatClampNeg (v_up z1.toNatClampNeg)) _ _ hP hS _ (lv_sub hl [1, 0] rfl) _ hR k
  have L60 : ∀ (n : Nat) (v_thrown : Int32) (v_keptRight : Nat → Int32) (v_keptUp : Nat → Int32) (z1 : Int32) (z2 : Int32) (v_right : Nat → Int32) (v_up : Nat → Int32) (v_name : Nat → Int32) (v_part : Nat → Int32) (v_codes : Nat → Int32) (H : Heap) (locs : List Loc), va_P g.1 vwCl (jw_Mo g a_this a_this_isBlock a_this_isSeen a_this_lampX a_this_lampY a_this_right a_this_up a_this_keptRight a_this_keptUp a_this_name a_this_part a_this_codes a_this_above a_this_below a_this_length a_this_isMet v_thrown v_isBounce v_lamps v_squares v_intervals v_isBlock v_isSeen v_lampX v_lampY v_right v_up v_keptRight v_keptUp v_name v_part v_codes v_above v_below v_length v_isMet) H → va_S A s.heap H locs → ∀ (ls : Array Slot), lv_has ls 3 [(0, .ref a_this), (1, .int z1), (2, .int z2)] → ∀ q, jf_Mo_kin_L60 v_squares n z1 z2 v_right v_up v_name v_part v_codes = some q → (∀ (H : Heap) (locs : List Loc), va_P g.1 vwCl (jw_Mo g a_this a_this_isBlock a_this_isSeen a_this_lampX a_this_lampY a_this_right a_this_up a_this_keptRight a_this_keptUp a_this_name a_this_part a_this_codes a_this_above a_this_below a_this_length a_this_isMet v_thrown v_isBounce v_lamps v_squares v_intervals v_isBlock v_isSeen v_lampX v_lampY q.2.1 q.2.2.1 v_keptRight v_keptUp q.2.2.2.1 q.2.2.2.2.1 q.2.2.2.2.2 v_above v_below v_length v_isMet) H → va_S A s.heap H locs → ∀ ls : Array Slot, lv_has ls 3 [(0, .ref a_this), (1, .int q.1)] → W p l e jr_Mo_kin s m ([.ref a_this] : List Value).toArray below meth c H locs 0 0 Q (F0 m 125 ls [])) → W p l e jr_Mo_kin s m ([.ref a_this] : List Value).toArray below meth c H locs 0 0 Q (F0 m 60 ls []) := by
    intro n v_thrown v_keptRight v_keptUp
    induction n with
    | zero =>
      intro z1 z2 v_right v_up v_name v_part v_codes H locs hP hS ls hl q hR k
      cases hR
    | succ n ih =>
      intro z1 z2 v_right v_up v_name v_part v_codes H locs hP hS ls hl q hR k
      rw [jf_Mo_kin_L60] at hR
      refine lv_iload_n hx hb dX7_kin_60 rfl (lv_at hl 2 rfl) ?_
      refine lv_iload_n hx hb dX7_kin_61 rfl (lv_at hl 1 rfl) ?_
      refine lv_icmp_ge (tgt := 125) hx hb dX7_kin_62 (by decide) (fun c_6 => ?_) (fun c_6 => ?_)
      · replace hR := Eq.trans (Eq.symm (if_pos c_6)) hR
        cases hR
        exact k _ _ hP hS _ (lv_sub hl [0, 1] rfl)
      · replace hR := Eq.trans (Eq.symm (if_neg c_6)) hR
        refine lv_aload_n hx hb dX7_kin_65 rfl (lv_at hl 0 rfl) ?_
        refine lv_aload_n hx hb dX7_kin_66 rfl (lv_at hl 0 rfl) ?_
        refine va_get (D := g.1) (ci := 7) (v := .ref a_this_codes) (C := RX7) (T := TX7) (N := 20) hx hb hts w_X7 hown hK.1 hP 0 rfl rfl 14 (by decide) w_f45 (fun _ h9 => h9) rfl dX7_kin_67 ?_
        refine lv_iload_n hx hb dX7_kin_70 rfl (lv_at hl 2 rfl) ?_
        by_cases c_7 : jin z2 200 = true
        case neg => replace hR := Eq.trans (Eq.symm (if_neg c_7)) hR; cases hR
        replace hR := Eq.trans (Eq.symm (if_pos c_7)) hR
        refine va_iald hx hb hK.1 hP 11 0 rfl rfl (jin_in c_7) dX7_kin_71 ?_
        obtain ⟨q_4, hq_4, hR⟩ := jbind hR
        try dsimp only at hR
        refine jcall_wv (ws' := jw_Mo g a_this a_this_isBlock a_this_isSeen a_this_lampX a_this_lampY a_this_right a_this_up a_this_keptRight a_this_keptUp a_this_name a_this_part a_this_codes a_this_above a_this_below a_this_length a_this_isMet v_thrown v_isBounce v_lamps v_squares v_intervals v_isBlock v_isSeen v_lampX v_lampY q_4.1 q_4.2 v_keptRight v_keptUp v_name v_part v_codes v_above v_below v_length v_isMet) (va_runV (As := [.int (v_codes z2.toNatClampNeg)]) (rest := []) ⟨hx, hb, hml, hown, hts⟩ (jc_Mo_lays l g a_this a_this_isBlock a_this_isSeen a_this_lampX a_this_lampY a_this_right a_this_up a_this_keptRight a_this_keptUp a_this_name a_this_part a_this_codes a_this_above a_this_below a_this_length a_this_isMet v_thrown v_isBounce v_lamps v_squares v_intervals v_isBlock v_isSeen v_lampX v_lampY v_right v_up v_keptRight v_keptUp v_name v_part v_codes v_above v_below v_length v_isMet (v_codes z2.toNatClampNeg) _ hq_4 _) (cwV 1 hts gX7_kin_X7_lays rfl rfl rfl (by decide +kernel) ⟨Nat.le_of_ble_eq_true rfl, Nat.le_of_ble_eq_true rfl⟩) (jpw_v hK hP (jD_to hD rfl) (ci := 7) (q0 := 0) rfl rfl) rfl rfl hl.1 rfl (lv_room (Nat.le_of_ble_eq_true rfl)) dX7_kin_72 ⟨Nat.zero_le _, Nat.zero_le _⟩) hP (jD_to hD rfl) hS hA [0, 1, 2, 3, 4, 5, 6, 7, 8, 9, 10, 11, 12, 13, 14, 15] [] [0, 1, 2, 3, 4, 5, 6, 7, 8, 9, 10, 11, 12, 13, 14, 15] rfl (by decide) rfl (fun H locs hP hS => ?_)
        refine lv_aload_n hx hb dX7_kin_75 rfl (lv_at hl 0 rfl) ?_
        obtain ⟨q_5, hq_5, hR⟩ := jbind hR
        try dsimp only at hR
        refine jcall_wv (ws' := jw_Mo g a_this a_this_isBlock a_this_isSeen a_this_lampX a_this_lampY a_this_right a_this_up a_this_keptRight a_this_keptUp a_this_name a_this_part a_this_codes a_this_above a_this_below a_this_length a_this_isMet v_thrown v_isBounce v_lamps v_squares v_intervals v_isBlock v_isSeen v_lampX v_lampY q_4.1 q_5.1 v_keptRight v_keptUp v_name q_5.2 v_codes v_above v_below v_length v_isMet) (va_runV (As := []) (rest := []) ⟨hx, hb, hml, hown, hts⟩ (jc_Mo_shears l g a_this a_this_isBlock a_this_isSeen a_this_lampX a_this_lampY a_this_right a_this_up a_this_keptRight a_this_keptUp a_this_name a_this_part a_this_codes a_this_above a_this_below a_this_length a_this_isMet v_thrown v_isBounce v_lamps v_squares v_intervals v_isBlock v_isSeen v_lampX v_lampY q_4.1 q_4.2 v_keptRight v_keptUp v_name v_part v_codes v_above v_below v_length v_isMet _ hq_5 _) (cwV 0 hts gX7_kin_X7_shears rfl rfl rfl (by decide +kernel) ⟨Nat.le_of_ble_eq_true rfl, Nat.le_of_ble_eq_true rfl⟩) (jpw_v hK hP (jD_to hD rfl) (ci := 7) (q0 := 0) rfl rfl) rfl rfl hl.1 rfl (lv_room (Nat.le_of_ble_eq_true rfl)) dX7_kin_76 ⟨Nat.zero_le _, Nat.zero_le _⟩) hP (jD_to hD rfl) hS hA [0, 1, 2, 3, 4, 5, 6, 7, 8, 9, 10, 11, 12, 13, 14, 15] [] [0, 1, 2, 3, 4, 5, 6, 7, 8, 9, 10, 11, 12, 13, 14, 15] rfl (by decide) rfl (fun H locs hP hS => ?_)
        refine lv_aload_n hx hb dX7_kin_79 rfl (lv_at hl 0 rfl) ?_
        refine va_get (D := g.1) (ci := 7) (v := .ref a_this_codes) (C := RX7) (T := TX7) (N := 20) hx hb hts w_X7 hown hK.1 hP 0 rfl rfl 14 (by decide) w_f45 (fun _ h9 => h9) rfl dX7_kin_80 ?_
        refine lv_iload_n hx hb dX7_kin_83 rfl (lv_at hl 1 rfl) ?_
        refine lv_aload_n hx hb dX7_kin_84 rfl (lv_at hl 0 rfl) ?_
        obtain ⟨q_6, hq_6, hR⟩ := jbind hR
        try dsimp only at hR
        refine jcall_wi (ws' := jw_Mo g a_this a_this_isBlock a_this_isSeen a_this_lampX a_this_lampY a_this_right a_this_up a_this_keptRight a_this_keptUp a_this_name a_this_part a_this_codes a_this_above a_this_below a_this_length a_this_isMet v_thrown v_isBounce v_lamps v_squares v_intervals v_isBlock v_isSeen v_lampX v_lampY q_4.1 q_5.1 v_keptRight v_keptUp q_6.2 q_5.2 v_codes v_above v_below v_length v_isMet) (va_runV (As := []) (rest := [.int z1, .ref a_this_codes]) ⟨hx, hb, hml, hown, hts⟩ (jc_Mo_codeNow l g a_this a_this_isBlock a_this_isSeen a_this_lampX a_this_lampY a_this_right a_this_up a_this_keptRight a_this_keptUp a_this_name a_this_part a_this_codes a_this_above a_this_below a_this_length a_this_isMet v_thrown v_isBounce v_lamps v_squares v_intervals v_isBlock v_isSeen v_lampX v_lampY q_4.1 q_5.1 v_keptRight v_keptUp v_name q_5.2 v_codes v_above v_below v_length v_isMet _ hq_6 _) (cwV 0 hts gX7_kin_X7_codeNow rfl rfl rfl (by decide +kernel) ⟨Nat.le_of_ble_eq_true rfl, Nat.le_of_ble_eq_true rfl⟩) (jpw_v hK hP (jD_to hD rfl) (ci := 7) (q0 := 0) rfl rfl) rfl rfl hl.1 rfl (lv_room (Nat.le_of_ble_eq_true rfl)) dX7_kin_85 ⟨Nat.zero_le _, Nat.zero_le _⟩) hP (jD_to hD rfl) hS hA [0, 1, 2, 3, 4, 5, 6, 7, 8, 9, 10, 11, 12, 13, 14, 15] [] [0, 1, 2, 3, 4, 5, 6, 7, 8, 9, 10, 11, 12, 13, 14, 15] rfl (by decide) rfl (fun H locs hP hS => ?_)
        obtain ⟨q_7, hq_7, hR⟩ := jbind hR
        try dsimp only at hR
        refine jcall_wi (ws' := jw_Mo g a_this a_this_isBlock a_this_isSeen a_this_lampX a_this_lampY a_this_right a_this_up a_this_keptRight a_this_keptUp a_this_name a_this_part a_this_codes a_this_above a_this_below a_this_length a_this_isMet v_thrown v_isBounce v_lamps v_squares v_intervals v_isBlock v_isSeen v_lampX v_lampY q_4.1 q_5.1 v_keptRight v_keptUp q_6.2 q_5.2 q_7.2 v_above v_below v_length v_isMet) (va_runS (As := [.ref a_this_codes, .int z1, .int q_6.1]) (rest := []) ⟨hx, hb, hml, hown, hts⟩ (jc_Mo_withCode l g a_this_codes 200 (Nat.le_of_ble_eq_true rfl) v_codes z1 q_6.1 _ hq_7 _) (va_cwS 3 hts gX7_kin_X7_withCode rfl rfl rfl (by decide +kernel) ⟨Nat.le_of_ble_eq_true rfl, Nat.le_of_ble_eq_true rfl⟩) (jpw_s hK (hP.sub (ws' := jw_arI g a_this_codes 200 v_codes) [11] rfl) ((jD_to (ws' := jw_Mo g a_this a_this_isBlock a_this_isSeen a_this_lampX a_this_lampY a_this_right a_this_up a_this_keptRight a_this_keptUp a_this_name a_this_part a_this_codes a_this_above a_this_below a_this_length a_this_isMet v_thrown v_isBounce v_lamps v_squares v_intervals v_isBlock v_isSeen v_lampX v_lampY q_4.1 q_5.1 v_keptRight v_keptUp q_6.2 q_5.2 v_codes v_above v_below v_length v_isMet) hD rfl).sub [11] (by decide) rfl)) rfl rfl hl.1 rfl (lv_room (Nat.le_of_ble_eq_true rfl)) dX7_kin_88 ⟨Nat.zero_le _, Nat.zero_le _⟩) hP (jD_to hD rfl) hS hA [11] [0, 1, 2, 3, 4, 5, 6, 7, 8, 9, 10, 12, 13, 14, 15] [0, 1, 2, 3, 4, 5, 6, 7, 8, 9, 10, 15, 11, 12, 13, 14] rfl (by decide) rfl (fun H locs hP hS => ?_)
        refine lv_istore_n (lv' := [(1, .int q_7.1), (0, .ref a_this), (2, .int z2)]) hx hb dX7_kin_91 rfl hl (by decide) rfl (fun ls hl => ?_)
        refine lv_aload_n hx hb dX7_kin_92 rfl (lv_at hl 1 rfl) ?_
        refine lv_aload_n hx hb dX7_kin_93 rfl (lv_at hl 1 rfl) ?_
        refine va_get (D := g.1) (ci := 7) (v := .ref a_this_codes) (C := RX7) (T := TX7) (N := 20) hx hb hts w_X7 hown hK.1 hP 0 rfl rfl 14 (by decide) w_f45 (fun _ h9 => h9) rfl dX7_kin_94 ?_
        refine lv_iload_n hx hb dX7_kin_97 rfl (lv_at hl 2 rfl) ?_
        by_cases c_8 : jin z2 200 = true
        case neg => replace hR := Eq.trans (Eq.symm (if_neg c_8)) hR; cases hR
        replace hR := Eq.trans (Eq.symm (if_pos c_8)) hR
        refine va_iald hx hb hK.1 hP 11 0 rfl rfl (jin_in c_8) dX7_kin_98 ?_
        obtain ⟨q_8, hq_8, hR⟩ := jbind hR
        try dsimp only at hR
        refine jcall_wv (ws' := jw_Mo g a_this a_this_isBlock a_this_isSeen a_this_lampX a_this_lampY a_this_right a_this_up a_this_keptRight a_this_keptUp a_this_name a_this_part a_this_codes a_this_above a_this_below a_this_length a_this_isMet v_thrown v_isBounce v_lamps v_squares v_intervals v_isBlock v_isSeen v_lampX v_lampY q_8.1 q_8.2 v_keptRight v_keptUp q_6.2 q_5.2 q_7.2 v_above v_below v_length v_isMet) (va_runV (As := [.int (q_7.2 z2.toNatClampNeg)]) (rest := []) ⟨hx, hb, hml, hown, hts⟩ (jc_Mo_lays l g a_this a_this_isBlock a_this_isSeen a_this_lampX a_this_lampY a_this_right a_this_up a_this_keptRight a_this_keptUp a_this_name a_this_part a_this_codes a_this_above a_this_below a_this_length a_this_isMet v_thrown v_isBounce v_lamps v_squares v_intervals v_isBlock v_isSeen v_lampX v_lampY q_4.1 q_5.1 v_keptRight v_keptUp q_6.2 q_5.2 q_7.2 v_above v_below v_length v_isMet (q_7.2 z2.toNatClampNeg) _ hq_8 _) (cwV 1 hts gX7_kin_X7_lays rfl rfl rfl (by decide +kernel) ⟨Nat.le_of_ble_eq_true rfl, Nat.le_of_ble_eq_true rfl⟩) (jpw_v hK hP (jD_to hD rfl) (ci := 7) (q0 := 0) rfl rfl) rfl rfl hl.1 rfl (lv_room (Nat.le_of_ble_eq_true rfl)) dX7_kin_99 ⟨Nat.zero_le _, Nat.zero_le _⟩) hP (jD_to hD rfl) hS hA [0, 1, 2, 3, 4, 5, 6, 7, 8, 9, 10, 11, 12, 13, 14, 15] [] [0, 1, 2, 3, 4, 5, 6, 7, 8, 9, 10, 11, 12, 13, 14, 15] rfl (by decide) rfl (fun H locs hP hS => ?_)
        refine lv_aload_n hx hb dX7_kin_102 rfl (lv_at hl 1 rfl) ?_
        obtain ⟨q_9, hq_9, hR⟩ := jbind hR
        try dsimp only at hR
        refine jcall_wv (ws' := jw_Mo g a_this a_this_isBlock a_this_isSeen a_this_lampX a_this_lampY a_this_right a_this_up a_this_keptRight a_this_keptUp a_this_name a_this_part a_this_codes a_this_above a_this_below a_this_length a_this_isMet v_thrown v_isBounce v_lamps v_squares v_intervals v_isBlock v_isSeen v_lampX v_lampY q_9.1 q_9.2.1 v_keptRight v_keptUp q_6.2 q_9.2.2 q_7.2 v_above v_below v_length v_isMet) (va_runV (As := []) (rest := []) ⟨hx, hb, hml, hown, hts⟩ (jc_Mo_turns l g a_this a_this_isBlock a_this_isSeen a_this_lampX a_this_lampY a_this_right a_this_up a_this_keptRight a_this_keptUp a_this_name a_this_part a_this_codes a_this_above a_this_below a_this_length a_this_isMet v_thrown v_isBounce v_lamps v_squares v_intervals v_isBlock v_isSeen v_lampX v_lampY q_8.1 q_8.2 v_keptRight v_keptUp q_6.2 q_5.2 q_7.2 v_above v_below v_length v_isMet _ hq_9 _) (cwV 0 hts gX7_kin_X7_turns rfl rfl rfl (by decide +kernel) ⟨Nat.le_of_ble_eq_true rfl, Nat.le_of_ble_eq_true rfl⟩) (jpw_v hK hP (jD_to hD rfl) (ci := 7) (q0 := 0) rfl rfl) rfl rfl hl.1 rfl (lv_room (Nat.le_of_ble_eq_true rfl)) dX7_kin_103 ⟨Nat.zero_le _, Nat.zero_le _⟩) hP (jD_to hD rfl) hS hA [0, 1, 2, 3, 4, 5, 6, 7, 8, 9, 10, 11, 12, 13, 14, 15] [] [0, 1, 2, 3, 4, 5, 6, 7, 8, 9, 10, 11, 12, 13, 14, 15] rfl (by decide) rfl (fun H locs hP hS => ?_)
        refine lv_aload_n hx hb dX7_kin_106 rfl (lv_at hl 1 rfl) ?_
        refine va_get (D := g.1) (ci := 7) (v := .ref a_this_codes) (C := RX7) (T := TX7) (N := 20) hx hb hts w_X7 hown hK.1 hP 0 rfl rfl 14 (by decide) w_f45 (fun _ h9 => h9) rfl dX7_kin_107 ?_
        refine lv_iload_n hx hb dX7_kin_110 rfl (lv_at hl 0 rfl) ?_
        refine lv_aload_n hx hb dX7_kin_111 rfl (lv_at hl 1 rfl) ?_
        obtain ⟨q_10, hq_10, hR⟩ := jbind hR
        try dsimp only at hR
        refine jcall_wi (ws' := jw_Mo g a_this a_this_isBlock a_this_isSeen a_this_lampX a_this_lampY a_this_right a_this_up a_this_keptRight a_this_keptUp a_this_name a_this_part a_this_codes a_this_above a_this_below a_this_length a_this_isMet v_thrown v_isBounce v_lamps v_squares v_intervals v_isBlock v_isSeen v_lampX v_lampY q_9.1 q_9.2.1 v_keptRight v_keptUp q_10.2 q_9.2.2 q_7.2 v_above v_below v_length v_isMet) (va_runV (As := []) (rest := [.int q_7.1, .ref a_this_codes]) ⟨hx, hb, hml, hown, hts⟩ (jc_Mo_codeNow l g a_this a_this_isBlock a_this_isSeen a_this_lampX a_this_lampY a_this_right a_this_up a_this_keptRight a_this_keptUp a_this_name a_this_part a_this_codes a_this_above a_this_below a_this_length a_this_isMet v_thrown v_isBounce v_lamps v_squares v_intervals v_isBlock v_isSeen v_lampX v_lampY q_9.1 q_9.2.1 v_keptRight v_keptUp q_6.2 q_9.2.2 q_7.2 v_above v_below v_length v_isMet _ hq_10 _) (cwV 0 hts gX7_kin_X7_codeNow rfl rfl rfl (by decide +kernel) ⟨Nat.le_of_ble_eq_true rfl, Nat.le_of_ble_eq_true rfl⟩) (jpw_v hK hP (jD_to hD rfl) (ci := 7) (q0 := 0) rfl rfl) rfl rfl hl.1 rfl (lv_room (Nat.le_of_ble_eq_true rfl)) dX7_kin_112 ⟨Nat.zero_le _, Nat.zero_le _⟩) hP (jD_to hD rfl) hS hA [0, 1, 2, 3, 4, 5, 6, 7, 8, 9, 10, 11, 12, 13, 14, 15] [] [0, 1, 2, 3, 4, 5, 6, 7, 8, 9, 10, 11, 12, 13, 14, 15] rfl (by decide) rfl (fun H locs hP hS => ?_)
        obtain ⟨q_11, hq_11, hR⟩ := jbind hR
        try dsimp only at hR
        refine jcall_wi (ws' := jw_Mo g a_this a_this_isBlock a_this_isSeen a_this_lampX a_this_lampY a_this_right a_this_up a_this_keptRight a_this_keptUp a_this_name a_this_part a_this_codes a_this_above a_this_below a_this_length a_this_isMet v_thrown v_isBounce v_lamps v_squares v_intervals v_isBlock v_isSeen v_lampX v_lampY q_9.1 q_9.2.1 v_keptRight v_keptUp q_10.2 q_9.2.2 q_11.2 v_above v_below v_length v_isMet) (va_runS (As := [.ref a_this_codes, .int q_7.1, .int q_10.1]) (rest := []) ⟨hx, hb, hml, hown, hts⟩ (jc_Mo_withCode l g a_this_codes 200 (Nat.le_of_ble_eq_true rfl) q_7.2 q_7.1 q_10.1 _ hq_11 _) (va_cwS 3 hts gX7_kin_X7_withCode rfl rfl rfl (by decide +kernel) ⟨Nat.le_of_ble_eq_true rfl, Nat.le_of_ble_eq_true rfl⟩) (jpw_s hK (hP.sub (ws' := jw_arI g a_this_codes 200 q_7.2) [11] rfl) ((jD_to (ws' := jw_Mo g a_this a_this_isBlock a_this_isSeen a_this_lampX a_this_lampY a_this_right a_this_up a_this_keptRight a_this_keptUp a_this_name a_this_part a_this_codes a_this_above a_this_below a_this_length a_this_isMet v_thrown v_isBounce v_lamps v_squares v_intervals v_isBlock v_isSeen v_lampX v_lampY q_9.1 q_9.2.1 v_keptRight v_keptUp q_10.2 q_9.2.2 q_7.2 v_above v_below v_length v_isMet) hD rfl).sub [11] (by decide) rfl)) rfl rfl hl.1 rfl (lv_room (Nat.le_of_ble_eq_true rfl)) dX7_kin_115 ⟨Nat.zero_le _, Nat.zero_le _⟩) hP (jD_to hD rfl) hS hA [11] [0, 1, 2, 3, 4, 5, 6, 7, 8, 9, 10, 12, 13, 14, 15] [0, 1, 2, 3, 4, 5, 6, 7, 8, 9, 10, 15, 11, 12, 13, 14] rfl (by decide) rfl (fun H locs hP hS => ?_)
        refine lv_istore_n (lv' := [(1, .int q_11.1), (0, .ref a_this), (2, .int z2)]) hx hb dX7_kin_118 rfl hl (by decide) rfl (fun ls hl => ?_)
        refine lv_iinc (v := z2 + 1) (lv' := [(2, .int (z2 + 1)), (1, .int q_11.1), (0, .ref a_this)]) hx hb dX7_kin_119 hl (k := 2) rfl (by first | rfl | decide) (by decide) rfl (fun ls hl => ?_)
        refine lv_goto (tgt := 60) hx hb dX7_kin_122 (by decide) ?_
        exact ih q_11.1 (z2 + 1) q_9.1 q_9.2.1 q_10.2 q_9.2.2 q_11.2 _ _ hP hS _ (lv_sub hl [2, 1, 0] rfl) _ hR k
  have L127 : ∀ (n : Nat) (v_thrown : Int32) (v_keptRight : Nat → Int32) (v_keptUp : Nat → Int32) (v_name : Nat → Int32) (v_part : Nat → Int32) (v_codes : Nat → Int32) (z1 : Int32) (z2 : Int32) (v_right : Nat → Int32) (v_up : Nat → Int32) (H : Heap) (locs : List Loc), va_P g.1 vwCl (jw_Mo g a_this a_this_isBlock a_this_isSeen a_this_lampX a_this_lampY a_this_right a_this_up a_this_keptRight a_this_keptUp a_this_name a_this_part a_this_codes a_this_above a_this_below a_this_length a_this_isMet v_thrown v_isBounce v_lamps v_squares v_intervals v_isBlock v_isSeen v_lampX v_lampY v_right v_up v_keptRight v_keptUp v_name v_part v_codes v_above v_below v_length v_isMet) H → va_S A s.heap H locs → ∀ (ls : Array Slot), lv_has ls 3 [(0, .ref a_this), (1, .int z1), (2, .int z2)] → ∀ q, jf_Mo_kin_L127 v_squares v_keptRight v_keptUp z1 n z2 v_right v_up = some q → (∀ (H : Heap) (locs : List Loc), va_P g.1 vwCl (jw_Mo g a_this a_this_isBlock a_this_isSeen a_this_lampX a_this_lampY a_this_right a_this_up a_this_keptRight a_this_keptUp a_this_name a_this_part a_this_codes a_this_above a_this_below a_this_length a_this_isMet v_thrown v_isBounce v_lamps v_squares v_intervals v_isBlock v_isSeen v_lampX v_lampY q.1 q.2 v_keptRight v_keptUp v_name v_part v_codes v_above v_below v_length v_isMet) H → va_S A s.heap H locs → ∀ ls : Array Slot, lv_has ls 3 [(1, .int z1)] → W p l e jr_Mo_kin s m ([.ref a_this] : List Value).toArray below meth c H locs 0 0 Q (F0 m 165 ls [])) → W p l e jr_Mo_kin s m ([.ref a_this] : List Value).toArray below meth c H locs 0 0 Q (F0 m 127 ls []) := by
    intro n v_thrown v_keptRight v_keptUp v_name v_part v_codes z1
    induction n with
    | zero =>
      intro z2 v_right v_up H locs hP hS ls hl q hR k
      cases hR
    | succ n ih =>
      intro z2 v_right v_up H locs hP hS ls hl q hR k
      rw [jf_Mo_kin_L127] at hR
      refine lv_iload_n hx hb dX7_kin_127 rfl (lv_at hl 2 rfl) ?_
      refine lv_aload_n hx hb dX7_kin_128 rfl (lv_at hl 0 rfl) ?_
      refine va_get (D := g.1) (ci := 7) (v := .int v_squares) (C := RX7) (T := TX7) (N := 20) hx hb hts w_X7 hown hK.1 hP 0 rfl rfl 7 (by decide) w_f23 (fun _ h9 => h9) rfl dX7_kin_129 ?_
      refine lv_icmp_ge (tgt := 165) hx hb dX7_kin_132 (by decide) (fun c_9 => ?_) (fun c_9 => ?_)
      · replace hR := Eq.trans (Eq.symm (if_pos c_9)) hR
        cases hR
        exact k _ _ hP hS _ (lv_sub hl [1] rfl)
      · replace hR := Eq.trans (Eq.symm (if_neg c_9)) hR
        refine lv_aload_n hx hb dX7_kin_135 rfl (lv_at hl 0 rfl) ?_
        refine va_get (D := g.1) (ci := 7) (v := .ref a_this_right) (C := RX7) (T := TX7) (N := 20) hx hb hts w_X7 hown hK.1 hP 0 rfl rfl 8 (by decide) w_f27 (fun _ h9 => h9) rfl dX7_kin_136 ?_
        refine lv_iload_n hx hb dX7_kin_139 rfl (lv_at hl 2 rfl) ?_
        refine lv_aload_n hx hb dX7_kin_140 rfl (lv_at hl 0 rfl) ?_
        refine va_get (D := g.1) (ci := 7) (v := .ref a_this_keptRight) (C := RX7) (T := TX7) (N := 20) hx hb hts w_X7 hown hK.1 hP 0 rfl rfl 10 (by decide) w_f33 (fun _ h9 => h9) rfl dX7_kin_141 ?_
        refine lv_iload_n hx hb dX7_kin_144 rfl (lv_at hl 2 rfl) ?_
        by_cases c_10 : jin z2 5 = true
        case neg => replace hR := Eq.trans (Eq.symm (if_neg c_10)) hR; cases hR
        replace hR := Eq.trans (Eq.symm (if_pos c_10)) hR
        refine va_iald hx hb hK.1 hP 7 0 rfl rfl (jin_in c_10) dX7_kin_145 ?_
        by_cases c_11 : jin z2 5 = true
        case neg => replace hR := Eq.trans (Eq.symm (if_neg c_11)) hR; cases hR
        replace hR := Eq.trans (Eq.symm (if_pos c_11)) hR
        refine va_iast hx hb hK.1 hP (jD_to hD rfl) hS 5 0 rfl rfl (jin_in c_11) dX7_kin_146 (fun H locs hP _ hS => ?_)
        have hP : va_P g.1 vwCl (jw_Mo g a_this a_this_isBlock a_this_isSeen a_this_lampX a_this_lampY a_this_right a_this_up a_this_keptRight a_this_keptUp a_this_name a_this_part a_this_codes a_this_above a_this_below a_this_length a_this_isMet v_thrown v_isBounce v_lamps v_squares v_intervals v_isBlock v_isSeen v_lampX v_lampY (upd v_right z2.toNatClampNeg (v_keptRight z2.toNatClampNeg)) v_up v_keptRight v_keptUp v_name v_part v_codes v_above v_below v_length v_isMet) H := hP
        refine lv_aload_n hx hb dX7_kin_147 rfl (lv_at hl 0 rfl) ?_
        refine va_get (D := g.1) (ci := 7) (v := .ref a_this_up) (C := RX7) (T := TX7) (N := 20) hx hb hts w_X7 hown hK.1 hP 0 rfl rfl 9 (by decide) w_f30 (fun _ h9 => h9) rfl dX7_kin_148 ?_
        refine lv_iload_n hx hb dX7_kin_151 rfl (lv_at hl 2 rfl) ?_
        refine lv_aload_n hx hb dX7_kin_152 rfl (lv_at hl 0 rfl) ?_
        refine va_get (D := g.1) (ci := 7) (v := .ref a_this_keptUp) (C := RX7) (T := TX7) (N := 20) hx hb hts w_X7 hown hK.1 hP 0 rfl rfl 11 (by decide) w_f36 (fun _ h9 => h9) rfl dX7_kin_153 ?_
        refine lv_iload_n hx hb dX7_kin_156 rfl (lv_at hl 2 rfl) ?_
        by_cases c_12 : jin z2 5 = true
        case neg => replace hR := Eq.trans (Eq.symm (if_neg c_12)) hR; cases hR
        replace hR := Eq.trans (Eq.symm (if_pos c_12)) hR
        refine va_iald hx hb hK.1 hP 8 0 rfl rfl (jin_in c_12) dX7_kin_157 ?_
        by_cases c_13 : jin z2 5 = true
        case neg => replace hR := Eq.trans (Eq.symm (if_neg c_13)) hR; cases hR
        replace hR := Eq.trans (Eq.symm (if_pos c_13)) hR
        refine va_iast hx hb hK.1 hP (jD_to hD rfl) hS 6 0 rfl rfl (jin_in c_13) dX7_kin_158 (fun H locs hP _ hS => ?_)
        have hP : va_P g.1 vwCl (jw_Mo g a_this a_this_isBlock a_this_isSeen a_this_lampX a_this_lampY a_this_right a_this_up a_this_keptRight a_this_keptUp a_this_name a_this_part a_this_codes a_this_above a_this_below a_this_length a_this_isMet v_thrown v_isBounce v_lamps v_squares v_intervals v_isBlock v_isSeen v_lampX v_lampY (upd v_right z2.toNatClampNeg (v_keptRight z2.toNatClampNeg)) (upd v_up z2.toNatClampNeg (v_keptUp z2.toNatClampNeg)) v_keptRight v_keptUp v_name v_part v_codes v_above v_below v_length v_isMet) H := hP
        refine lv_iinc (v := z2 + 1) (lv' := [(2, .int (z2 + 1)), (0, .ref a_this), (1, .int z1)]) hx hb dX7_kin_159 hl (k := 2) rfl (by first | rfl | decide) (by decide) rfl (fun ls hl => ?_)
        refine lv_goto (tgt := 127) hx hb dX7_kin_162 (by decide) ?_
        exact ih (z2 + 1) (upd v_right z2.toNatClampNeg (v_keptRight z2.toNatClampNeg)) (upd v_up z2.toNatClampNeg (v_keptUp z2.toNatClampNeg)) _ _ hP hS _ (lv_sub hl [1, 2, 0] rfl) _ hR k
  rw [jf_Mo_kin] at hR
  refine lv_aload_n hx hb dX7_kin_0 rfl (lv_at hl 0 rfl) ?_
  refine lv_iconst (v := 0) hx hb dX7_kin_1 (by decide) ?_
  refine va_put (D := g.1) (ci := 7) (v := .int 0) (ty := .int) (C := RX7) (T := TX7) (N := 20) hx hb hts w_X7 tyX7 tyX7_ok nmX7 hown hK.1 hP (jD_to hD rfl) hS 0 rfl rfl 0 (by decide) w_f60 (fun _ h9 => h9) rfl (by decide +kernel) rfl rfl (Nat.le_of_ble_eq_true rfl) dX7_kin_2 (fun H locs hP _ hS => ?_)
  have hP : va_P g.1 vwCl (jw_Mo g a_this a_this_isBlock a_this_isSeen a_this_lampX a_this_lampY a_this_right a_this_up a_this_keptRight a_this_keptUp a_this_name a_this_part a_this_codes a_this_above a_this_below a_this_length a_this_isMet 0 v_isBounce v_lamps v_squares v_intervals v_isBlock v_isSeen v_lampX v_lampY v_right v_up v_keptRight v_keptUp v_name v_part v_codes v_above v_below v_length v_isMet) H := hP
  refine lv_iconst (v := 0) hx hb dX7_kin_5 (by decide) ?_
  refine lv_istore_n (lv' := [(1, .int 0), (0, .ref a_this)]) hx hb dX7_kin_6 rfl hl (by decide) rfl (fun ls hl => ?_)
  obtain ⟨q_1, hq_1, hR⟩ := jbind hR
  try dsimp only at hR
  refine L7 jF 0 v_right v_up v_name v_part v_codes 0 v_keptRight v_keptUp _ _ hP hS _ (lv_sub hl [1, 0] rfl) _ hq_1 (fun H locs hP hS ls hl => ?_)
  refine lv_aload_n hx hb dX7_kin_45 rfl (lv_at hl 0 rfl) ?_
  refine va_get (D := g.1) (ci := 7) (v := .ref a_this_codes) (C := RX7) (T := TX7) (N := 20) hx hb hts w_X7 hown hK.1 hP 0 rfl rfl 14 (by decide) w_f45 (fun _ h9 => h9) rfl dX7_kin_46 ?_
  refine lv_iconst (v := 0) hx hb dX7_kin_49 (by decide) ?_
  refine lv_aload_n hx hb dX7_kin_50 rfl (lv_at hl 0 rfl) ?_
  obtain ⟨q_2, hq_2, hR⟩ := jbind hR
  try dsimp only at hR
  refine jcall_wi (ws' := jw_Mo g a_this a_this_isBlock a_this_isSeen a_this_lampX a_this_lampY a_this_right a_this_up a_this_keptRight a_this_keptUp a_this_name a_this_part a_this_codes a_this_above a_this_below a_this_length a_this_isMet 0 v_isBounce v_lamps v_squares v_intervals v_isBlock v_isSeen v_lampX v_lampY v_right v_up q_1.1 q_1.2 q_2.2 v_part v_codes v_above v_below v_length v_isMet) (va_runV (As := []) (rest := [.int 0, .ref a_this_codes]) ⟨hx, hb, hml, hown, hts⟩ (jc_Mo_codeNow l g a_this a_this_isBlock a_this_isSeen a_this_lampX a_this_lampY a_this_right a_this_up a_this_keptRight a_this_keptUp a_this_name a_this_part a_this_codes a_this_above a_this_below a_this_length a_this_isMet 0 v_isBounce v_lamps v_squares v_intervals v_isBlock v_isSeen v_lampX v_lampY v_right v_up q_1.1 q_1.2 v_name v_part v_codes v_above v_below v_length v_isMet _ hq_2 _) (cwV 0 hts gX7_kin_X7_codeNow rfl rfl rfl (by decide +kernel) ⟨Nat.le_of_ble_eq_true rfl, Nat.le_of_ble_eq_true rfl⟩) (jpw_v hK hP (jD_to hD rfl) (ci := 7) (q0 := 0) rfl rfl) rfl rfl hl.1 rfl (lv_room (Nat.le_of_ble_eq_true rfl)) dX7_kin_51 ⟨Nat.zero_le _, Nat.zero_le _⟩) hP (jD_to hD rfl) hS hA [0, 1, 2, 3, 4, 5, 6, 7, 8, 9, 10, 11, 12, 13, 14, 15] [] [0, 1, 2, 3, 4, 5, 6, 7, 8, 9, 10, 11, 12, 13, 14, 15] rfl (by decide) rfl (fun H locs hP hS => ?_)
  obtain ⟨q_3, hq_3, hR⟩ := jbind hR
  try dsimp only at hR
  refine jcall_wi (ws' := jw_Mo g a_this a_this_isBlock a_this_isSeen a_this_lampX a_this_lampY a_this_right a_this_up a_this_keptRight a_this_keptUp a_this_name a_this_part a_this_codes a_this_above a_this_below a_this_length a_this_isMet 0 v_isBounce v_lamps v_squares v_intervals v_isBlock v_isSeen v_lampX v_lampY v_right v_up q_1.1 q_1.2 q_2.2 v_part q_3.2 v_above v_below v_length v_isMet) (va_runS (As := [.ref a_this_codes, .int 0, .int q_2.1]) (rest := []) ⟨hx, hb, hml, hown, hts⟩ (jc_Mo_withCode l g a_this_codes 200 (Nat.le_of_ble_eq_true rfl) v_codes 0 q_2.1 _ hq_3 _) (va_cwS 3 hts gX7_kin_X7_withCode rfl rfl rfl (by decide +kernel) ⟨Nat.le_of_ble_eq_true rfl, Nat.le_of_ble_eq_true rfl⟩) (jpw_s hK (hP.sub (ws' := jw_arI g a_this_codes 200 v_codes) [11] rfl) ((jD_to (ws' := jw_Mo g a_this a_this_isBlock a_this_isSeen a_this_lampX a_this_lampY a_this_right a_this_up a_this_keptRight a_this_keptUp a_this_name a_this_part a_this_codes a_this_above a_this_below a_this_length a_this_isMet 0 v_isBounce v_lamps v_squares v_intervals v_isBlock v_isSeen v_lampX v_lampY v_right v_up q_1.1 q_1.2 q_2.2 v_part v_codes v_above v_below v_length v_isMet) hD rfl).sub [11] (by decide) rfl)) rfl rfl hl.1 rfl (lv_room (Nat.le_of_ble_eq_true rfl)) dX7_kin_54 ⟨Nat.zero_le _, Nat.zero_le _⟩) hP (jD_to hD rfl) hS hA [11] [0, 1, 2, 3, 4, 5, 6, 7, 8, 9, 10, 12, 13, 14, 15] [0, 1, 2, 3, 4, 5, 6, 7, 8, 9, 10, 15, 11, 12, 13, 14] rfl (by decide) rfl (fun H locs hP hS => ?_)
  refine lv_istore_n (lv' := [(1, .int q_3.1), (0, .ref a_this)]) hx hb dX7_kin_57 rfl hl (by decide) rfl (fun ls hl => ?_)
  refine lv_iconst (v := 0) hx hb dX7_kin_58 (by decide) ?_
  refine lv_istore_n (lv' := [(2, .int 0), (1, .int q_3.1), (0, .ref a_this)]) hx hb dX7_kin_59 rfl hl (by decide) rfl (fun ls hl => ?_)
  obtain ⟨q_12, hq_12, hR⟩ := jbind hR
  try dsimp only at hR
  refine L60 jF 0 q_1.1 q_1.2 q_3.1 0 v_right v_up q_2.2 v_part q_3.2 _ _ hP hS _ (lv_sub hl [2, 1, 0] rfl) _ hq_12 (fun H locs hP hS ls hl => ?_)
  refine lv_iconst (v := 0) hx hb dX7_kin_125 (by decide) ?_
  refine lv_istore_n (lv' := [(2, .int 0), (0, .ref a_this), (1, .int q_12.1)]) hx hb dX7_kin_126 rfl hl (by decide) rfl (fun ls hl => ?_)
  obtain ⟨q_13, hq_13, hR⟩ := jbind hR
  try dsimp only at hR
  refine L127 jF 0 q_1.1 q_1.2 q_12.2.2.2.1 q_12.2.2.2.2.1 q_12.2.2.2.2.2 q_12.1 0 q_12.2.1 q_12.2.2.1 _ _ hP hS _ (lv_sub hl [1, 2, 0] rfl) _ hq_13 (fun H locs hP hS ls hl => ?_)
  refine lv_iload_n hx hb dX7_kin_165 rfl (lv_at hl 0 rfl) ?_
  obtain rfl := (Option.some.inj hR)
  exact fin _ _ _ _ _ rfl hP hS dX7_kin_166
def jf_Mo_square_b28 (v_thrown : Int32) (v_squares : Int32) (v_right : Nat → Int32) (v_up : Nat → Int32) (v_part : Nat → Int32) (z1 : Int32) (z2 : Int32) (s1 : Int32) : Option (Int32 × Int32 × (Nat → Int32)) :=
  if s1 ≤ 0 then (if z2 = 0 then (if jin z1 5 = true then (some (v_right z1.toNatClampNeg, s1, v_part)) else none) else (if z2 = 1 then (if jin z1 5 = true then (some (v_up z1.toNatClampNeg, s1, v_part)) else none) else (if z2 = 2 then (Option.bind (jf_Mo_leftOf v_squares v_right z1) (fun q_1 => some (q_1, s1, v_part))) else (if z2 = 3 then (Option.bind (jf_Mo_downOf v_squares v_up z1) (fun q_2 => some (q_2, s1, v_part))) else (if z2 = 4 then (Option.bind (jf_Mo_angle v_squares v_right v_up z1) (fun q_3 => some (q_3, s1, v_part))) else (if z2 = 5 then (Option.bind (jf_Mo_findsPieces v_squares v_right v_up v_part) (fun q_4 => Option.bind (jf_Mo_sizeOf v_squares q_4 z1) (fun q_5 => some (q_5, s1, q_4)))) else (Option.bind (jf_Mo_rowSize v_right z1) (fun q_6 => some (q_6, s1, v_part))))))))) else (some (0, s1, v_part))
def jf_Mo_square (v_thrown : Int32) (v_squares : Int32) (v_right : Nat → Int32) (v_up : Nat → Int32) (v_part : Nat → Int32) (x1 : Int32) (x2 : Int32) : Option (Int32 × Int32 × (Nat → Int32)) :=
  if (jf_Mo_isSquare v_squares x1) = 0 then (jf_Mo_square_b28 v_thrown v_squares v_right v_up v_part x1 x2 1) else (if (jf_Mo_in x2 0 6) = 0 then (jf_Mo_square_b28 v_thrown v_squares v_right v_up v_part x1 x2 2) else (jf_Mo_square_b28 v_thrown v_squares v_right v_up v_part x1 x2 0))
abbrev jr_Mo_square : Room := { frames := 3, cells := 0, slots := 0, locals := 67 }
set_option maxRecDepth 100000 in
set_option maxHeartbeats 4000000 in
theorem jc_Mo_square (l : Launch) (g : jG) (a_this a_this_isBlock a_this_isSeen a_this_lampX a_this_lampY a_this_right a_this_up a_this_keptRight a_this_keptUp a_this_name a_this_part a_this_codes a_this_above a_this_below a_this_length a_this_isMet : Nat) (v_thrown : Int32) (v_isBounce : Int32) (v_lamps : Int32) (v_squares : Int32) (v_intervals : Int32) (v_isBlock : Nat → Int32) (v_isSeen : Nat → Int32) (v_lampX : Nat → Int32) (v_lampY : Nat → Int32) (v_right : Nat → Int32) (v_up : Nat → Int32) (v_keptRight : Nat → Int32) (v_keptUp : Nat → Int32) (v_name : Nat → Int32) (v_part : Nat → Int32) (v_codes : Nat → Int32) (v_above : Nat → Int32) (v_below : Nat → Int32) (v_length : Nat → Int32) (v_isMet : Nat → Int32) (x1 : Int32) (x2 : Int32) (R : Int32 × Int32 × (Nat → Int32)) (hR : jf_Mo_square v_thrown v_squares v_right v_up v_part x1 x2 = some R) (sz : Nat) : Met l yX7_square wsX7_square jr_Mo_square (jPw g [.ref a_this, .int x1, .int x2] (jw_Mo g a_this a_this_isBlock a_this_isSeen a_this_lampX a_this_lampY a_this_right a_this_up a_this_keptRight a_this_keptUp a_this_name a_this_part a_this_codes a_this_above a_this_below a_this_length a_this_isMet v_thrown v_isBounce v_lamps v_squares v_intervals v_isBlock v_isSeen v_lampX v_lampY v_right v_up v_keptRight v_keptUp v_name v_part v_codes v_above v_below v_length v_isMet) sz) (jQi g R.1 (jw_Mo g a_this a_this_isBlock a_this_isSeen a_this_lampX a_this_lampY a_this_right a_this_up a_this_keptRight a_this_keptUp a_this_name a_this_part a_this_codes a_this_above a_this_below a_this_length a_this_isMet R.2.1 v_isBounce v_lamps v_squares v_intervals v_isBlock v_isSeen v_lampX v_lampY v_right v_up v_keptRight v_keptUp v_name R.2.2 v_codes v_above v_below v_length v_isMet) (va_A (jw_Mo g a_this a_this_isBlock a_this_isSeen a_this_lampX a_this_lampY a_this_right a_this_up a_this_keptRight a_this_keptUp a_this_name a_this_part a_this_codes a_this_above a_this_below a_this_length a_this_isMet v_thrown v_isBounce v_lamps v_squares v_intervals v_isBlock v_isSeen v_lampX v_lampY v_right v_up v_keptRight v_keptUp v_name v_part v_codes v_above v_below v_length v_isMet) sz)) 0 0 (va_A (jw_Mo g a_this a_this_isBlock a_this_isSeen a_this_lampX a_this_lampY a_this_right a_this_up a_this_keptRight a_this_keptUp a_this_name a_this_part a_this_codes a_this_above a_this_below a_this_length a_this_isMet v_thrown v_isBounce v_lamps v_squares v_intervals v_isBlock v_isSeen v_lampX v_lampY v_right v_up v_keptRight v_keptUp v_name v_part v_codes v_above v_below v_length v_isMet) sz) := by
  refine jm_wi (cc := cX7_square) (maxL := 3) (by decide +kernel) rfl (Nat.le_of_ble_eq_true rfl) ?_
  intro p e s m below meth c A Q hx hb hml hown hts hK hP hD hA hS fin ls hl
  have hl : lv_has ls 3 [(0, .ref a_this), (1, .int x1), (2, .int x2)] := hl
  have hown : s.vm.findClass RX7 = some m.cls := hown
  have w_X7 : ∀ w ∈ u_ws RX7 TX7 20, w ∈ wsX7_square := by decide +kernel
  have w_f60 := hts (.fieldLink RX7 60 "BilliardryModel" "thrown" "I") (by decide +kernel)
  have w_f27 := hts (.fieldLink RX7 27 "BilliardryModel" "right" "[I") (by decide +kernel)
  have w_f30 := hts (.fieldLink RX7 30 "BilliardryModel" "up" "[I") (by decide +kernel)
  have J28 : ∀ (v_thrown : Int32) (v_part : Nat → Int32) (z1 : Int32) (z2 : Int32) (s1 : Int32) (H : Heap) (locs : List Loc), va_P g.1 vwCl (jw_Mo g a_this a_this_isBlock a_this_isSeen a_this_lampX a_this_lampY a_this_right a_this_up a_this_keptRight a_this_keptUp a_this_name a_this_part a_this_codes a_this_above a_this_below a_this_length a_this_isMet v_thrown v_isBounce v_lamps v_squares v_intervals v_isBlock v_isSeen v_lampX v_lampY v_right v_up v_keptRight v_keptUp v_name v_part v_codes v_above v_below v_length v_isMet) H → va_S A s.heap H locs → ∀ (ls : Array Slot), lv_has ls 3 [(0, .ref a_this), (1, .int z1), (2, .int z2)] → jf_Mo_square_b28 v_thrown v_squares v_right v_up v_part z1 z2 s1 = some R → W p l e jr_Mo_square s m ([.ref a_this, .int x1, .int x2] : List Value).toArray below meth c H locs 0 0 Q (F0 m 28 ls [.int s1, .ref a_this]) := by
    intro v_thrown v_part z1 z2 s1 H locs hP hS ls hl hR
    rw [jf_Mo_square_b28] at hR
    refine va_put (D := g.1) (ci := 7) (v := .int s1) (ty := .int) (C := RX7) (T := TX7) (N := 20) hx hb hts w_X7 tyX7 tyX7_ok nmX7 hown hK.1 hP (jD_to hD rfl) hS 0 rfl rfl 0 (by decide) w_f60 (fun _ h9 => h9) rfl (by decide +kernel) rfl rfl (Nat.le_of_ble_eq_true rfl) dX7_square_28 (fun H locs hP _ hS => ?_)
    have hP : va_P g.1 vwCl (jw_Mo g a_this a_this_isBlock a_this_isSeen a_this_lampX a_this_lampY a_this_right a_this_up a_this_keptRight a_this_keptUp a_this_name a_this_part a_this_codes a_this_above a_this_below a_this_length a_this_isMet s1 v_isBounce v_lamps v_squares v_intervals v_isBlock v_isSeen v_lampX v_lampY v_right v_up v_keptRight v_keptUp v_name v_part v_codes v_above v_below v_length v_isMet) H := hP
    refine lv_aload_n hx hb dX7_square_31 rfl (lv_at hl 0 rfl) ?_
    refine va_get (D := g.1) (ci := 7) (v := .int s1) (C := RX7) (T := TX7) (N := 20) hx hb hts w_X7 hown hK.1 hP 0 rfl rfl 0 (by decide) w_f60 (fun _ h9 => h9) rfl dX7_square_32 ?_
    refine lv_if_le (tgt := 40) hx hb dX7_square_35 (by decide) (fun c_3 => ?_) (fun c_3 => ?_)
    · replace hR := Eq.trans (Eq.symm (if_pos c_3)) hR
      refine lv_iload_n hx hb dX7_square_40 rfl (lv_at hl 2 rfl) ?_
      by_cases c_4 : z2 = 0
      · replace hR := Eq.trans (Eq.symm (if_pos c_4)) hR
        refine lv_tableIn (off := 39) (tgt := 80) hx hb dX7_square_41 (by rw [c_4]; decide) (by rw [c_4]; decide) (by rw [c_4]; decide) (by decide) ?_
        refine lv_aload_n hx hb dX7_square_80 rfl (lv_at hl 0 rfl) ?_
        refine va_get (D := g.1) (ci := 7) (v := .ref a_this_right) (C := RX7) (T := TX7) (N := 20) hx hb hts w_X7 hown hK.1 hP 0 rfl rfl 8 (by decide) w_f27 (fun _ h9 => h9) rfl dX7_square_81 ?_
        refine lv_iload_n hx hb dX7_square_84 rfl (lv_at hl 1 rfl) ?_
        by_cases c_5 : jin z1 5 = true
        case neg => replace hR := Eq.trans (Eq.symm (if_neg c_5)) hR; cases hR
        replace hR := Eq.trans (Eq.symm (if_pos c_5)) hR
        refine va_iald hx hb hK.1 hP 5 0 rfl rfl (jin_in c_5) dX7_square_85 ?_
        obtain rfl := (Option.some.inj hR)
        exact fin _ _ _ _ _ rfl hP hS dX7_square_86
      replace hR := Eq.trans (Eq.symm (if_neg c_4)) hR
      by_cases c_6 : z2 = 1
      · replace hR := Eq.trans (Eq.symm (if_pos c_6)) hR
        refine lv_tableIn (off := 46) (tgt := 87) hx hb dX7_square_41 (by rw [c_6]; decide) (by rw [c_6]; decide) (by rw [c_6]; decide) (by decide) ?_
        refine lv_aload_n hx hb dX7_square_87 rfl (lv_at hl 0 rfl) ?_
        refine va_get (D := g.1) (ci := 7) (v := .ref a_this_up) (C := RX7) (T := TX7) (N := 20) hx hb hts w_X7 hown hK.1 hP 0 rfl rfl 9 (by decide) w_f30 (fun _ h9 => h9) rfl dX7_square_88 ?_
        refine lv_iload_n hx hb dX7_square_91 rfl (lv_at hl 1 rfl) ?_
        by_cases c_7 : jin z1 5 = true
        case neg => replace hR := Eq.trans (Eq.symm (if_neg c_7)) hR; cases hR
        replace hR := Eq.trans (Eq.symm (if_pos c_7)) hR
        refine va_iald hx hb hK.1 hP 6 0 rfl rfl (jin_in c_7) dX7_square_92 ?_
        obtain rfl := (Option.some.inj hR)
        exact fin _ _ _ _ _ rfl hP hS dX7_square_93
      replace hR := Eq.trans (Eq.symm (if_neg c_6)) hR
      by_cases c_8 : z2 = 2
      · replace hR := Eq.trans (Eq.symm (if_pos c_8)) hR
        refine lv_tableIn (off := 53) (tgt := 94) hx hb dX7_square_41 (by rw [c_8]; decide) (by rw [c_8]; decide) (by rw [c_8]; decide) (by decide) ?_
        refine lv_aload_n hx hb dX7_square_94 rfl (lv_at hl 0 rfl) ?_
        refine lv_iload_n hx hb dX7_square_95 rfl (lv_at hl 1 rfl) ?_
        obtain ⟨q_1, hq_1, hR⟩ := jbind hR
        try dsimp only at hR
        refine jcall_ri (va_runV (As := [.int z1]) (rest := []) ⟨hx, hb, hml, hown, hts⟩ (jc_Mo_leftOf l g a_this a_this_isBlock a_this_isSeen a_this_lampX a_this_lampY a_this_right a_this_up a_this_keptRight a_this_keptUp a_this_name a_this_part a_this_codes a_this_above a_this_below a_this_length a_this_isMet s1 v_isBounce v_lamps v_squares v_intervals v_isBlock v_isSeen v_lampX v_lampY v_right v_up v_keptRight v_keptUp v_name v_part v_codes v_above v_below v_length v_isMet z1 _ hq_1) (cwV 1 hts gX7_square_X7_leftOf rfl rfl rfl (by decide +kernel) ⟨Nat.le_of_ble_eq_true rfl, Nat.le_of_ble_eq_true rfl⟩) (jpr_v hK hP (ci := 7) (q0 := 0) rfl rfl) rfl rfl hl.1 rfl (lv_room (Nat.le_of_ble_eq_true rfl)) dX7_square_96 ⟨Nat.zero_le _, Nat.zero_le _⟩) ?_
        obtain rfl := (Option.some.inj hR)
        exact fin _ _ _ _ _ rfl hP hS dX7_square_99
      replace hR := Eq.trans (Eq.symm (if_neg c_8)) hR
      by_cases c_9 : z2 = 3
      · replace hR := Eq.trans (Eq.symm (if_pos c_9)) hR
        refine lv_tableIn (off := 59) (tgt := 100) hx hb dX7_square_41 (by rw [c_9]; decide) (by rw [c_9]; decide) (by rw [c_9]; decide) (by decide) ?_
        refine lv_aload_n hx hb dX7_square_100 rfl (lv_at hl 0 rfl) ?_
        refine lv_iload_n hx hb dX7_square_101 rfl (lv_at hl 1 rfl) ?_
        obtain ⟨q_2, hq_2, hR⟩ := jbind hR
        try dsimp only at hR
        refine jcall_ri (va_runV (As := [.int z1]) (rest := []) ⟨hx, hb, hml, hown, hts⟩ (jc_Mo_downOf l g a_this a_this_isBlock a_this_isSeen a_this_lampX a_this_lampY a_this_right a_this_up a_this_keptRight a_this_keptUp a_this_name a_this_part a_this_codes a_this_above a_this_below a_this_length a_this_isMet s1 v_isBounce v_lamps v_squares v_intervals v_isBlock v_isSeen v_lampX v_lampY v_right v_up v_keptRight v_keptUp v_name v_part v_codes v_above v_below v_length v_isMet z1 _ hq_2) (cwV 1 hts gX7_square_X7_downOf rfl rfl rfl (by decide +kernel) ⟨Nat.le_of_ble_eq_true rfl, Nat.le_of_ble_eq_true rfl⟩) (jpr_v hK hP (ci := 7) (q0 := 0) rfl rfl) rfl rfl hl.1 rfl (lv_room (Nat.le_of_ble_eq_true rfl)) dX7_square_102 ⟨Nat.zero_le _, Nat.zero_le _⟩) ?_
        obtain rfl := (Option.some.inj hR)
        exact fin _ _ _ _ _ rfl hP hS dX7_square_105
      replace hR := Eq.trans (Eq.symm (if_neg c_9)) hR
      by_cases c_10 : z2 = 4
      · replace hR := Eq.trans (Eq.symm (if_pos c_10)) hR
        refine lv_tableIn (off := 65) (tgt := 106) hx hb dX7_square_41 (by rw [c_10]; decide) (by rw [c_10]; decide) (by rw [c_10]; decide) (by decide) ?_
        refine lv_aload_n hx hb dX7_square_106 rfl (lv_at hl 0 rfl) ?_
        refine lv_iload_n hx hb dX7_square_107 rfl (lv_at hl 1 rfl) ?_
        obtain ⟨q_3, hq_3, hR⟩ := jbind hR
        try dsimp only at hR
        refine jcall_ri (va_runV (As := [.int z1]) (rest := []) ⟨hx, hb, hml, hown, hts⟩ (jc_Mo_angle l g a_this a_this_isBlock a_this_isSeen a_this_lampX a_this_lampY a_this_right a_this_up a_this_keptRight a_this_keptUp a_this_name a_this_part a_this_codes a_this_above a_this_below a_this_length a_this_isMet s1 v_isBounce v_lamps v_squares v_intervals v_isBlock v_isSeen v_lampX v_lampY v_right v_up v_keptRight v_keptUp v_name v_part v_codes v_above v_below v_length v_isMet z1 _ hq_3) (cwV 1 hts gX7_square_X7_angle rfl rfl rfl (by decide +kernel) ⟨Nat.le_of_ble_eq_true rfl, Nat.le_of_ble_eq_true rfl⟩) (jpr_v hK hP (ci := 7) (q0 := 0) rfl rfl) rfl rfl hl.1 rfl (lv_room (Nat.le_of_ble_eq_true rfl)) dX7_square_108 ⟨Nat.zero_le _, Nat.zero_le _⟩) ?_
        obtain rfl := (Option.some.inj hR)
        exact fin _ _ _ _ _ rfl hP hS dX7_square_111
      replace hR := Eq.trans (Eq.symm (if_neg c_10)) hR
      by_cases c_11 : z2 = 5
      · replace hR := Eq.trans (Eq.symm (if_pos c_11)) hR
        refine lv_tableIn (off := 71) (tgt := 112) hx hb dX7_square_41 (by rw [c_11]; decide) (by rw [c_11]; decide) (by rw [c_11]; decide) (by decide) ?_
        refine lv_aload_n hx hb dX7_square_112 rfl (lv_at hl 0 rfl) ?_
        obtain ⟨q_4, hq_4, hR⟩ := jbind hR
        try dsimp only at hR
        refine jcall_wv (ws' := jw_Mo g a_this a_this_isBlock a_this_isSeen a_this_lampX a_this_lampY a_this_right a_this_up a_this_keptRight a_this_keptUp a_this_name a_this_part a_this_codes a_this_above a_this_below a_this_length a_this_isMet s1 v_isBounce v_lamps v_squares v_intervals v_isBlock v_isSeen v_lampX v_lampY v_right v_up v_keptRight v_keptUp v_name q_4 v_codes v_above v_below v_length v_isMet) (va_runV (As := []) (rest := []) ⟨hx, hb, hml, hown, hts⟩ (jc_Mo_findsPieces l g a_this a_this_isBlock a_this_isSeen a_this_lampX a_this_lampY a_this_right a_this_up a_this_keptRight a_this_keptUp a_this_name a_this_part a_this_codes a_this_above a_this_below a_this_length a_this_isMet s1 v_isBounce v_lamps v_squares v_intervals v_isBlock v_isSeen v_lampX v_lampY v_right v_up v_keptRight v_keptUp v_name v_part v_codes v_above v_below v_length v_isMet _ hq_4 _) (cwV 0 hts gX7_square_X7_findsPieces rfl rfl rfl (by decide +kernel) ⟨Nat.le_of_ble_eq_true rfl, Nat.le_of_ble_eq_true rfl⟩) (jpw_v hK hP (jD_to hD rfl) (ci := 7) (q0 := 0) rfl rfl) rfl rfl hl.1 rfl (lv_room (Nat.le_of_ble_eq_true rfl)) dX7_square_113 ⟨Nat.zero_le _, Nat.zero_le _⟩) hP (jD_to hD rfl) hS hA [0, 1, 2, 3, 4, 5, 6, 7, 8, 9, 10, 11, 12, 13, 14, 15] [] [0, 1, 2, 3, 4, 5, 6, 7, 8, 9, 10, 11, 12, 13, 14, 15] rfl (by decide) rfl (fun H locs hP hS => ?_)
        refine lv_aload_n hx hb dX7_square_116 rfl (lv_at hl 0 rfl) ?_
        refine lv_iload_n hx hb dX7_square_117 rfl (lv_at hl 1 rfl) ?_
        obtain ⟨q_5, hq_5, hR⟩ := jbind hR
        try dsimp only at hR
        refine jcall_ri (va_runV (As := [.int z1]) (rest := []) ⟨hx, hb, hml, hown, hts⟩ (jc_Mo_sizeOf l g a_this a_this_isBlock a_this_isSeen a_this_lampX a_this_lampY a_this_right a_this_up a_this_keptRight a_this_keptUp a_this_name a_this_part a_this_codes a_this_above a_this_below a_this_length a_this_isMet s1 v_isBounce v_lamps v_squares v_intervals v_isBlock v_isSeen v_lampX v_lampY v_right v_up v_keptRight v_keptUp v_name q_4 v_codes v_above v_below v_length v_isMet z1 _ hq_5) (cwV 1 hts gX7_square_X7_sizeOf rfl rfl rfl (by decide +kernel) ⟨Nat.le_of_ble_eq_true rfl, Nat.le_of_ble_eq_true rfl⟩) (jpr_v hK hP (ci := 7) (q0 := 0) rfl rfl) rfl rfl hl.1 rfl (lv_room (Nat.le_of_ble_eq_true rfl)) dX7_square_118 ⟨Nat.zero_le _, Nat.zero_le _⟩) ?_
        obtain rfl := (Option.some.inj hR)
        exact fin _ _ _ _ _ rfl hP hS dX7_square_121
      replace hR := Eq.trans (Eq.symm (if_neg c_11)) hR
      refine lv_tableOut (tgt := 122) hx hb dX7_square_41 (by have e0 : (z2).toInt ≠ 0 := fun h => c_4 (Int32.toInt_inj.mp (h.trans (by decide))); have e1 : (z2).toInt ≠ 1 := fun h => c_6 (Int32.toInt_inj.mp (h.trans (by decide))); have e2 : (z2).toInt ≠ 2 := fun h => c_8 (Int32.toInt_inj.mp (h.trans (by decide))); have e3 : (z2).toInt ≠ 3 := fun h => c_9 (Int32.toInt_inj.mp (h.trans (by decide))); have e4 : (z2).toInt ≠ 4 := fun h => c_10 (Int32.toInt_inj.mp (h.trans (by decide))); have e5 : (z2).toInt ≠ 5 := fun h => c_11 (Int32.toInt_inj.mp (h.trans (by decide))); omega) (by decide) ?_
      refine lv_aload_n hx hb dX7_square_122 rfl (lv_at hl 0 rfl) ?_
      refine lv_iload_n hx hb dX7_square_123 rfl (lv_at hl 1 rfl) ?_
      obtain ⟨q_6, hq_6, hR⟩ := jbind hR
      try dsimp only at hR
      refine jcall_ri (va_runV (As := [.int z1]) (rest := []) ⟨hx, hb, hml, hown, hts⟩ (jc_Mo_rowSize l g a_this a_this_isBlock a_this_isSeen a_this_lampX a_this_lampY a_this_right a_this_up a_this_keptRight a_this_keptUp a_this_name a_this_part a_this_codes a_this_above a_this_below a_this_length a_this_isMet s1 v_isBounce v_lamps v_squares v_intervals v_isBlock v_isSeen v_lampX v_lampY v_right v_up v_keptRight v_keptUp v_name v_part v_codes v_above v_below v_length v_isMet z1 _ hq_6) (cwV 1 hts gX7_square_X7_rowSize rfl rfl rfl (by decide +kernel) ⟨Nat.le_of_ble_eq_true rfl, Nat.le_of_ble_eq_true rfl⟩) (jpr_v hK hP (ci := 7) (q0 := 0) rfl rfl) rfl rfl hl.1 rfl (lv_room (Nat.le_of_ble_eq_true rfl)) dX7_square_124 ⟨Nat.zero_le _, Nat.zero_le _⟩) ?_
      obtain rfl := (Option.some.inj hR)
      exact fin _ _ _ _ _ rfl hP hS dX7_square_127
    · replace hR := Eq.trans (Eq.symm (if_neg c_3)) hR
      refine lv_iconst (v := 0) hx hb dX7_square_38 (by decide) ?_
      obtain rfl := (Option.some.inj hR)
      exact fin _ _ _ _ _ rfl hP hS dX7_square_39
  rw [jf_Mo_square] at hR
  refine lv_aload_n hx hb dX7_square_0 rfl (lv_at hl 0 rfl) ?_
  refine lv_aload_n hx hb dX7_square_1 rfl (lv_at hl 0 rfl) ?_
  refine lv_iload_n hx hb dX7_square_2 rfl (lv_at hl 1 rfl) ?_
  refine jcall_ri (va_runV (As := [.int x1]) (rest := [.ref a_this]) ⟨hx, hb, hml, hown, hts⟩ (jc_Mo_isSquare l g a_this a_this_isBlock a_this_isSeen a_this_lampX a_this_lampY a_this_right a_this_up a_this_keptRight a_this_keptUp a_this_name a_this_part a_this_codes a_this_above a_this_below a_this_length a_this_isMet v_thrown v_isBounce v_lamps v_squares v_intervals v_isBlock v_isSeen v_lampX v_lampY v_right v_up v_keptRight v_keptUp v_name v_part v_codes v_above v_below v_length v_isMet x1 _ rfl) (cwV 1 hts gX7_square_X7_isSquare rfl rfl rfl (by decide +kernel) ⟨Nat.le_of_ble_eq_true rfl, Nat.le_of_ble_eq_true rfl⟩) (jpr_v hK hP (ci := 7) (q0 := 0) rfl rfl) rfl rfl hl.1 rfl (lv_room (Nat.le_of_ble_eq_true rfl)) dX7_square_3 ⟨Nat.zero_le _, Nat.zero_le _⟩) ?_
  refine lv_if_ne (tgt := 13) hx hb dX7_square_6 (by decide) (fun c_1 => ?_) (fun c_1 => ?_)
  · replace hR := Eq.trans (Eq.symm (if_neg c_1)) hR
    refine lv_iload_n hx hb dX7_square_13 rfl (lv_at hl 2 rfl) ?_
    refine lv_iconst (v := 0) hx hb dX7_square_14 (by decide) ?_
    refine lv_bipush (v := 6) hx hb dX7_square_15 (by decide) ?_
    refine jcall_ri (va_runS (As := [.int x2, .int 0, .int 6]) (rest := [.ref a_this]) ⟨hx, hb, hml, hown, hts⟩ (jc_Mo_in l g  x2 0 6 _ rfl) (va_cwS 3 hts gX7_square_X7_in rfl rfl rfl (by decide +kernel) ⟨Nat.le_of_ble_eq_true rfl, Nat.le_of_ble_eq_true rfl⟩) (jpr_s hK (hP.sub (ws' := []) [] rfl)) rfl rfl hl.1 rfl (lv_room (Nat.le_of_ble_eq_true rfl)) dX7_square_17 ⟨Nat.zero_le _, Nat.zero_le _⟩) ?_
    refine lv_if_eq (tgt := 27) hx hb dX7_square_20 (by decide) (fun c_2 => ?_) (fun c_2 => ?_)
    · replace hR := Eq.trans (Eq.symm (if_pos c_2)) hR
      refine lv_iconst (v := 2) hx hb dX7_square_27 (by decide) ?_
      exact J28 v_thrown v_part x1 x2 2 _ _ hP hS _ (lv_sub hl [0, 1, 2] rfl) hR
    · replace hR := Eq.trans (Eq.symm (if_neg c_2)) hR
      refine lv_iconst (v := 0) hx hb dX7_square_23 (by decide) ?_
      refine lv_goto (tgt := 28) hx hb dX7_square_24 (by decide) ?_
      exact J28 v_thrown v_part x1 x2 0 _ _ hP hS _ (lv_sub hl [0, 1, 2] rfl) hR
  · replace hR := Eq.trans (Eq.symm (if_pos c_1)) hR
    refine lv_iconst (v := 1) hx hb dX7_square_9 (by decide) ?_
    refine lv_goto (tgt := 28) hx hb dX7_square_10 (by decide) ?_
    exact J28 v_thrown v_part x1 x2 1 _ _ hP hS _ (lv_sub hl [0, 1, 2] rfl) hR
def jf_Mo_count_b15 (v_thrown : Int32) (v_squares : Int32) (v_right : Nat → Int32) (v_up : Nat → Int32) (v_part : Nat → Int32) (z1 : Int32) (s1 : Int32) : Option (Int32 × Int32 × (Nat → Int32)) :=
  if s1 ≤ 0 then (if z1 = 0 then (some (v_squares, s1, v_part)) else (if z1 = 1 then (Option.bind (jf_Mo_cones v_squares v_right v_up v_part) (fun q_1 => some (q_1.1, s1, q_1.2))) else (if z1 = 2 then (Option.bind (jf_Mo_pieces v_squares v_right v_up v_part) (fun q_2 => some (q_2.1, s1, q_2.2))) else (if z1 = 3 then (Option.bind (jf_Mo_findsRows v_squares v_right v_part) (fun q_3 => Option.bind (jf_Mo_manyParts v_squares q_3) (fun q_4 => some (q_4, s1, q_3)))) else (Option.bind (jf_Mo_findsCylinders v_squares v_right v_up v_part) (fun q_5 => Option.bind (jf_Mo_manyParts v_squares q_5) (fun q_6 => some (q_6, s1, q_5)))))))) else (some (0, s1, v_part))
def jf_Mo_count (v_thrown : Int32) (v_squares : Int32) (v_right : Nat → Int32) (v_up : Nat → Int32) (v_part : Nat → Int32) (x1 : Int32) : Option (Int32 × Int32 × (Nat → Int32)) :=
  if (jf_Mo_in x1 0 4) = 0 then (jf_Mo_count_b15 v_thrown v_squares v_right v_up v_part x1 1) else (jf_Mo_count_b15 v_thrown v_squares v_right v_up v_part x1 0)
abbrev jr_Mo_count : Room := { frames := 5, cells := 0, slots := 0, locals := 111 }
set_option maxRecDepth 100000 in
set_option maxHeartbeats 4000000 in
theorem jc_Mo_count (l : Launch) (g : jG) (a_this a_this_isBlock a_this_isSeen a_this_lampX a_this_lampY a_this_right a_this_up a_this_keptRight a_this_keptUp a_this_name a_this_part a_this_codes a_this_above a_this_below a_this_length a_this_isMet : Nat) (v_thrown : Int32) (v_isBounce : Int32) (v_lamps : Int32) (v_squares : Int32) (v_intervals : Int32) (v_isBlock : Nat → Int32) (v_isSeen : Nat → Int32) (v_lampX : Nat → Int32) (v_lampY : Nat → Int32) (v_right : Nat → Int32) (v_up : Nat → Int32) (v_keptRight : Nat → Int32) (v_keptUp : Nat → Int32) (v_name : Nat → Int32) (v_part : Nat → Int32) (v_codes : Nat → Int32) (v_above : Nat → Int32) (v_below : Nat → Int32) (v_length : Nat → Int32) (v_isMet : Nat → Int32) (x1 : Int32) (R : Int32 × Int32 × (Nat → Int32)) (hR : jf_Mo_count v_thrown v_squares v_right v_up v_part x1 = some R) (sz : Nat) : Met l yX7_count wsX7_count jr_Mo_count (jPw g [.ref a_this, .int x1] (jw_Mo g a_this a_this_isBlock a_this_isSeen a_this_lampX a_this_lampY a_this_right a_this_up a_this_keptRight a_this_keptUp a_this_name a_this_part a_this_codes a_this_above a_this_below a_this_length a_this_isMet v_thrown v_isBounce v_lamps v_squares v_intervals v_isBlock v_isSeen v_lampX v_lampY v_right v_up v_keptRight v_keptUp v_name v_part v_codes v_above v_below v_length v_isMet) sz) (jQi g R.1 (jw_Mo g a_this a_this_isBlock a_this_isSeen a_this_lampX a_this_lampY a_this_right a_this_up a_this_keptRight a_this_keptUp a_this_name a_this_part a_this_codes a_this_above a_this_below a_this_length a_this_isMet R.2.1 v_isBounce v_lamps v_squares v_intervals v_isBlock v_isSeen v_lampX v_lampY v_right v_up v_keptRight v_keptUp v_name R.2.2 v_codes v_above v_below v_length v_isMet) (va_A (jw_Mo g a_this a_this_isBlock a_this_isSeen a_this_lampX a_this_lampY a_this_right a_this_up a_this_keptRight a_this_keptUp a_this_name a_this_part a_this_codes a_this_above a_this_below a_this_length a_this_isMet v_thrown v_isBounce v_lamps v_squares v_intervals v_isBlock v_isSeen v_lampX v_lampY v_right v_up v_keptRight v_keptUp v_name v_part v_codes v_above v_below v_length v_isMet) sz)) 0 0 (va_A (jw_Mo g a_this a_this_isBlock a_this_isSeen a_this_lampX a_this_lampY a_this_right a_this_up a_this_keptRight a_this_keptUp a_this_name a_this_part a_this_codes a_this_above a_this_below a_this_length a_this_isMet v_thrown v_isBounce v_lamps v_squares v_intervals v_isBlock v_isSeen v_lampX v_lampY v_right v_up v_keptRight v_keptUp v_name v_part v_codes v_above v_below v_length v_isMet) sz) := by
  refine jm_wi (cc := cX7_count) (maxL := 2) (by decide +kernel) rfl (Nat.le_of_ble_eq_true rfl) ?_
  intro p e s m below meth c A Q hx hb hml hown hts hK hP hD hA hS fin ls hl
  have hl : lv_has ls 2 [(0, .ref a_this), (1, .int x1)] := hl
  have hown : s.vm.findClass RX7 = some m.cls := hown
  have w_X7 : ∀ w ∈ u_ws RX7 TX7 20, w ∈ wsX7_count := by decide +kernel
  have w_f60 := hts (.fieldLink RX7 60 "BilliardryModel" "thrown" "I") (by decide +kernel)
  have w_f23 := hts (.fieldLink RX7 23 "BilliardryModel" "squares" "I") (by decide +kernel)
  have J15 : ∀ (v_thrown : Int32) (v_part : Nat → Int32) (z1 : Int32) (s1 : Int32) (H : Heap) (locs : List Loc), va_P g.1 vwCl (jw_Mo g a_this a_this_isBlock a_this_isSeen a_this_lampX a_this_lampY a_this_right a_this_up a_this_keptRight a_this_keptUp a_this_name a_this_part a_this_codes a_this_above a_this_below a_this_length a_this_isMet v_thrown v_isBounce v_lamps v_squares v_intervals v_isBlock v_isSeen v_lampX v_lampY v_right v_up v_keptRight v_keptUp v_name v_part v_codes v_above v_below v_length v_isMet) H → va_S A s.heap H locs → ∀ (ls : Array Slot), lv_has ls 2 [(0, .ref a_this), (1, .int z1)] → jf_Mo_count_b15 v_thrown v_squares v_right v_up v_part z1 s1 = some R → W p l e jr_Mo_count s m ([.ref a_this, .int x1] : List Value).toArray below meth c H locs 0 0 Q (F0 m 15 ls [.int s1, .ref a_this]) := by
    intro v_thrown v_part z1 s1 H locs hP hS ls hl hR
    rw [jf_Mo_count_b15] at hR
    refine va_put (D := g.1) (ci := 7) (v := .int s1) (ty := .int) (C := RX7) (T := TX7) (N := 20) hx hb hts w_X7 tyX7 tyX7_ok nmX7 hown hK.1 hP (jD_to hD rfl) hS 0 rfl rfl 0 (by decide) w_f60 (fun _ h9 => h9) rfl (by decide +kernel) rfl rfl (Nat.le_of_ble_eq_true rfl) dX7_count_15 (fun H locs hP _ hS => ?_)
    have hP : va_P g.1 vwCl (jw_Mo g a_this a_this_isBlock a_this_isSeen a_this_lampX a_this_lampY a_this_right a_this_up a_this_keptRight a_this_keptUp a_this_name a_this_part a_this_codes a_this_above a_this_below a_this_length a_this_isMet s1 v_isBounce v_lamps v_squares v_intervals v_isBlock v_isSeen v_lampX v_lampY v_right v_up v_keptRight v_keptUp v_name v_part v_codes v_above v_below v_length v_isMet) H := hP
    refine lv_aload_n hx hb dX7_count_18 rfl (lv_at hl 0 rfl) ?_
    refine va_get (D := g.1) (ci := 7) (v := .int s1) (C := RX7) (T := TX7) (N := 20) hx hb hts w_X7 hown hK.1 hP 0 rfl rfl 0 (by decide) w_f60 (fun _ h9 => h9) rfl dX7_count_19 ?_
    refine lv_if_le (tgt := 27) hx hb dX7_count_22 (by decide) (fun c_2 => ?_) (fun c_2 => ?_)
    · replace hR := Eq.trans (Eq.symm (if_pos c_2)) hR
      refine lv_iload_n hx hb dX7_count_27 rfl (lv_at hl 1 rfl) ?_
      by_cases c_3 : z1 = 0
      · replace hR := Eq.trans (Eq.symm (if_pos c_3)) hR
        refine lv_tableIn (off := 32) (tgt := 60) hx hb dX7_count_28 (by rw [c_3]; decide) (by rw [c_3]; decide) (by rw [c_3]; decide) (by decide) ?_
        refine lv_aload_n hx hb dX7_count_60 rfl (lv_at hl 0 rfl) ?_
        refine va_get (D := g.1) (ci := 7) (v := .int v_squares) (C := RX7) (T := TX7) (N := 20) hx hb hts w_X7 hown hK.1 hP 0 rfl rfl 7 (by decide) w_f23 (fun _ h9 => h9) rfl dX7_count_61 ?_
        obtain rfl := (Option.some.inj hR)
        exact fin _ _ _ _ _ rfl hP hS dX7_count_64
      replace hR := Eq.trans (Eq.symm (if_neg c_3)) hR
      by_cases c_4 : z1 = 1
      · replace hR := Eq.trans (Eq.symm (if_pos c_4)) hR
        refine lv_tableIn (off := 37) (tgt := 65) hx hb dX7_count_28 (by rw [c_4]; decide) (by rw [c_4]; decide) (by rw [c_4]; decide) (by decide) ?_
        refine lv_aload_n hx hb dX7_count_65 rfl (lv_at hl 0 rfl) ?_
        obtain ⟨q_1, hq_1, hR⟩ := jbind hR
        try dsimp only at hR
        refine jcall_wi (ws' := jw_Mo g a_this a_this_isBlock a_this_isSeen a_this_lampX a_this_lampY a_this_right a_this_up a_this_keptRight a_this_keptUp a_this_name a_this_part a_this_codes a_this_above a_this_below a_this_length a_this_isMet s1 v_isBounce v_lamps v_squares v_intervals v_isBlock v_isSeen v_lampX v_lampY v_right v_up v_keptRight v_keptUp v_name q_1.2 v_codes v_above v_below v_length v_isMet) (va_runV (As := []) (rest := []) ⟨hx, hb, hml, hown, hts⟩ (jc_Mo_cones l g a_this a_this_isBlock a_this_isSeen a_this_lampX a_this_lampY a_this_right a_this_up a_this_keptRight a_this_keptUp a_this_name a_this_part a_this_codes a_this_above a_this_below a_this_length a_this_isMet s1 v_isBounce v_lamps v_squares v_intervals v_isBlock v_isSeen v_lampX v_lampY v_right v_up v_keptRight v_keptUp v_name v_part v_codes v_above v_below v_length v_isMet _ hq_1 _) (cwV 0 hts gX7_count_X7_cones rfl rfl rfl (by decide +kernel) ⟨Nat.le_of_ble_eq_true rfl, Nat.le_of_ble_eq_true rfl⟩) (jpw_v hK hP (jD_to hD rfl) (ci := 7) (q0 := 0) rfl rfl) rfl rfl hl.1 rfl (lv_room (Nat.le_of_ble_eq_true rfl)) dX7_count_66 ⟨Nat.zero_le _, Nat.zero_le _⟩) hP (jD_to hD rfl) hS hA [0, 1, 2, 3, 4, 5, 6, 7, 8, 9, 10, 11, 12, 13, 14, 15] [] [0, 1, 2, 3, 4, 5, 6, 7, 8, 9, 10, 11, 12, 13, 14, 15] rfl (by decide) rfl (fun H locs hP hS => ?_)
        obtain rfl := (Option.some.inj hR)
        exact fin _ _ _ _ _ rfl hP hS dX7_count_69
      replace hR := Eq.trans (Eq.symm (if_neg c_4)) hR
      by_cases c_5 : z1 = 2
      · replace hR := Eq.trans (Eq.symm (if_pos c_5)) hR
        refine lv_tableIn (off := 42) (tgt := 70) hx hb dX7_count_28 (by rw [c_5]; decide) (by rw [c_5]; decide) (by rw [c_5]; decide) (by decide) ?_
        refine lv_aload_n hx hb dX7_count_70 rfl (lv_at hl 0 rfl) ?_
        obtain ⟨q_2, hq_2, hR⟩ := jbind hR
        try dsimp only at hR
        refine jcall_wi (ws' := jw_Mo g a_this a_this_isBlock a_this_isSeen a_this_lampX a_this_lampY a_this_right a_this_up a_this_keptRight a_this_keptUp a_this_name a_this_part a_this_codes a_this_above a_this_below a_this_length a_this_isMet s1 v_isBounce v_lamps v_squares v_intervals v_isBlock v_isSeen v_lampX v_lampY v_right v_up v_keptRight v_keptUp v_name q_2.2 v_codes v_above v_below v_length v_isMet) (va_runV (As := []) (rest := []) ⟨hx, hb, hml, hown, hts⟩ (jc_Mo_pieces l g a_this a_this_isBlock a_this_isSeen a_this_lampX a_this_lampY a_this_right a_this_up a_this_keptRight a_this_keptUp a_this_name a_this_part a_this_codes a_this_above a_this_below a_this_length a_this_isMet s1 v_isBounce v_lamps v_squares v_intervals v_isBlock v_isSeen v_lampX v_lampY v_right v_up v_keptRight v_keptUp v_name v_part v_codes v_above v_below v_length v_isMet _ hq_2 _) (cwV 0 hts gX7_count_X7_pieces rfl rfl rfl (by decide +kernel) ⟨Nat.le_of_ble_eq_true rfl, Nat.le_of_ble_eq_true rfl⟩) (jpw_v hK hP (jD_to hD rfl) (ci := 7) (q0 := 0) rfl rfl) rfl rfl hl.1 rfl (lv_room (Nat.le_of_ble_eq_true rfl)) dX7_count_71 ⟨Nat.zero_le _, Nat.zero_le _⟩) hP (jD_to hD rfl) hS hA [0, 1, 2, 3, 4, 5, 6, 7, 8, 9, 10, 11, 12, 13, 14, 15] [] [0, 1, 2, 3, 4, 5, 6, 7, 8, 9, 10, 11, 12, 13, 14, 15] rfl (by decide) rfl (fun H locs hP hS => ?_)
        obtain rfl := (Option.some.inj hR)
        exact fin _ _ _ _ _ rfl hP hS dX7_count_74
      replace hR := Eq.trans (Eq.symm (if_neg c_5)) hR
      by_cases c_6 : z1 = 3
      · replace hR := Eq.trans (Eq.symm (if_pos c_6)) hR
        refine lv_tableIn (off := 47) (tgt := 75) hx hb dX7_count_28 (by rw [c_6]; decide) (by rw [c_6]; decide) (by rw [c_6]; decide) (by decide) ?_
        refine lv_aload_n hx hb dX7_count_75 rfl (lv_at hl 0 rfl) ?_
        obtain ⟨q_3, hq_3, hR⟩ := jbind hR
        try dsimp only at hR
        refine jcall_wv (ws' := jw_Mo g a_this a_this_isBlock a_this_isSeen a_this_lampX a_this_lampY a_this_right a_this_up a_this_keptRight a_this_keptUp a_this_name a_this_part a_this_codes a_this_above a_this_below a_this_length a_this_isMet s1 v_isBounce v_lamps v_squares v_intervals v_isBlock v_isSeen v_lampX v_lampY v_right v_up v_keptRight v_keptUp v_name q_3 v_codes v_above v_below v_length v_isMet) (va_runV (As := []) (rest := []) ⟨hx, hb, hml, hown, hts⟩ (jc_Mo_findsRows l g a_this a_this_isBlock a_this_isSeen a_this_lampX a_this_lampY a_this_right a_this_up a_this_keptRight a_this_keptUp a_this_name a_this_part a_this_codes a_this_above a_this_below a_this_length a_this_isMet s1 v_isBounce v_lamps v_squares v_intervals v_isBlock v_isSeen v_lampX v_lampY v_right v_up v_keptRight v_keptUp v_name v_part v_codes v_above v_below v_length v_isMet _ hq_3 _) (cwV 0 hts gX7_count_X7_findsRows rfl rfl rfl (by decide +kernel) ⟨Nat.le_of_ble_eq_true rfl, Nat.le_of_ble_eq_true rfl⟩) (jpw_v hK hP (jD_to hD rfl) (ci := 7) (q0 := 0) rfl rfl) rfl rfl hl.1 rfl (lv_room (Nat.le_of_ble_eq_true rfl)) dX7_count_76 ⟨Nat.zero_le _, Nat.zero_le _⟩) hP (jD_to hD rfl) hS hA [0, 1, 2, 3, 4, 5, 6, 7, 8, 9, 10, 11, 12, 13, 14, 15] [] [0, 1, 2, 3, 4, 5, 6, 7, 8, 9, 10, 11, 12, 13, 14, 15] rfl (by decide) rfl (fun H locs hP hS => ?_)
        refine lv_aload_n hx hb dX7_count_79 rfl (lv_at hl 0 rfl) ?_
        obtain ⟨q_4, hq_4, hR⟩ := jbind hR
        try dsimp only at hR
        refine jcall_ri (va_runV (As := []) (rest := []) ⟨hx, hb, hml, hown, hts⟩ (jc_Mo_manyParts l g a_this a_this_isBlock a_this_isSeen a_this_lampX a_this_lampY a_this_right a_this_up a_this_keptRight a_this_keptUp a_this_name a_this_part a_this_codes a_this_above a_this_below a_this_length a_this_isMet s1 v_isBounce v_lamps v_squares v_intervals v_isBlock v_isSeen v_lampX v_lampY v_right v_up v_keptRight v_keptUp v_name q_3 v_codes v_above v_below v_length v_isMet _ hq_4) (cwV 0 hts gX7_count_X7_manyParts rfl rfl rfl (by decide +kernel) ⟨Nat.le_of_ble_eq_true rfl, Nat.le_of_ble_eq_true rfl⟩) (jpr_v hK hP (ci := 7) (q0 := 0) rfl rfl) rfl rfl hl.1 rfl (lv_room (Nat.le_of_ble_eq_true rfl)) dX7_count_80 ⟨Nat.zero_le _, Nat.zero_le _⟩) ?_
        obtain rfl := (Option.some.inj hR)
        exact fin _ _ _ _ _ rfl hP hS dX7_count_83
      replace hR := Eq.trans (Eq.symm (if_neg c_6)) hR
      refine lv_tableOut (tgt := 84) hx hb dX7_count_28 (by have e0 : (z1).toInt ≠ 0 := fun h => c_3 (Int32.toInt_inj.mp (h.trans (by decide))); have e1 : (z1).toInt ≠ 1 := fun h => c_4 (Int32.toInt_inj.mp (h.trans (by decide))); have e2 : (z1).toInt ≠ 2 := fun h => c_5 (Int32.toInt_inj.mp (h.trans (by decide))); have e3 : (z1).toInt ≠ 3 := fun h => c_6 (Int32.toInt_inj.mp (h.trans (by decide))); omega) (by decide) ?_
      refine lv_aload_n hx hb dX7_count_84 rfl (lv_at hl 0 rfl) ?_
      obtain ⟨q_5, hq_5, hR⟩ := jbind hR
      try dsimp only at hR
      refine jcall_wv (ws' := jw_Mo g a_this a_this_isBlock a_this_isSeen a_this_lampX a_this_lampY a_this_right a_this_up a_this_keptRight a_this_keptUp a_this_name a_this_part a_this_codes a_this_above a_this_below a_this_length a_this_isMet s1 v_isBounce v_lamps v_squares v_intervals v_isBlock v_isSeen v_lampX v_lampY v_right v_up v_keptRight v_keptUp v_name q_5 v_codes v_above v_below v_length v_isMet) (va_runV (As := []) (rest := []) ⟨hx, hb, hml, hown, hts⟩ (jc_Mo_findsCylinders l g a_this a_this_isBlock a_this_isSeen a_this_lampX a_this_lampY a_this_right a_this_up a_this_keptRight a_this_keptUp a_this_name a_this_part a_this_codes a_this_above a_this_below a_this_length a_this_isMet s1 v_isBounce v_lamps v_squares v_intervals v_isBlock v_isSeen v_lampX v_lampY v_right v_up v_keptRight v_keptUp v_name v_part v_codes v_above v_below v_length v_isMet _ hq_5 _) (cwV 0 hts gX7_count_X7_findsCylinders rfl rfl rfl (by decide +kernel) ⟨Nat.le_of_ble_eq_true rfl, Nat.le_of_ble_eq_true rfl⟩) (jpw_v hK hP (jD_to hD rfl) (ci := 7) (q0 := 0) rfl rfl) rfl rfl hl.1 rfl (lv_room (Nat.le_of_ble_eq_true rfl)) dX7_count_85 ⟨Nat.zero_le _, Nat.zero_le _⟩) hP (jD_to hD rfl) hS hA [0, 1, 2, 3, 4, 5, 6, 7, 8, 9, 10, 11, 12, 13, 14, 15] [] [0, 1, 2, 3, 4, 5, 6, 7, 8, 9, 10, 11, 12, 13, 14, 15] rfl (by decide) rfl (fun H locs hP hS => ?_)
      refine lv_aload_n hx hb dX7_count_88 rfl (lv_at hl 0 rfl) ?_
      obtain ⟨q_6, hq_6, hR⟩ := jbind hR
      try dsimp only at hR
      refine jcall_ri (va_runV (As := []) (rest := []) ⟨hx, hb, hml, hown, hts⟩ (jc_Mo_manyParts l g a_this a_this_isBlock a_this_isSeen a_this_lampX a_this_lampY a_this_right a_this_up a_this_keptRight a_this_keptUp a_this_name a_this_part a_this_codes a_this_above a_this_below a_this_length a_this_isMet s1 v_isBounce v_lamps v_squares v_intervals v_isBlock v_isSeen v_lampX v_lampY v_right v_up v_keptRight v_keptUp v_name q_5 v_codes v_above v_below v_length v_isMet _ hq_6) (cwV 0 hts gX7_count_X7_manyParts rfl rfl rfl (by decide +kernel) ⟨Nat.le_of_ble_eq_true rfl, Nat.le_of_ble_eq_true rfl⟩) (jpr_v hK hP (ci := 7) (q0 := 0) rfl rfl) rfl rfl hl.1 rfl (lv_room (Nat.le_of_ble_eq_true rfl)) dX7_count_89 ⟨Nat.zero_le _, Nat.zero_le _⟩) ?_
      obtain rfl := (Option.some.inj hR)
      exact fin _ _ _ _ _ rfl hP hS dX7_count_92
    · replace hR := Eq.trans (Eq.symm (if_neg c_2)) hR
      refine lv_iconst (v := 0) hx hb dX7_count_25 (by decide) ?_
      obtain rfl := (Option.some.inj hR)
      exact fin _ _ _ _ _ rfl hP hS dX7_count_26
  rw [jf_Mo_count] at hR
  refine lv_aload_n hx hb dX7_count_0 rfl (lv_at hl 0 rfl) ?_
  refine lv_iload_n hx hb dX7_count_1 rfl (lv_at hl 1 rfl) ?_
  refine lv_iconst (v := 0) hx hb dX7_count_2 (by decide) ?_
  refine lv_iconst (v := 4) hx hb dX7_count_3 (by decide) ?_
  refine jcall_ri (va_runS (As := [.int x1, .int 0, .int 4]) (rest := [.ref a_this]) ⟨hx, hb, hml, hown, hts⟩ (jc_Mo_in l g  x1 0 4 _ rfl) (va_cwS 3 hts gX7_count_X7_in rfl rfl rfl (by decide +kernel) ⟨Nat.le_of_ble_eq_true rfl, Nat.le_of_ble_eq_true rfl⟩) (jpr_s hK (hP.sub (ws' := []) [] rfl)) rfl rfl hl.1 rfl (lv_room (Nat.le_of_ble_eq_true rfl)) dX7_count_4 ⟨Nat.zero_le _, Nat.zero_le _⟩) ?_
  refine lv_if_eq (tgt := 14) hx hb dX7_count_7 (by decide) (fun c_1 => ?_) (fun c_1 => ?_)
  · replace hR := Eq.trans (Eq.symm (if_pos c_1)) hR
    refine lv_iconst (v := 1) hx hb dX7_count_14 (by decide) ?_
    exact J15 v_thrown v_part x1 1 _ _ hP hS _ (lv_sub hl [0, 1] rfl) hR
  · replace hR := Eq.trans (Eq.symm (if_neg c_1)) hR
    refine lv_iconst (v := 0) hx hb dX7_count_10 (by decide) ?_
    refine lv_goto (tgt := 15) hx hb dX7_count_11 (by decide) ?_
    exact J15 v_thrown v_part x1 0 _ _ hP hS _ (lv_sub hl [0, 1] rfl) hR
def jf_Mo_genus_b14 (v_thrown : Int32) (v_squares : Int32) (v_right : Nat → Int32) (v_up : Nat → Int32) (v_part : Nat → Int32) (s1 : Int32) : Option (Int32 × Int32 × (Nat → Int32)) :=
  if s1 ≤ 0 then (Option.bind (jf_Mo_cones v_squares v_right v_up v_part) (fun q_2 => some (1 + ((v_squares - q_2.1) / 2), s1, q_2.2))) else (some (0, s1, v_part))
def jf_Mo_genus (v_thrown : Int32) (v_squares : Int32) (v_right : Nat → Int32) (v_up : Nat → Int32) (v_part : Nat → Int32) : Option (Int32 × Int32 × (Nat → Int32)) :=
  Option.bind (jf_Mo_pieces v_squares v_right v_up v_part) (fun q_1 => if q_1.1 ≤ 1 then (jf_Mo_genus_b14 v_thrown v_squares v_right v_up q_1.2 0) else (jf_Mo_genus_b14 v_thrown v_squares v_right v_up q_1.2 1))
abbrev jr_Mo_genus : Room := { frames := 3, cells := 0, slots := 0, locals := 66 }
set_option maxRecDepth 100000 in
set_option maxHeartbeats 4000000 in
theorem jc_Mo_genus (l : Launch) (g : jG) (a_this a_this_isBlock a_this_isSeen a_this_lampX a_this_lampY a_this_right a_this_up a_this_keptRight a_this_keptUp a_this_name a_this_part a_this_codes a_this_above a_this_below a_this_length a_this_isMet : Nat) (v_thrown : Int32) (v_isBounce : Int32) (v_lamps : Int32) (v_squares : Int32) (v_intervals : Int32) (v_isBlock : Nat → Int32) (v_isSeen : Nat → Int32) (v_lampX : Nat → Int32) (v_lampY : Nat → Int32) (v_right : Nat → Int32) (v_up : Nat → Int32) (v_keptRight : Nat → Int32) (v_keptUp : Nat → Int32) (v_name : Nat → Int32) (v_part : Nat → Int32) (v_codes : Nat → Int32) (v_above : Nat → Int32) (v_below : Nat → Int32) (v_length : Nat → Int32) (v_isMet : Nat → Int32) (R : Int32 × Int32 × (Nat → Int32)) (hR : jf_Mo_genus v_thrown v_squares v_right v_up v_part = some R) (sz : Nat) : Met l yX7_genus wsX7_genus jr_Mo_genus (jPw g [.ref a_this] (jw_Mo g a_this a_this_isBlock a_this_isSeen a_this_lampX a_this_lampY a_this_right a_this_up a_this_keptRight a_this_keptUp a_this_name a_this_part a_this_codes a_this_above a_this_below a_this_length a_this_isMet v_thrown v_isBounce v_lamps v_squares v_intervals v_isBlock v_isSeen v_lampX v_lampY v_right v_up v_keptRight v_keptUp v_name v_part v_codes v_above v_below v_length v_isMet) sz) (jQi g R.1 (jw_Mo g a_this a_this_isBlock a_this_isSeen a_this_lampX a_this_lampY a_this_right a_this_up a_this_keptRight a_this_keptUp a_this_name a_this_part a_this_codes a_this_above a_this_below a_this_length a_this_isMet R.2.1 v_isBounce v_lamps v_squares v_intervals v_isBlock v_isSeen v_lampX v_lampY v_right v_up v_keptRight v_keptUp v_name R.2.2 v_codes v_above v_below v_length v_isMet) (va_A (jw_Mo g a_this a_this_isBlock a_this_isSeen a_this_lampX a_this_lampY a_this_right a_this_up a_this_keptRight a_this_keptUp a_this_name a_this_part a_this_codes a_this_above a_this_below a_this_length a_this_isMet v_thrown v_isBounce v_lamps v_squares v_intervals v_isBlock v_isSeen v_lampX v_lampY v_right v_up v_keptRight v_keptUp v_name v_part v_codes v_above v_below v_length v_isMet) sz)) 0 0 (va_A (jw_Mo g a_this a_this_isBlock a_this_isSeen a_this_lampX a_this_lampY a_this_right a_this_up a_this_keptRight a_this_keptUp a_this_name a_this_part a_this_codes a_this_above a_this_below a_this_length a_this_isMet v_thrown v_isBounce v_lamps v_squares v_intervals v_isBlock v_isSeen v_lampX v_lampY v_right v_up v_keptRight v_keptUp v_name v_part v_codes v_above v_below v_length v_isMet) sz) := by
  refine jm_wi (cc := cX7_genus) (maxL := 1) (by decide +kernel) rfl (Nat.le_of_ble_eq_true rfl) ?_
  intro p e s m below meth c A Q hx hb hml hown hts hK hP hD hA hS fin ls hl
  have hl : lv_has ls 1 [(0, .ref a_this)] := hl
  have hown : s.vm.findClass RX7 = some m.cls := hown
  have w_X7 : ∀ w ∈ u_ws RX7 TX7 20, w ∈ wsX7_genus := by decide +kernel
  have w_f60 := hts (.fieldLink RX7 60 "BilliardryModel" "thrown" "I") (by decide +kernel)
  have w_f23 := hts (.fieldLink RX7 23 "BilliardryModel" "squares" "I") (by decide +kernel)
  have J14 : ∀ (v_thrown : Int32) (v_part : Nat → Int32) (s1 : Int32) (H : Heap) (locs : List Loc), va_P g.1 vwCl (jw_Mo g a_this a_this_isBlock a_this_isSeen a_this_lampX a_this_lampY a_this_right a_this_up a_this_keptRight a_this_keptUp a_this_name a_this_part a_this_codes a_this_above a_this_below a_this_length a_this_isMet v_thrown v_isBounce v_lamps v_squares v_intervals v_isBlock v_isSeen v_lampX v_lampY v_right v_up v_keptRight v_keptUp v_name v_part v_codes v_above v_below v_length v_isMet) H → va_S A s.heap H locs → ∀ (ls : Array Slot), lv_has ls 1 [(0, .ref a_this)] → jf_Mo_genus_b14 v_thrown v_squares v_right v_up v_part s1 = some R → W p l e jr_Mo_genus s m ([.ref a_this] : List Value).toArray below meth c H locs 0 0 Q (F0 m 14 ls [.int s1, .ref a_this]) := by
    intro v_thrown v_part s1 H locs hP hS ls hl hR
    rw [jf_Mo_genus_b14] at hR
    refine va_put (D := g.1) (ci := 7) (v := .int s1) (ty := .int) (C := RX7) (T := TX7) (N := 20) hx hb hts w_X7 tyX7 tyX7_ok nmX7 hown hK.1 hP (jD_to hD rfl) hS 0 rfl rfl 0 (by decide) w_f60 (fun _ h9 => h9) rfl (by decide +kernel) rfl rfl (Nat.le_of_ble_eq_true rfl) dX7_genus_14 (fun H locs hP _ hS => ?_)
    have hP : va_P g.1 vwCl (jw_Mo g a_this a_this_isBlock a_this_isSeen a_this_lampX a_this_lampY a_this_right a_this_up a_this_keptRight a_this_keptUp a_this_name a_this_part a_this_codes a_this_above a_this_below a_this_length a_this_isMet s1 v_isBounce v_lamps v_squares v_intervals v_isBlock v_isSeen v_lampX v_lampY v_right v_up v_keptRight v_keptUp v_name v_part v_codes v_above v_below v_length v_isMet) H := hP
    refine lv_aload_n hx hb dX7_genus_17 rfl (lv_at hl 0 rfl) ?_
    refine va_get (D := g.1) (ci := 7) (v := .int s1) (C := RX7) (T := TX7) (N := 20) hx hb hts w_X7 hown hK.1 hP 0 rfl rfl 0 (by decide) w_f60 (fun _ h9 => h9) rfl dX7_genus_18 ?_
    refine lv_if_le (tgt := 28) hx hb dX7_genus_21 (by decide) (fun c_2 => ?_) (fun c_2 => ?_)
    · replace hR := Eq.trans (Eq.symm (if_pos c_2)) hR
      refine lv_iconst (v := 1) hx hb dX7_genus_28 (by decide) ?_
      refine lv_aload_n hx hb dX7_genus_29 rfl (lv_at hl 0 rfl) ?_
      refine va_get (D := g.1) (ci := 7) (v := .int v_squares) (C := RX7) (T := TX7) (N := 20) hx hb hts w_X7 hown hK.1 hP 0 rfl rfl 7 (by decide) w_f23 (fun _ h9 => h9) rfl dX7_genus_30 ?_
      refine lv_aload_n hx hb dX7_genus_33 rfl (lv_at hl 0 rfl) ?_
      obtain ⟨q_2, hq_2, hR⟩ := jbind hR
      try dsimp only at hR
      refine jcall_wi (ws' := jw_Mo g a_this a_this_isBlock a_this_isSeen a_this_lampX a_this_lampY a_this_right a_this_up a_this_keptRight a_this_keptUp a_this_name a_this_part a_this_codes a_this_above a_this_below a_this_length a_this_isMet s1 v_isBounce v_lamps v_squares v_intervals v_isBlock v_isSeen v_lampX v_lampY v_right v_up v_keptRight v_keptUp v_name q_2.2 v_codes v_above v_below v_length v_isMet) (va_runV (As := []) (rest := [.int v_squares, .int 1]) ⟨hx, hb, hml, hown, hts⟩ (jc_Mo_cones l g a_this a_this_isBlock a_this_isSeen a_this_lampX a_this_lampY a_this_right a_this_up a_this_keptRight a_this_keptUp a_this_name a_this_part a_this_codes a_this_above a_this_below a_this_length a_this_isMet s1 v_isBounce v_lamps v_squares v_intervals v_isBlock v_isSeen v_lampX v_lampY v_right v_up v_keptRight v_keptUp v_name v_part v_codes v_above v_below v_length v_isMet _ hq_2 _) (cwV 0 hts gX7_genus_X7_cones rfl rfl rfl (by decide +kernel) ⟨Nat.le_of_ble_eq_true rfl, Nat.le_of_ble_eq_true rfl⟩) (jpw_v hK hP (jD_to hD rfl) (ci := 7) (q0 := 0) rfl rfl) rfl rfl hl.1 rfl (lv_room (Nat.le_of_ble_eq_true rfl)) dX7_genus_34 ⟨Nat.zero_le _, Nat.zero_le _⟩) hP (jD_to hD rfl) hS hA [0, 1, 2, 3, 4, 5, 6, 7, 8, 9, 10, 11, 12, 13, 14, 15] [] [0, 1, 2, 3, 4, 5, 6, 7, 8, 9, 10, 11, 12, 13, 14, 15] rfl (by decide) rfl (fun H locs hP hS => ?_)
      refine lv_isub hx hb dX7_genus_37 ?_
      refine lv_iconst (v := 2) hx hb dX7_genus_38 (by decide) ?_
      refine lv_idiv hx hb dX7_genus_39 (by decide) ?_
      refine lv_iadd hx hb dX7_genus_40 ?_
      obtain rfl := (Option.some.inj hR)
      exact fin _ _ _ _ _ rfl hP hS dX7_genus_41
    · replace hR := Eq.trans (Eq.symm (if_neg c_2)) hR
      refine lv_iconst (v := 0) hx hb dX7_genus_24 (by decide) ?_
      refine lv_goto (tgt := 41) hx hb dX7_genus_25 (by decide) ?_
      obtain rfl := (Option.some.inj hR)
      exact fin _ _ _ _ _ rfl hP hS dX7_genus_41
  rw [jf_Mo_genus] at hR
  refine lv_aload_n hx hb dX7_genus_0 rfl (lv_at hl 0 rfl) ?_
  refine lv_aload_n hx hb dX7_genus_1 rfl (lv_at hl 0 rfl) ?_
  obtain ⟨q_1, hq_1, hR⟩ := jbind hR
  try dsimp only at hR
  refine jcall_wi (ws' := jw_Mo g a_this a_this_isBlock a_this_isSeen a_this_lampX a_this_lampY a_this_right a_this_up a_this_keptRight a_this_keptUp a_this_name a_this_part a_this_codes a_this_above a_this_below a_this_length a_this_isMet v_thrown v_isBounce v_lamps v_squares v_intervals v_isBlock v_isSeen v_lampX v_lampY v_right v_up v_keptRight v_keptUp v_name q_1.2 v_codes v_above v_below v_length v_isMet) (va_runV (As := []) (rest := [.ref a_this]) ⟨hx, hb, hml, hown, hts⟩ (jc_Mo_pieces l g a_this a_this_isBlock a_this_isSeen a_this_lampX a_this_lampY a_this_right a_this_up a_this_keptRight a_this_keptUp a_this_name a_this_part a_this_codes a_this_above a_this_below a_this_length a_this_isMet v_thrown v_isBounce v_lamps v_squares v_intervals v_isBlock v_isSeen v_lampX v_lampY v_right v_up v_keptRight v_keptUp v_name v_part v_codes v_above v_below v_length v_isMet _ hq_1 _) (cwV 0 hts gX7_genus_X7_pieces rfl rfl rfl (by decide +kernel) ⟨Nat.le_of_ble_eq_true rfl, Nat.le_of_ble_eq_true rfl⟩) (jpw_v hK hP (jD_to hD rfl) (ci := 7) (q0 := 0) rfl rfl) rfl rfl hl.1 rfl (lv_room (Nat.le_of_ble_eq_true rfl)) dX7_genus_2 ⟨Nat.zero_le _, Nat.zero_le _⟩) hP (jD_to hD rfl) hS hA [0, 1, 2, 3, 4, 5, 6, 7, 8, 9, 10, 11, 12, 13, 14, 15] [] [0, 1, 2, 3, 4, 5, 6, 7, 8, 9, 10, 11, 12, 13, 14, 15] rfl (by decide) rfl (fun H locs hP hS => ?_)
  refine lv_iconst (v := 1) hx hb dX7_genus_5 (by decide) ?_
  refine lv_icmp_le (tgt := 13) hx hb dX7_genus_6 (by decide) (fun c_1 => ?_) (fun c_1 => ?_)
  · replace hR := Eq.trans (Eq.symm (if_pos c_1)) hR
    refine lv_iconst (v := 0) hx hb dX7_genus_13 (by decide) ?_
    exact J14 v_thrown q_1.2 0 _ _ hP hS _ (lv_sub hl [0] rfl) hR
  · replace hR := Eq.trans (Eq.symm (if_neg c_1)) hR
    refine lv_iconst (v := 1) hx hb dX7_genus_9 (by decide) ?_
    refine lv_goto (tgt := 14) hx hb dX7_genus_10 (by decide) ?_
    exact J14 v_thrown q_1.2 1 _ _ hP hS _ (lv_sub hl [0] rfl) hR
def jf_Mo_interval_b29 (v_thrown : Int32) (v_intervals : Int32) (v_above : Nat → Int32) (v_below : Nat → Int32) (v_length : Nat → Int32) (z1 : Int32) (s1 : Int32) : Option (Int32 × Int32 × Int32 × (Nat → Int32) × (Nat → Int32) × (Nat → Int32)) :=
  if s1 ≤ 0 then (if jin v_intervals 6 = true then (if jin v_intervals 6 = true then (if jin v_intervals 6 = true then (some ((v_intervals + 1) - 1, s1, v_intervals + 1, upd v_above v_intervals.toNatClampNeg v_intervals, upd v_below v_intervals.toNatClampNeg v_intervals, upd v_length v_intervals.toNatClampNeg z1)) else none) else none) else none) else (some (0, s1, v_intervals, v_above, v_below, v_length))
def jf_Mo_interval (v_thrown : Int32) (v_intervals : Int32) (v_above : Nat → Int32) (v_below : Nat → Int32) (v_length : Nat → Int32) (x1 : Int32) : Option (Int32 × Int32 × Int32 × (Nat → Int32) × (Nat → Int32) × (Nat → Int32)) :=
  if (jf_Mo_in x1 1 50) = 0 then (jf_Mo_interval_b29 v_thrown v_intervals v_above v_below v_length x1 1) else (if v_intervals = 6 then (jf_Mo_interval_b29 v_thrown v_intervals v_above v_below v_length x1 2) else (jf_Mo_interval_b29 v_thrown v_intervals v_above v_below v_length x1 0))
abbrev jr_Mo_interval : Room := { frames := 1, cells := 0, slots := 0, locals := 22 }
set_option maxRecDepth 100000 in
set_option maxHeartbeats 4000000 in
theorem jc_Mo_interval (l : Launch) (g : jG) (a_this a_this_isBlock a_this_isSeen a_this_lampX a_this_lampY a_this_right a_this_up a_this_keptRight a_this_keptUp a_this_name a_this_part a_this_codes a_this_above a_this_below a_this_length a_this_isMet : Nat) (v_thrown : Int32) (v_isBounce : Int32) (v_lamps : Int32) (v_squares : Int32) (v_intervals : Int32) (v_isBlock : Nat → Int32) (v_isSeen : Nat → Int32) (v_lampX : Nat → Int32) (v_lampY : Nat → Int32) (v_right : Nat → Int32) (v_up : Nat → Int32) (v_keptRight : Nat → Int32) (v_keptUp : Nat → Int32) (v_name : Nat → Int32) (v_part : Nat → Int32) (v_codes : Nat → Int32) (v_above : Nat → Int32) (v_below : Nat → Int32) (v_length : Nat → Int32) (v_isMet : Nat → Int32) (x1 : Int32) (R : Int32 × Int32 × Int32 × (Nat → Int32) × (Nat → Int32) × (Nat → Int32)) (hR : jf_Mo_interval v_thrown v_intervals v_above v_below v_length x1 = some R) (sz : Nat) : Met l yX7_interval wsX7_interval jr_Mo_interval (jPw g [.ref a_this, .int x1] (jw_Mo g a_this a_this_isBlock a_this_isSeen a_this_lampX a_this_lampY a_this_right a_this_up a_this_keptRight a_this_keptUp a_this_name a_this_part a_this_codes a_this_above a_this_below a_this_length a_this_isMet v_thrown v_isBounce v_lamps v_squares v_intervals v_isBlock v_isSeen v_lampX v_lampY v_right v_up v_keptRight v_keptUp v_name v_part v_codes v_above v_below v_length v_isMet) sz) (jQi g R.1 (jw_Mo g a_this a_this_isBlock a_this_isSeen a_this_lampX a_this_lampY a_this_right a_this_up a_this_keptRight a_this_keptUp a_this_name a_this_part a_this_codes a_this_above a_this_below a_this_length a_this_isMet R.2.1 v_isBounce v_lamps v_squares R.2.2.1 v_isBlock v_isSeen v_lampX v_lampY v_right v_up v_keptRight v_keptUp v_name v_part v_codes R.2.2.2.1 R.2.2.2.2.1 R.2.2.2.2.2 v_isMet) (va_A (jw_Mo g a_this a_this_isBlock a_this_isSeen a_this_lampX a_this_lampY a_this_right a_this_up a_this_keptRight a_this_keptUp a_this_name a_this_part a_this_codes a_this_above a_this_below a_this_length a_this_isMet v_thrown v_isBounce v_lamps v_squares v_intervals v_isBlock v_isSeen v_lampX v_lampY v_right v_up v_keptRight v_keptUp v_name v_part v_codes v_above v_below v_length v_isMet) sz)) 0 0 (va_A (jw_Mo g a_this a_this_isBlock a_this_isSeen a_this_lampX a_this_lampY a_this_right a_this_up a_this_keptRight a_this_keptUp a_this_name a_this_part a_this_codes a_this_above a_this_below a_this_length a_this_isMet v_thrown v_isBounce v_lamps v_squares v_intervals v_isBlock v_isSeen v_lampX v_lampY v_right v_up v_keptRight v_keptUp v_name v_part v_codes v_above v_below v_length v_isMet) sz) := by
  refine jm_wi (cc := cX7_interval) (maxL := 2) (by decide +kernel) rfl (Nat.le_of_ble_eq_true rfl) ?_
  intro p e s m below meth c A Q hx hb hml hown hts hK hP hD hA hS fin ls hl
  have hl : lv_has ls 2 [(0, .ref a_this), (1, .int x1)] := hl
  have hown : s.vm.findClass RX7 = some m.cls := hown
  have w_X7 : ∀ w ∈ u_ws RX7 TX7 20, w ∈ wsX7_interval := by decide +kernel
  have w_f214 := hts (.fieldLink RX7 214 "BilliardryModel" "intervals" "I") (by decide +kernel)
  have w_f60 := hts (.fieldLink RX7 60 "BilliardryModel" "thrown" "I") (by decide +kernel)
  have w_f54 := hts (.fieldLink RX7 54 "BilliardryModel" "length" "[I") (by decide +kernel)
  have w_f48 := hts (.fieldLink RX7 48 "BilliardryModel" "above" "[I") (by decide +kernel)
  have w_f51 := hts (.fieldLink RX7 51 "BilliardryModel" "below" "[I") (by decide +kernel)
  have J29 : ∀ (v_thrown : Int32) (v_intervals : Int32) (v_above : Nat → Int32) (v_below : Nat → Int32) (v_length : Nat → Int32) (z1 : Int32) (s1 : Int32) (H : Heap) (locs : List Loc), va_P g.1 vwCl (jw_Mo g a_this a_this_isBlock a_this_isSeen a_this_lampX a_this_lampY a_this_right a_this_up a_this_keptRight a_this_keptUp a_this_name a_this_part a_this_codes a_this_above a_this_below a_this_length a_this_isMet v_thrown v_isBounce v_lamps v_squares v_intervals v_isBlock v_isSeen v_lampX v_lampY v_right v_up v_keptRight v_keptUp v_name v_part v_codes v_above v_below v_length v_isMet) H → va_S A s.heap H locs → ∀ (ls : Array Slot), lv_has ls 2 [(0, .ref a_this), (1, .int z1)] → jf_Mo_interval_b29 v_thrown v_intervals v_above v_below v_length z1 s1 = some R → W p l e jr_Mo_interval s m ([.ref a_this, .int x1] : List Value).toArray below meth c H locs 0 0 Q (F0 m 29 ls [.int s1, .ref a_this]) := by
    intro v_thrown v_intervals v_above v_below v_length z1 s1 H locs hP hS ls hl hR
    rw [jf_Mo_interval_b29] at hR
    refine va_put (D := g.1) (ci := 7) (v := .int s1) (ty := .int) (C := RX7) (T := TX7) (N := 20) hx hb hts w_X7 tyX7 tyX7_ok nmX7 hown hK.1 hP (jD_to hD rfl) hS 0 rfl rfl 0 (by decide) w_f60 (fun _ h9 => h9) rfl (by decide +kernel) rfl rfl (Nat.le_of_ble_eq_true rfl) dX7_interval_29 (fun H locs hP _ hS => ?_)
    have hP : va_P g.1 vwCl (jw_Mo g a_this a_this_isBlock a_this_isSeen a_this_lampX a_this_lampY a_this_right a_this_up a_this_keptRight a_this_keptUp a_this_name a_this_part a_this_codes a_this_above a_this_below a_this_length a_this_isMet s1 v_isBounce v_lamps v_squares v_intervals v_isBlock v_isSeen v_lampX v_lampY v_right v_up v_keptRight v_keptUp v_name v_part v_codes v_above v_below v_length v_isMet) H := hP
    refine lv_aload_n hx hb dX7_interval_32 rfl (lv_at hl 0 rfl) ?_
    refine va_get (D := g.1) (ci := 7) (v := .int s1) (C := RX7) (T := TX7) (N := 20) hx hb hts w_X7 hown hK.1 hP 0 rfl rfl 0 (by decide) w_f60 (fun _ h9 => h9) rfl dX7_interval_33 ?_
    refine lv_if_le (tgt := 41) hx hb dX7_interval_36 (by decide) (fun c_3 => ?_) (fun c_3 => ?_)
    · replace hR := Eq.trans (Eq.symm (if_pos c_3)) hR
      refine lv_aload_n hx hb dX7_interval_41 rfl (lv_at hl 0 rfl) ?_
      refine va_get (D := g.1) (ci := 7) (v := .ref a_this_length) (C := RX7) (T := TX7) (N := 20) hx hb hts w_X7 hown hK.1 hP 0 rfl rfl 18 (by decide) w_f54 (fun _ h9 => h9) rfl dX7_interval_42 ?_
      refine lv_aload_n hx hb dX7_interval_45 rfl (lv_at hl 0 rfl) ?_
      refine va_get (D := g.1) (ci := 7) (v := .int v_intervals) (C := RX7) (T := TX7) (N := 20) hx hb hts w_X7 hown hK.1 hP 0 rfl rfl 15 (by decide) w_f214 (fun _ h9 => h9) rfl dX7_interval_46 ?_
      refine lv_iload_n hx hb dX7_interval_49 rfl (lv_at hl 1 rfl) ?_
      by_cases c_4 : jin v_intervals 6 = true
      case neg => replace hR := Eq.trans (Eq.symm (if_neg c_4)) hR; cases hR
      replace hR := Eq.trans (Eq.symm (if_pos c_4)) hR
      refine va_iast hx hb hK.1 hP (jD_to hD rfl) hS 14 0 rfl rfl (jin_in c_4) dX7_interval_50 (fun H locs hP _ hS => ?_)
      have hP : va_P g.1 vwCl (jw_Mo g a_this a_this_isBlock a_this_isSeen a_this_lampX a_this_lampY a_this_right a_this_up a_this_keptRight a_this_keptUp a_this_name a_this_part a_this_codes a_this_above a_this_below a_this_length a_this_isMet s1 v_isBounce v_lamps v_squares v_intervals v_isBlock v_isSeen v_lampX v_lampY v_right v_up v_keptRight v_keptUp v_name v_part v_codes v_above v_below (upd v_length v_intervals.toNatClampNeg z1) v_isMet) H := hP
      refine lv_aload_n hx hb dX7_interval_51 rfl (lv_at hl 0 rfl) ?_
      refine va_get (D := g.1) (ci := 7) (v := .ref a_this_above) (C := RX7) (T := TX7) (N := 20) hx hb hts w_X7 hown hK.1 hP 0 rfl rfl 16 (by decide) w_f48 (fun _ h9 => h9) rfl dX7_interval_52 ?_
      refine lv_aload_n hx hb dX7_interval_55 rfl (lv_at hl 0 rfl) ?_
      refine va_get (D := g.1) (ci := 7) (v := .int v_intervals) (C := RX7) (T := TX7) (N := 20) hx hb hts w_X7 hown hK.1 hP 0 rfl rfl 15 (by decide) w_f214 (fun _ h9 => h9) rfl dX7_interval_56 ?_
      refine lv_aload_n hx hb dX7_interval_59 rfl (lv_at hl 0 rfl) ?_
      refine va_get (D := g.1) (ci := 7) (v := .int v_intervals) (C := RX7) (T := TX7) (N := 20) hx hb hts w_X7 hown hK.1 hP 0 rfl rfl 15 (by decide) w_f214 (fun _ h9 => h9) rfl dX7_interval_60 ?_
      by_cases c_5 : jin v_intervals 6 = true
      case neg => replace hR := Eq.trans (Eq.symm (if_neg c_5)) hR; cases hR
      replace hR := Eq.trans (Eq.symm (if_pos c_5)) hR
      refine va_iast hx hb hK.1 hP (jD_to hD rfl) hS 12 0 rfl rfl (jin_in c_5) dX7_interval_63 (fun H locs hP _ hS => ?_)
      have hP : va_P g.1 vwCl (jw_Mo g a_this a_this_isBlock a_this_isSeen a_this_lampX a_this_lampY a_this_right a_this_up a_this_keptRight a_this_keptUp a_this_name a_this_part a_this_codes a_this_above a_this_below a_this_length a_this_isMet s1 v_isBounce v_lamps v_squares v_intervals v_isBlock v_isSeen v_lampX v_lampY v_right v_up v_keptRight v_keptUp v_name v_part v_codes (upd v_above v_intervals.toNatClampNeg v_intervals) v_below (upd v_length v_intervals.toNatClampNeg z1) v_isMet) H := hP
      refine lv_aload_n hx hb dX7_interval_64 rfl (lv_at hl 0 rfl) ?_
      refine va_get (D := g.1) (ci := 7) (v := .ref a_this_below) (C := RX7) (T := TX7) (N := 20) hx hb hts w_X7 hown hK.1 hP 0 rfl rfl 17 (by decide) w_f51 (fun _ h9 => h9) rfl dX7_interval_65 ?_
      refine lv_aload_n hx hb dX7_interval_68 rfl (lv_at hl 0 rfl) ?_
      refine va_get (D := g.1) (ci := 7) (v := .int v_intervals) (C := RX7) (T := TX7) (N := 20) hx hb hts w_X7 hown hK.1 hP 0 rfl rfl 15 (by decide) w_f214 (fun _ h9 => h9) rfl dX7_interval_69 ?_
      refine lv_aload_n hx hb dX7_interval_72 rfl (lv_at hl 0 rfl) ?_
      refine va_get (D := g.1) (ci := 7) (v := .int v_intervals) (C := RX7) (T := TX7) (N := 20) hx hb hts w_X7 hown hK.1 hP 0 rfl rfl 15 (by decide) w_f214 (fun _ h9 => h9) rfl dX7_interval_73 ?_
      by_cases c_6 : jin v_intervals 6 = true
      case neg => replace hR := Eq.trans (Eq.symm (if_neg c_6)) hR; cases hR
      replace hR := Eq.trans (Eq.symm (if_pos c_6)) hR
      refine va_iast hx hb hK.1 hP (jD_to hD rfl) hS 13 0 rfl rfl (jin_in c_6) dX7_interval_76 (fun H locs hP _ hS => ?_)
      have hP : va_P g.1 vwCl (jw_Mo g a_this a_this_isBlock a_this_isSeen a_this_lampX a_this_lampY a_this_right a_this_up a_this_keptRight a_this_keptUp a_this_name a_this_part a_this_codes a_this_above a_this_below a_this_length a_this_isMet s1 v_isBounce v_lamps v_squares v_intervals v_isBlock v_isSeen v_lampX v_lampY v_right v_up v_keptRight v_keptUp v_name v_part v_codes (upd v_above v_intervals.toNatClampNeg v_intervals) (upd v_below v_intervals.toNatClampNeg v_intervals) (upd v_length v_intervals.toNatClampNeg z1) v_isMet) H := hP
      refine lv_aload_n hx hb dX7_interval_77 rfl (lv_at hl 0 rfl) ?_
      refine lv_dup hx hb dX7_interval_78 rfl ?_
      refine va_get (D := g.1) (ci := 7) (v := .int v_intervals) (C := RX7) (T := TX7) (N := 20) hx hb hts w_X7 hown hK.1 hP 0 rfl rfl 15 (by decide) w_f214 (fun _ h9 => h9) rfl dX7_interval_79 ?_
      refine lv_iconst (v := 1) hx hb dX7_interval_82 (by decide) ?_
      refine lv_iadd hx hb dX7_interval_83 ?_
      refine va_put (D := g.1) (ci := 7) (v := .int (v_intervals + 1)) (ty := .int) (C := RX7) (T := TX7) (N := 20) hx hb hts w_X7 tyX7 tyX7_ok nmX7 hown hK.1 hP (jD_to hD rfl) hS 0 rfl rfl 15 (by decide) w_f214 (fun _ h9 => h9) rfl (by decide +kernel) rfl rfl (Nat.le_of_ble_eq_true rfl) dX7_interval_84 (fun H locs hP _ hS => ?_)
      have hP : va_P g.1 vwCl (jw_Mo g a_this a_this_isBlock a_this_isSeen a_this_lampX a_this_lampY a_this_right a_this_up a_this_keptRight a_this_keptUp a_this_name a_this_part a_this_codes a_this_above a_this_below a_this_length a_this_isMet s1 v_isBounce v_lamps v_squares (v_intervals + 1) v_isBlock v_isSeen v_lampX v_lampY v_right v_up v_keptRight v_keptUp v_name v_part v_codes (upd v_above v_intervals.toNatClampNeg v_intervals) (upd v_below v_intervals.toNatClampNeg v_intervals) (upd v_length v_intervals.toNatClampNeg z1) v_isMet) H := hP
      refine lv_aload_n hx hb dX7_interval_87 rfl (lv_at hl 0 rfl) ?_
      refine va_get (D := g.1) (ci := 7) (v := .int (v_intervals + 1)) (C := RX7) (T := TX7) (N := 20) hx hb hts w_X7 hown hK.1 hP 0 rfl rfl 15 (by decide) w_f214 (fun _ h9 => h9) rfl dX7_interval_88 ?_
      refine lv_iconst (v := 1) hx hb dX7_interval_91 (by decide) ?_
      refine lv_isub hx hb dX7_interval_92 ?_
      obtain rfl := (Option.some.inj hR)
      exact fin _ _ _ _ _ rfl hP hS dX7_interval_93
    · replace hR := Eq.trans (Eq.symm (if_neg c_3)) hR
      refine lv_iconst (v := 0) hx hb dX7_interval_39 (by decide) ?_
      obtain rfl := (Option.some.inj hR)
      exact fin _ _ _ _ _ rfl hP hS dX7_interval_40
  rw [jf_Mo_interval] at hR
  refine lv_aload_n hx hb dX7_interval_0 rfl (lv_at hl 0 rfl) ?_
  refine lv_iload_n hx hb dX7_interval_1 rfl (lv_at hl 1 rfl) ?_
  refine lv_iconst (v := 1) hx hb dX7_interval_2 (by decide) ?_
  refine lv_bipush (v := 50) hx hb dX7_interval_3 (by decide) ?_
  refine jcall_ri (va_runS (As := [.int x1, .int 1, .int 50]) (rest := [.ref a_this]) ⟨hx, hb, hml, hown, hts⟩ (jc_Mo_in l g  x1 1 50 _ rfl) (va_cwS 3 hts gX7_interval_X7_in rfl rfl rfl (by decide +kernel) ⟨Nat.le_of_ble_eq_true rfl, Nat.le_of_ble_eq_true rfl⟩) (jpr_s hK (hP.sub (ws' := []) [] rfl)) rfl rfl hl.1 rfl (lv_room (Nat.le_of_ble_eq_true rfl)) dX7_interval_5 ⟨Nat.zero_le _, Nat.zero_le _⟩) ?_
  refine lv_if_ne (tgt := 15) hx hb dX7_interval_8 (by decide) (fun c_1 => ?_) (fun c_1 => ?_)
  · replace hR := Eq.trans (Eq.symm (if_neg c_1)) hR
    refine lv_aload_n hx hb dX7_interval_15 rfl (lv_at hl 0 rfl) ?_
    refine va_get (D := g.1) (ci := 7) (v := .int v_intervals) (C := RX7) (T := TX7) (N := 20) hx hb hts w_X7 hown hK.1 hP 0 rfl rfl 15 (by decide) w_f214 (fun _ h9 => h9) rfl dX7_interval_16 ?_
    refine lv_bipush (v := 6) hx hb dX7_interval_19 (by decide) ?_
    refine lv_icmp_ne (tgt := 28) hx hb dX7_interval_21 (by decide) (fun c_2 => ?_) (fun c_2 => ?_)
    · replace hR := Eq.trans (Eq.symm (if_neg c_2)) hR
      refine lv_iconst (v := 0) hx hb dX7_interval_28 (by decide) ?_
      exact J29 v_thrown v_intervals v_above v_below v_length x1 0 _ _ hP hS _ (lv_sub hl [0, 1] rfl) hR
    · replace hR := Eq.trans (Eq.symm (if_pos c_2)) hR
      refine lv_iconst (v := 2) hx hb dX7_interval_24 (by decide) ?_
      refine lv_goto (tgt := 29) hx hb dX7_interval_25 (by decide) ?_
      exact J29 v_thrown v_intervals v_above v_below v_length x1 2 _ _ hP hS _ (lv_sub hl [0, 1] rfl) hR
  · replace hR := Eq.trans (Eq.symm (if_pos c_1)) hR
    refine lv_iconst (v := 1) hx hb dX7_interval_11 (by decide) ?_
    refine lv_goto (tgt := 29) hx hb dX7_interval_12 (by decide) ?_
    exact J29 v_thrown v_intervals v_above v_below v_length x1 1 _ _ hP hS _ (lv_sub hl [0, 1] rfl) hR
def jf_Mo_isPlace (v_intervals : Int32) (x1 : Int32) : Int32 :=
  (jf_Mo_in x1 0 (v_intervals - 1)) &&& 1
abbrev jr_Mo_isPlace : Room := { frames := 1, cells := 0, slots := 0, locals := 22 }
set_option maxRecDepth 100000 in
set_option maxHeartbeats 4000000 in
theorem jc_Mo_isPlace (l : Launch) (g : jG) (a_this a_this_isBlock a_this_isSeen a_this_lampX a_this_lampY a_this_right a_this_up a_this_keptRight a_this_keptUp a_this_name a_this_part a_this_codes a_this_above a_this_below a_this_length a_this_isMet : Nat) (v_thrown : Int32) (v_isBounce : Int32) (v_lamps : Int32) (v_squares : Int32) (v_intervals : Int32) (v_isBlock : Nat → Int32) (v_isSeen : Nat → Int32) (v_lampX : Nat → Int32) (v_lampY : Nat → Int32) (v_right : Nat → Int32) (v_up : Nat → Int32) (v_keptRight : Nat → Int32) (v_keptUp : Nat → Int32) (v_name : Nat → Int32) (v_part : Nat → Int32) (v_codes : Nat → Int32) (v_above : Nat → Int32) (v_below : Nat → Int32) (v_length : Nat → Int32) (v_isMet : Nat → Int32) (x1 : Int32) (R : Int32) (hR : jf_Mo_isPlace v_intervals x1 = R) : Met l yX7_isPlace wsX7_isPlace jr_Mo_isPlace (jPr g [.ref a_this, .int x1] (jw_Mo g a_this a_this_isBlock a_this_isSeen a_this_lampX a_this_lampY a_this_right a_this_up a_this_keptRight a_this_keptUp a_this_name a_this_part a_this_codes a_this_above a_this_below a_this_length a_this_isMet v_thrown v_isBounce v_lamps v_squares v_intervals v_isBlock v_isSeen v_lampX v_lampY v_right v_up v_keptRight v_keptUp v_name v_part v_codes v_above v_below v_length v_isMet)) (vp_Si (fun r => r = R)) 0 0 (fun _ => False) := by
  refine jm_rz (cc := cX7_isPlace) (maxL := 2) (by decide +kernel) rfl (Nat.le_of_ble_eq_true rfl) ?_
  intro p e s m below meth c Q hx hb hml hown hts hK hP fin ls hl
  have hl : lv_has ls 2 [(0, .ref a_this), (1, .int x1)] := hl
  have hown : s.vm.findClass RX7 = some m.cls := hown
  have w_X7 : ∀ w ∈ u_ws RX7 TX7 20, w ∈ wsX7_isPlace := by decide +kernel
  have w_f214 := hts (.fieldLink RX7 214 "BilliardryModel" "intervals" "I") (by decide +kernel)
  rw [jf_Mo_isPlace] at hR
  refine lv_iload_n hx hb dX7_isPlace_0 rfl (lv_at hl 1 rfl) ?_
  refine lv_iconst (v := 0) hx hb dX7_isPlace_1 (by decide) ?_
  refine lv_aload_n hx hb dX7_isPlace_2 rfl (lv_at hl 0 rfl) ?_
  refine va_get (D := g.1) (ci := 7) (v := .int v_intervals) (C := RX7) (T := TX7) (N := 20) hx hb hts w_X7 hown hK.1 hP 0 rfl rfl 15 (by decide) w_f214 (fun _ h9 => h9) rfl dX7_isPlace_3 ?_
  refine lv_iconst (v := 1) hx hb dX7_isPlace_6 (by decide) ?_
  refine lv_isub hx hb dX7_isPlace_7 ?_
  refine jcall_ri (va_runS (As := [.int x1, .int 0, .int (v_intervals - 1)]) (rest := []) ⟨hx, hb, hml, hown, hts⟩ (jc_Mo_in l g  x1 0 (v_intervals - 1) _ rfl) (va_cwS 3 hts gX7_isPlace_X7_in rfl rfl rfl (by decide +kernel) ⟨Nat.le_of_ble_eq_true rfl, Nat.le_of_ble_eq_true rfl⟩) (jpr_s hK (hP.sub (ws' := []) [] rfl)) rfl rfl hl.1 rfl (lv_room (Nat.le_of_ble_eq_true rfl)) dX7_isPlace_8 ⟨Nat.zero_le _, Nat.zero_le _⟩) ?_
  exact fin _ _ _ hR dX7_isPlace_11
def jf_Mo_swap_b22 (v_thrown : Int32) (v_below : Nat → Int32) (z1 : Int32) (z2 : Int32) (s1 : Int32) : Option (Int32 × Int32 × (Nat → Int32)) :=
  if s1 ≤ 0 then (if jin z1 6 = true then (jlet (v_below z1.toNatClampNeg) (fun y3_1 => if jin z2 6 = true then (if jin z1 6 = true then (if jin z2 6 = true then (if jin z1 6 = true then (some ((upd (upd v_below z1.toNatClampNeg (v_below z2.toNatClampNeg)) z2.toNatClampNeg y3_1) z1.toNatClampNeg, s1, upd (upd v_below z1.toNatClampNeg (v_below z2.toNatClampNeg)) z2.toNatClampNeg y3_1)) else none) else none) else none) else none)) else none) else (some (0, s1, v_below))
def jf_Mo_swap_b21 (v_thrown : Int32) (v_below : Nat → Int32) (z1 : Int32) (z2 : Int32) : Option (Int32 × Int32 × (Nat → Int32)) :=
  jf_Mo_swap_b22 v_thrown v_below z1 z2 1
def jf_Mo_swap (v_thrown : Int32) (v_intervals : Int32) (v_below : Nat → Int32) (x1 : Int32) (x2 : Int32) : Option (Int32 × Int32 × (Nat → Int32)) :=
  if (jf_Mo_isPlace v_intervals x1) = 0 then (jf_Mo_swap_b21 v_thrown v_below x1 x2) else (if (jf_Mo_isPlace v_intervals x2) = 0 then (jf_Mo_swap_b21 v_thrown v_below x1 x2) else (jf_Mo_swap_b22 v_thrown v_below x1 x2 0))
abbrev jr_Mo_swap : Room := { frames := 2, cells := 0, slots := 0, locals := 43 }
set_option maxRecDepth 100000 in
set_option maxHeartbeats 4000000 in
theorem jc_Mo_swap (l : Launch) (g : jG) (a_this a_this_isBlock a_this_isSeen a_this_lampX a_this_lampY a_this_right a_this_up a_this_keptRight a_this_keptUp a_this_name a_this_part a_this_codes a_this_above a_this_below a_this_length a_this_isMet : Nat) (v_thrown : Int32) (v_isBounce : Int32) (v_lamps : Int32) (v_squares : Int32) (v_intervals : Int32) (v_isBlock : Nat → Int32) (v_isSeen : Nat → Int32) (v_lampX : Nat → Int32) (v_lampY : Nat → Int32) (v_right : Nat → Int32) (v_up : Nat → Int32) (v_keptRight : Nat → Int32) (v_keptUp : Nat → Int32) (v_name : Nat → Int32) (v_part : Nat → Int32) (v_codes : Nat → Int32) (v_above : Nat → Int32) (v_below : Nat → Int32) (v_length : Nat → Int32) (v_isMet : Nat → Int32) (x1 : Int32) (x2 : Int32) (R : Int32 × Int32 × (Nat → Int32)) (hR : jf_Mo_swap v_thrown v_intervals v_below x1 x2 = some R) (sz : Nat) : Met l yX7_swap wsX7_swap jr_Mo_swap (jPw g [.ref a_this, .int x1, .int x2] (jw_Mo g a_this a_this_isBlock a_this_isSeen a_this_lampX a_this_lampY a_this_right a_this_up a_this_keptRight a_this_keptUp a_this_name a_this_part a_this_codes a_this_above a_this_below a_this_length a_this_isMet v_thrown v_isBounce v_lamps v_squares v_intervals v_isBlock v_isSeen v_lampX v_lampY v_right v_up v_keptRight v_keptUp v_name v_part v_codes v_above v_below v_length v_isMet) sz) (jQi g R.1 (jw_Mo g a_this a_this_isBlock a_this_isSeen a_this_lampX a_this_lampY a_this_right a_this_up a_this_keptRight a_this_keptUp a_this_name a_this_part a_this_codes a_this_above a_this_below a_this_length a_this_isMet R.2.1 v_isBounce v_lamps v_squares v_intervals v_isBlock v_isSeen v_lampX v_lampY v_right v_up v_keptRight v_keptUp v_name v_part v_codes v_above R.2.2 v_length v_isMet) (va_A (jw_Mo g a_this a_this_isBlock a_this_isSeen a_this_lampX a_this_lampY a_this_right a_this_up a_this_keptRight a_this_keptUp a_this_name a_this_part a_this_codes a_this_above a_this_below a_this_length a_this_isMet v_thrown v_isBounce v_lamps v_squares v_intervals v_isBlock v_isSeen v_lampX v_lampY v_right v_up v_keptRight v_keptUp v_name v_part v_codes v_above v_below v_length v_isMet) sz)) 0 0 (va_A (jw_Mo g a_this a_this_isBlock a_this_isSeen a_this_lampX a_this_lampY a_this_right a_this_up a_this_keptRight a_this_keptUp a_this_name a_this_part a_this_codes a_this_above a_this_below a_this_length a_this_isMet v_thrown v_isBounce v_lamps v_squares v_intervals v_isBlock v_isSeen v_lampX v_lampY v_right v_up v_keptRight v_keptUp v_name v_part v_codes v_above v_below v_length v_isMet) sz) := by
  refine jm_wi (cc := cX7_swap) (maxL := 4) (by decide +kernel) rfl (Nat.le_of_ble_eq_true rfl) ?_
  intro p e s m below meth c A Q hx hb hml hown hts hK hP hD hA hS fin ls hl
  have hl : lv_has ls 4 [(0, .ref a_this), (1, .int x1), (2, .int x2)] := hl
  have hown : s.vm.findClass RX7 = some m.cls := hown
  have w_X7 : ∀ w ∈ u_ws RX7 TX7 20, w ∈ wsX7_swap := by decide +kernel
  have w_f60 := hts (.fieldLink RX7 60 "BilliardryModel" "thrown" "I") (by decide +kernel)
  have w_f51 := hts (.fieldLink RX7 51 "BilliardryModel" "below" "[I") (by decide +kernel)
  have J22 : ∀ (v_thrown : Int32) (v_below : Nat → Int32) (z1 : Int32) (z2 : Int32) (s1 : Int32) (H : Heap) (locs : List Loc), va_P g.1 vwCl (jw_Mo g a_this a_this_isBlock a_this_isSeen a_this_lampX a_this_lampY a_this_right a_this_up a_this_keptRight a_this_keptUp a_this_name a_this_part a_this_codes a_this_above a_this_below a_this_length a_this_isMet v_thrown v_isBounce v_lamps v_squares v_intervals v_isBlock v_isSeen v_lampX v_lampY v_right v_up v_keptRight v_keptUp v_name v_part v_codes v_above v_below v_length v_isMet) H → va_S A s.heap H locs → ∀ (ls : Array Slot), lv_has ls 4 [(0, .ref a_this), (1, .int z1), (2, .int z2)] → jf_Mo_swap_b22 v_thrown v_below z1 z2 s1 = some R → W p l e jr_Mo_swap s m ([.ref a_this, .int x1, .int x2] : List Value).toArray below meth c H locs 0 0 Q (F0 m 22 ls [.int s1, .ref a_this]) := by
    intro v_thrown v_below z1 z2 s1 H locs hP hS ls hl hR
    rw [jf_Mo_swap_b22] at hR
    refine va_put (D := g.1) (ci := 7) (v := .int s1) (ty := .int) (C := RX7) (T := TX7) (N := 20) hx hb hts w_X7 tyX7 tyX7_ok nmX7 hown hK.1 hP (jD_to hD rfl) hS 0 rfl rfl 0 (by decide) w_f60 (fun _ h9 => h9) rfl (by decide +kernel) rfl rfl (Nat.le_of_ble_eq_true rfl) dX7_swap_22 (fun H locs hP _ hS => ?_)
    have hP : va_P g.1 vwCl (jw_Mo g a_this a_this_isBlock a_this_isSeen a_this_lampX a_this_lampY a_this_right a_this_up a_this_keptRight a_this_keptUp a_this_name a_this_part a_this_codes a_this_above a_this_below a_this_length a_this_isMet s1 v_isBounce v_lamps v_squares v_intervals v_isBlock v_isSeen v_lampX v_lampY v_right v_up v_keptRight v_keptUp v_name v_part v_codes v_above v_below v_length v_isMet) H := hP
    refine lv_aload_n hx hb dX7_swap_25 rfl (lv_at hl 0 rfl) ?_
    refine va_get (D := g.1) (ci := 7) (v := .int s1) (C := RX7) (T := TX7) (N := 20) hx hb hts w_X7 hown hK.1 hP 0 rfl rfl 0 (by decide) w_f60 (fun _ h9 => h9) rfl dX7_swap_26 ?_
    refine lv_if_le (tgt := 34) hx hb dX7_swap_29 (by decide) (fun c_2 => ?_) (fun c_2 => ?_)
    · replace hR := Eq.trans (Eq.symm (if_pos c_2)) hR
      refine lv_aload_n hx hb dX7_swap_34 rfl (lv_at hl 0 rfl) ?_
      refine va_get (D := g.1) (ci := 7) (v := .ref a_this_below) (C := RX7) (T := TX7) (N := 20) hx hb hts w_X7 hown hK.1 hP 0 rfl rfl 17 (by decide) w_f51 (fun _ h9 => h9) rfl dX7_swap_35 ?_
      refine lv_iload_n hx hb dX7_swap_38 rfl (lv_at hl 1 rfl) ?_
      by_cases c_3 : jin z1 6 = true
      case neg => replace hR := Eq.trans (Eq.symm (if_neg c_3)) hR; cases hR
      replace hR := Eq.trans (Eq.symm (if_pos c_3)) hR
      refine va_iald hx hb hK.1 hP 13 0 rfl rfl (jin_in c_3) dX7_swap_39 ?_
      refine jlet_i hR (fun y3_1 hR => ?_)
      try dsimp only at hR
      refine lv_istore_n (lv' := [(3, .int y3_1), (0, .ref a_this), (1, .int z1), (2, .int z2)]) hx hb dX7_swap_40 rfl hl (by decide) rfl (fun ls hl => ?_)
      refine lv_aload_n hx hb dX7_swap_41 rfl (lv_at hl 1 rfl) ?_
      refine va_get (D := g.1) (ci := 7) (v := .ref a_this_below) (C := RX7) (T := TX7) (N := 20) hx hb hts w_X7 hown hK.1 hP 0 rfl rfl 17 (by decide) w_f51 (fun _ h9 => h9) rfl dX7_swap_42 ?_
      refine lv_iload_n hx hb dX7_swap_45 rfl (lv_at hl 2 rfl) ?_
      refine lv_aload_n hx hb dX7_swap_46 rfl (lv_at hl 1 rfl) ?_
      refine va_get (D := g.1) (ci := 7) (v := .ref a_this_below) (C := RX7) (T := TX7) (N := 20) hx hb hts w_X7 hown hK.1 hP 0 rfl rfl 17 (by decide) w_f51 (fun _ h9 => h9) rfl dX7_swap_47 ?_
      refine lv_iload_n hx hb dX7_swap_50 rfl (lv_at hl 3 rfl) ?_
      by_cases c_4 : jin z2 6 = true
      case neg => replace hR := Eq.trans (Eq.symm (if_neg c_4)) hR; cases hR
      replace hR := Eq.trans (Eq.symm (if_pos c_4)) hR
      refine va_iald hx hb hK.1 hP 13 0 rfl rfl (jin_in c_4) dX7_swap_51 ?_
      by_cases c_5 : jin z1 6 = true
      case neg => replace hR := Eq.trans (Eq.symm (if_neg c_5)) hR; cases hR
      replace hR := Eq.trans (Eq.symm (if_pos c_5)) hR
      refine va_iast hx hb hK.1 hP (jD_to hD rfl) hS 13 0 rfl rfl (jin_in c_5) dX7_swap_52 (fun H locs hP _ hS => ?_)
      have hP : va_P g.1 vwCl (jw_Mo g a_this a_this_isBlock a_this_isSeen a_this_lampX a_this_lampY a_this_right a_this_up a_this_keptRight a_this_keptUp a_this_name a_this_part a_this_codes a_this_above a_this_below a_this_length a_this_isMet s1 v_isBounce v_lamps v_squares v_intervals v_isBlock v_isSeen v_lampX v_lampY v_right v_up v_keptRight v_keptUp v_name v_part v_codes v_above (upd v_below z1.toNatClampNeg (v_below z2.toNatClampNeg)) v_length v_isMet) H := hP
      refine lv_aload_n hx hb dX7_swap_53 rfl (lv_at hl 1 rfl) ?_
      refine va_get (D := g.1) (ci := 7) (v := .ref a_this_below) (C := RX7) (T := TX7) (N := 20) hx hb hts w_X7 hown hK.1 hP 0 rfl rfl 17 (by decide) w_f51 (fun _ h9 => h9) rfl dX7_swap_54 ?_
      refine lv_iload_n hx hb dX7_swap_57 rfl (lv_at hl 3 rfl) ?_
      refine lv_iload_n hx hb dX7_swap_58 rfl (lv_at hl 0 rfl) ?_
      by_cases c_6 : jin z2 6 = true
      case neg => replace hR := Eq.trans (Eq.symm (if_neg c_6)) hR; cases hR
      replace hR := Eq.trans (Eq.symm (if_pos c_6)) hR
      refine va_iast hx hb hK.1 hP (jD_to hD rfl) hS 13 0 rfl rfl (jin_in c_6) dX7_swap_59 (fun H locs hP _ hS => ?_)
      have hP : va_P g.1 vwCl (jw_Mo g a_this a_this_isBlock a_this_isSeen a_this_lampX a_this_lampY a_this_right a_this_up a_this_keptRight a_this_keptUp a_this_name a_this_part a_this_codes a_this_above a_this_below a_this_length a_this_isMet s1 v_isBounce v_lamps v_squares v_intervals v_isBlock v_isSeen v_lampX v_lampY v_right v_up v_keptRight v_keptUp v_name v_part v_codes v_above (upd (upd v_below z1.toNatClampNeg (v_below z2.toNatClampNeg)) z2.toNatClampNeg y3_1) v_length v_isMet) H := hP
      refine lv_aload_n hx hb dX7_swap_60 rfl (lv_at hl 1 rfl) ?_
      refine va_get (D := g.1) (ci := 7) (v := .ref a_this_below) (C := RX7) (T := TX7) (N := 20) hx hb hts w_X7 hown hK.1 hP 0 rfl rfl 17 (by decide) w_f51 (fun _ h9 => h9) rfl dX7_swap_61 ?_
      refine lv_iload_n hx hb dX7_swap_64 rfl (lv_at hl 2 rfl) ?_
      by_cases c_7 : jin z1 6 = true
      case neg => replace hR := Eq.trans (Eq.symm (if_neg c_7)) hR; cases hR
      replace hR := Eq.trans (Eq.symm (if_pos c_7)) hR
      refine va_iald hx hb hK.1 hP 13 0 rfl rfl (jin_in c_7) dX7_swap_65 ?_
      obtain rfl := (Option.some.inj hR)
      exact fin _ _ _ _ _ rfl hP hS dX7_swap_66
    · replace hR := Eq.trans (Eq.symm (if_neg c_2)) hR
      refine lv_iconst (v := 0) hx hb dX7_swap_32 (by decide) ?_
      obtain rfl := (Option.some.inj hR)
      exact fin _ _ _ _ _ rfl hP hS dX7_swap_33
  have J21 : ∀ (v_thrown : Int32) (v_below : Nat → Int32) (z1 : Int32) (z2 : Int32) (H : Heap) (locs : List Loc), va_P g.1 vwCl (jw_Mo g a_this a_this_isBlock a_this_isSeen a_this_lampX a_this_lampY a_this_right a_this_up a_this_keptRight a_this_keptUp a_this_name a_this_part a_this_codes a_this_above a_this_below a_this_length a_this_isMet v_thrown v_isBounce v_lamps v_squares v_intervals v_isBlock v_isSeen v_lampX v_lampY v_right v_up v_keptRight v_keptUp v_name v_part v_codes v_above v_below v_length v_isMet) H → va_S A s.heap H locs → ∀ (ls : Array Slot), lv_has ls 4 [(0, .ref a_this), (1, .int z1), (2, .int z2)] → jf_Mo_swap_b21 v_thrown v_below z1 z2 = some R → W p l e jr_Mo_swap s m ([.ref a_this, .int x1, .int x2] : List Value).toArray below meth c H locs 0 0 Q (F0 m 21 ls [.ref a_this]) := by
    intro v_thrown v_below z1 z2 H locs hP hS ls hl hR
    rw [jf_Mo_swap_b21] at hR
    refine lv_iconst (v := 1) hx hb dX7_swap_21 (by decide) ?_
    exact J22 v_thrown v_below z1 z2 1 _ _ hP hS _ (lv_sub hl [0, 1, 2] rfl) hR
  rw [jf_Mo_swap] at hR
  refine lv_aload_n hx hb dX7_swap_0 rfl (lv_at hl 0 rfl) ?_
  refine lv_aload_n hx hb dX7_swap_1 rfl (lv_at hl 0 rfl) ?_
  refine lv_iload_n hx hb dX7_swap_2 rfl (lv_at hl 1 rfl) ?_
  refine jcall_ri (va_runV (As := [.int x1]) (rest := [.ref a_this]) ⟨hx, hb, hml, hown, hts⟩ (jc_Mo_isPlace l g a_this a_this_isBlock a_this_isSeen a_this_lampX a_this_lampY a_this_right a_this_up a_this_keptRight a_this_keptUp a_this_name a_this_part a_this_codes a_this_above a_this_below a_this_length a_this_isMet v_thrown v_isBounce v_lamps v_squares v_intervals v_isBlock v_isSeen v_lampX v_lampY v_right v_up v_keptRight v_keptUp v_name v_part v_codes v_above v_below v_length v_isMet x1 _ rfl) (cwV 1 hts gX7_swap_X7_isPlace rfl rfl rfl (by decide +kernel) ⟨Nat.le_of_ble_eq_true rfl, Nat.le_of_ble_eq_true rfl⟩) (jpr_v hK hP (ci := 7) (q0 := 0) rfl rfl) rfl rfl hl.1 rfl (lv_room (Nat.le_of_ble_eq_true rfl)) dX7_swap_3 ⟨Nat.zero_le _, Nat.zero_le _⟩) ?_
  refine lv_if_eq (tgt := 21) hx hb dX7_swap_6 (by decide) (fun c_1 => ?_) (fun c_1 => ?_)
  · replace hR := Eq.trans (Eq.symm (if_pos c_1)) hR
    exact J21 v_thrown v_below x1 x2 _ _ hP hS _ (lv_sub hl [0, 1, 2] rfl) hR
  · replace hR := Eq.trans (Eq.symm (if_neg c_1)) hR
    refine lv_aload_n hx hb dX7_swap_9 rfl (lv_at hl 0 rfl) ?_
    refine lv_iload_n hx hb dX7_swap_10 rfl (lv_at hl 2 rfl) ?_
    refine jcall_ri (va_runV (As := [.int x2]) (rest := [.ref a_this]) ⟨hx, hb, hml, hown, hts⟩ (jc_Mo_isPlace l g a_this a_this_isBlock a_this_isSeen a_this_lampX a_this_lampY a_this_right a_this_up a_this_keptRight a_this_keptUp a_this_name a_this_part a_this_codes a_this_above a_this_below a_this_length a_this_isMet v_thrown v_isBounce v_lamps v_squares v_intervals v_isBlock v_isSeen v_lampX v_lampY v_right v_up v_keptRight v_keptUp v_name v_part v_codes v_above v_below v_length v_isMet x2 _ rfl) (cwV 1 hts gX7_swap_X7_isPlace rfl rfl rfl (by decide +kernel) ⟨Nat.le_of_ble_eq_true rfl, Nat.le_of_ble_eq_true rfl⟩) (jpr_v hK hP (ci := 7) (q0 := 0) rfl rfl) rfl rfl hl.1 rfl (lv_room (Nat.le_of_ble_eq_true rfl)) dX7_swap_11 ⟨Nat.zero_le _, Nat.zero_le _⟩) ?_
    refine lv_if_eq (tgt := 21) hx hb dX7_swap_14 (by decide) (fun c_8 => ?_) (fun c_8 => ?_)
    · replace hR := Eq.trans (Eq.symm (if_pos c_8)) hR
      exact J21 v_thrown v_below x1 x2 _ _ hP hS _ (lv_sub hl [0, 1, 2] rfl) hR
    · replace hR := Eq.trans (Eq.symm (if_neg c_8)) hR
      refine lv_iconst (v := 0) hx hb dX7_swap_17 (by decide) ?_
      refine lv_goto (tgt := 22) hx hb dX7_swap_18 (by decide) ?_
      exact J22 v_thrown v_below x1 x2 0 _ _ hP hS _ (lv_sub hl [0, 1, 2] rfl) hR
def jf_Mo_sum_L4 (v_intervals : Int32) (v_length : Nat → Int32) : Nat → Int32 → Int32 → Option Int32
  | 0, _, _ => none
  | n + 1, z1, z2 =>
    if v_intervals ≤ z2 then (some z1) else (if jin z2 6 = true then (jlet (z1 + (v_length z2.toNatClampNeg)) (fun y1_1 => (jf_Mo_sum_L4 v_intervals v_length n) y1_1 (z2 + 1))) else none)
def jf_Mo_sum (v_intervals : Int32) (v_length : Nat → Int32) : Option Int32 :=
  Option.bind (jf_Mo_sum_L4 v_intervals v_length jF 0 0) (fun q_1 => some q_1)
abbrev jr_Mo_sum : Room := { frames := 0, cells := 0, slots := 0, locals := 0 }
set_option maxRecDepth 100000 in
set_option maxHeartbeats 4000000 in
theorem jc_Mo_sum (l : Launch) (g : jG) (a_this a_this_isBlock a_this_isSeen a_this_lampX a_this_lampY a_this_right a_this_up a_this_keptRight a_this_keptUp a_this_name a_this_part a_this_codes a_this_above a_this_below a_this_length a_this_isMet : Nat) (v_thrown : Int32) (v_isBounce : Int32) (v_lamps : Int32) (v_squares : Int32) (v_intervals : Int32) (v_isBlock : Nat → Int32) (v_isSeen : Nat → Int32) (v_lampX : Nat → Int32) (v_lampY : Nat → Int32) (v_right : Nat → Int32) (v_up : Nat → Int32) (v_keptRight : Nat → Int32) (v_keptUp : Nat → Int32) (v_name : Nat → Int32) (v_part : Nat → Int32) (v_codes : Nat → Int32) (v_above : Nat → Int32) (v_below : Nat → Int32) (v_length : Nat → Int32) (v_isMet : Nat → Int32) (R : Int32) (hR : jf_Mo_sum v_intervals v_length = some R) : Met l yX7_sum wsX7_sum jr_Mo_sum (jPr g [.ref a_this] (jw_Mo g a_this a_this_isBlock a_this_isSeen a_this_lampX a_this_lampY a_this_right a_this_up a_this_keptRight a_this_keptUp a_this_name a_this_part a_this_codes a_this_above a_this_below a_this_length a_this_isMet v_thrown v_isBounce v_lamps v_squares v_intervals v_isBlock v_isSeen v_lampX v_lampY v_right v_up v_keptRight v_keptUp v_name v_part v_codes v_above v_below v_length v_isMet)) (vp_Si (fun r => r = R)) 0 0 (fun _ => False) := by
  refine jm_ri (cc := cX7_sum) (maxL := 3) (by decide +kernel) rfl (Nat.le_of_ble_eq_true rfl) ?_
  intro p e s m below meth c Q hx hb hml hown hts hK hP fin ls hl
  have hl : lv_has ls 3 [(0, .ref a_this)] := hl
  have hown : s.vm.findClass RX7 = some m.cls := hown
  have w_X7 : ∀ w ∈ u_ws RX7 TX7 20, w ∈ wsX7_sum := by decide +kernel
  have w_f214 := hts (.fieldLink RX7 214 "BilliardryModel" "intervals" "I") (by decide +kernel)
  have w_f54 := hts (.fieldLink RX7 54 "BilliardryModel" "length" "[I") (by decide +kernel)
  have L4 : ∀ (n : Nat) (z1 : Int32) (z2 : Int32) (ls : Array Slot), lv_has ls 3 [(0, .ref a_this), (1, .int z1), (2, .int z2)] → ∀ q, jf_Mo_sum_L4 v_intervals v_length n z1 z2 = some q → (∀ ls : Array Slot, lv_has ls 3 [(1, .int q)] → W p l e jr_Mo_sum s m ([.ref a_this] : List Value).toArray below meth c s.heap [] 0 0 Q (F0 m 27 ls [])) → W p l e jr_Mo_sum s m ([.ref a_this] : List Value).toArray below meth c s.heap [] 0 0 Q (F0 m 4 ls []) := by
    intro n
    induction n with
    | zero =>
      intro z1 z2 ls hl q hR k
      cases hR
    | succ n ih =>
      intro z1 z2 ls hl q hR k
      rw [jf_Mo_sum_L4] at hR
      refine lv_iload_n hx hb dX7_sum_4 rfl (lv_at hl 2 rfl) ?_
      refine lv_aload_n hx hb dX7_sum_5 rfl (lv_at hl 0 rfl) ?_
      refine va_get (D := g.1) (ci := 7) (v := .int v_intervals) (C := RX7) (T := TX7) (N := 20) hx hb hts w_X7 hown hK.1 hP 0 rfl rfl 15 (by decide) w_f214 (fun _ h9 => h9) rfl dX7_sum_6 ?_
      refine lv_icmp_ge (tgt := 27) hx hb dX7_sum_9 (by decide) (fun c_1 => ?_) (fun c_1 => ?_)
      · replace hR := Eq.trans (Eq.symm (if_pos c_1)) hR
        cases hR
        exact k _ (lv_sub hl [1] rfl)
      · replace hR := Eq.trans (Eq.symm (if_neg c_1)) hR
        refine lv_iload_n hx hb dX7_sum_12 rfl (lv_at hl 1 rfl) ?_
        refine lv_aload_n hx hb dX7_sum_13 rfl (lv_at hl 0 rfl) ?_
        refine va_get (D := g.1) (ci := 7) (v := .ref a_this_length) (C := RX7) (T := TX7) (N := 20) hx hb hts w_X7 hown hK.1 hP 0 rfl rfl 18 (by decide) w_f54 (fun _ h9 => h9) rfl dX7_sum_14 ?_
        refine lv_iload_n hx hb dX7_sum_17 rfl (lv_at hl 2 rfl) ?_
        by_cases c_2 : jin z2 6 = true
        case neg => replace hR := Eq.trans (Eq.symm (if_neg c_2)) hR; cases hR
        replace hR := Eq.trans (Eq.symm (if_pos c_2)) hR
        refine va_iald hx hb hK.1 hP 14 0 rfl rfl (jin_in c_2) dX7_sum_18 ?_
        refine lv_iadd hx hb dX7_sum_19 ?_
        refine jlet_i hR (fun y1_1 hR => ?_)
        try dsimp only at hR
        refine lv_istore_n (lv' := [(1, .int y1_1), (0, .ref a_this), (2, .int z2)]) hx hb dX7_sum_20 rfl hl (by decide) rfl (fun ls hl => ?_)
        refine lv_iinc (v := z2 + 1) (lv' := [(2, .int (z2 + 1)), (1, .int y1_1), (0, .ref a_this)]) hx hb dX7_sum_21 hl (k := 2) rfl (by first | rfl | decide) (by decide) rfl (fun ls hl => ?_)
        refine lv_goto (tgt := 4) hx hb dX7_sum_24 (by decide) ?_
        exact ih y1_1 (z2 + 1) _ (lv_sub hl [2, 1, 0] rfl) _ hR k
  rw [jf_Mo_sum] at hR
  refine lv_iconst (v := 0) hx hb dX7_sum_0 (by decide) ?_
  refine lv_istore_n (lv' := [(1, .int 0), (0, .ref a_this)]) hx hb dX7_sum_1 rfl hl (by decide) rfl (fun ls hl => ?_)
  refine lv_iconst (v := 0) hx hb dX7_sum_2 (by decide) ?_
  refine lv_istore_n (lv' := [(2, .int 0), (1, .int 0), (0, .ref a_this)]) hx hb dX7_sum_3 rfl hl (by decide) rfl (fun ls hl => ?_)
  obtain ⟨q_1, hq_1, hR⟩ := jbind hR
  try dsimp only at hR
  refine L4 jF 0 0 _ (lv_sub hl [2, 1, 0] rfl) _ hq_1 (fun ls hl => ?_)
  refine lv_iload_n hx hb dX7_sum_27 rfl (lv_at hl 0 rfl) ?_
  exact fin _ _ _ (Option.some.inj hR) dX7_sum_28
def jf_Mo_laysBehind_below_L17 (z2 : Int32) (z3 : Int32) : Nat → Int32 → (Nat → Int32) → Option (Int32 × (Nat → Int32))
  | 0, _, _ => none
  | n + 1, z4, v_below =>
    if jin (z4 - 1) 6 = true then (if v_below (z4 - 1).toNatClampNeg = z2 then (some (z4, v_below)) else (if jin (z4 - 1) 6 = true then (if jin z4 6 = true then ((jf_Mo_laysBehind_below_L17 z2 z3 n) (z4 + (-1)) (upd v_below z4.toNatClampNeg (v_below (z4 - 1).toNatClampNeg))) else none) else none)) else none
def jf_Mo_laysBehind_below (v_intervals : Int32) (v_below : Nat → Int32) (x2 : Int32) : Option (Nat → Int32) :=
  if jin (v_intervals - 1) 6 = true then (jlet (v_below (v_intervals - 1).toNatClampNeg) (fun y3_1 => jlet (v_intervals - 1) (fun y4_1 => Option.bind (jf_Mo_laysBehind_below_L17 x2 y3_1 jF y4_1 v_below) (fun q_1 => if jin q_1.1 6 = true then (some (upd q_1.2 q_1.1.toNatClampNeg y3_1)) else none)))) else none
abbrev jr_Mo_laysBehind_below : Room := { frames := 0, cells := 0, slots := 0, locals := 0 }
set_option maxRecDepth 100000 in
set_option maxHeartbeats 4000000 in
theorem jc_Mo_laysBehind_below (l : Launch) (g : jG) (a_this a_this_isBlock a_this_isSeen a_this_lampX a_this_lampY a_this_right a_this_up a_this_keptRight a_this_keptUp a_this_name a_this_part a_this_codes a_this_above a_this_below a_this_length a_this_isMet : Nat) (v_thrown : Int32) (v_isBounce : Int32) (v_lamps : Int32) (v_squares : Int32) (v_intervals : Int32) (v_isBlock : Nat → Int32) (v_isSeen : Nat → Int32) (v_lampX : Nat → Int32) (v_lampY : Nat → Int32) (v_right : Nat → Int32) (v_up : Nat → Int32) (v_keptRight : Nat → Int32) (v_keptUp : Nat → Int32) (v_name : Nat → Int32) (v_part : Nat → Int32) (v_codes : Nat → Int32) (v_above : Nat → Int32) (v_below : Nat → Int32) (v_length : Nat → Int32) (v_isMet : Nat → Int32) (x2 : Int32) (R : (Nat → Int32)) (hR : jf_Mo_laysBehind_below v_intervals v_below x2 = some R) (sz : Nat) : Met l yX7_laysBehind wsX7_laysBehind jr_Mo_laysBehind_below (jPw g [.ref a_this, .ref a_this_below, .int x2] (jw_Mo g a_this a_this_isBlock a_this_isSeen a_this_lampX a_this_lampY a_this_right a_this_up a_this_keptRight a_this_keptUp a_this_name a_this_part a_this_codes a_this_above a_this_below a_this_length a_this_isMet v_thrown v_isBounce v_lamps v_squares v_intervals v_isBlock v_isSeen v_lampX v_lampY v_right v_up v_keptRight v_keptUp v_name v_part v_codes v_above v_below v_length v_isMet) sz) (jQv g (jw_Mo g a_this a_this_isBlock a_this_isSeen a_this_lampX a_this_lampY a_this_right a_this_up a_this_keptRight a_this_keptUp a_this_name a_this_part a_this_codes a_this_above a_this_below a_this_length a_this_isMet v_thrown v_isBounce v_lamps v_squares v_intervals v_isBlock v_isSeen v_lampX v_lampY v_right v_up v_keptRight v_keptUp v_name v_part v_codes v_above R v_length v_isMet) (va_A (jw_Mo g a_this a_this_isBlock a_this_isSeen a_this_lampX a_this_lampY a_this_right a_this_up a_this_keptRight a_this_keptUp a_this_name a_this_part a_this_codes a_this_above a_this_below a_this_length a_this_isMet v_thrown v_isBounce v_lamps v_squares v_intervals v_isBlock v_isSeen v_lampX v_lampY v_right v_up v_keptRight v_keptUp v_name v_part v_codes v_above v_below v_length v_isMet) sz)) 0 0 (va_A (jw_Mo g a_this a_this_isBlock a_this_isSeen a_this_lampX a_this_lampY a_this_right a_this_up a_this_keptRight a_this_keptUp a_this_name a_this_part a_this_codes a_this_above a_this_below a_this_length a_this_isMet v_thrown v_isBounce v_lamps v_squares v_intervals v_isBlock v_isSeen v_lampX v_lampY v_right v_up v_keptRight v_keptUp v_name v_part v_codes v_above v_below v_length v_isMet) sz) := by
  refine jm_wv (cc := cX7_laysBehind) (maxL := 5) (by decide +kernel) rfl (Nat.le_of_ble_eq_true rfl) ?_
  intro p e s m below meth c A Q hx hb hml hown hts hK hP hD hA hS fin ls hl
  have hl : lv_has ls 5 [(0, .ref a_this), (1, .ref a_this_below), (2, .int x2)] := hl
  have hown : s.vm.findClass RX7 = some m.cls := hown
  have w_X7 : ∀ w ∈ u_ws RX7 TX7 20, w ∈ wsX7_laysBehind := by decide +kernel
  have w_f214 := hts (.fieldLink RX7 214 "BilliardryModel" "intervals" "I") (by decide +kernel)
  have L17 : ∀ (n : Nat) (z2 : Int32) (z3 : Int32) (z4 : Int32) (v_below : Nat → Int32) (H : Heap) (locs : List Loc), va_P g.1 vwCl (jw_Mo g a_this a_this_isBlock a_this_isSeen a_this_lampX a_this_lampY a_this_right a_this_up a_this_keptRight a_this_keptUp a_this_name a_this_part a_this_codes a_this_above a_this_below a_this_length a_this_isMet v_thrown v_isBounce v_lamps v_squares v_intervals v_isBlock v_isSeen v_lampX v_lampY v_right v_up v_keptRight v_keptUp v_name v_part v_codes v_above v_below v_length v_isMet) H → va_S A s.heap H locs → ∀ (ls : Array Slot), lv_has ls 5 [(1, .ref a_this_below), (2, .int z2), (3, .int z3), (4, .int z4)] → ∀ q, jf_Mo_laysBehind_below_L17 z2 z3 n z4 v_below = some q → (∀ (H : Heap) (locs : List Loc), va_P g.1 vwCl (jw_Mo g a_this a_this_isBlock a_this_isSeen a_this_lampX a_this_lampY a_this_right a_this_up a_this_keptRight a_this_keptUp a_this_name a_this_part a_this_codes a_this_above a_this_below a_this_length a_this_isMet v_thrown v_isBounce v_lamps v_squares v_intervals v_isBlock v_isSeen v_lampX v_lampY v_right v_up v_keptRight v_keptUp v_name v_part v_codes v_above q.2 v_length v_isMet) H → va_S A s.heap H locs → ∀ ls : Array Slot, lv_has ls 5 [(1, .ref a_this_below), (3, .int z3), (4, .int q.1)] → W p l e jr_Mo_laysBehind_below s m ([.ref a_this, .ref a_this_below, .int x2] : List Value).toArray below meth c H locs 0 0 Q (F0 m 43 ls [])) → W p l e jr_Mo_laysBehind_below s m ([.ref a_this, .ref a_this_below, .int x2] : List Value).toArray below meth c H locs 0 0 Q (F0 m 17 ls []) := by
    intro n z2 z3
    induction n with
    | zero =>
      intro z4 v_below H locs hP hS ls hl q hR k
      cases hR
    | succ n ih =>
      intro z4 v_below H locs hP hS ls hl q hR k
      rw [jf_Mo_laysBehind_below_L17] at hR
      refine lv_aload_n hx hb dX7_laysBehind_17 rfl (lv_at hl 0 rfl) ?_
      refine lv_iload hx hb dX7_laysBehind_18 (lv_at hl 3 rfl) ?_
      refine lv_iconst (v := 1) hx hb dX7_laysBehind_20 (by decide) ?_
      refine lv_isub hx hb dX7_laysBehind_21 ?_
      by_cases c_2 : jin (z4 - 1) 6 = true
      case neg => replace hR := Eq.trans (Eq.symm (if_neg c_2)) hR; cases hR
      replace hR := Eq.trans (Eq.symm (if_pos c_2)) hR
      refine va_iald hx hb hK.1 hP 13 0 rfl rfl (jin_in c_2) dX7_laysBehind_22 ?_
      refine lv_iload_n hx hb dX7_laysBehind_23 rfl (lv_at hl 1 rfl) ?_
      refine lv_icmp_eq (tgt := 43) hx hb dX7_laysBehind_24 (by decide) (fun c_3 => ?_) (fun c_3 => ?_)
      · replace hR := Eq.trans (Eq.symm (if_pos c_3)) hR
        cases hR
        exact k _ _ hP hS _ (lv_sub hl [0, 2, 3] rfl)
      · replace hR := Eq.trans (Eq.symm (if_neg c_3)) hR
        refine lv_aload_n hx hb dX7_laysBehind_27 rfl (lv_at hl 0 rfl) ?_
        refine lv_iload hx hb dX7_laysBehind_28 (lv_at hl 3 rfl) ?_
        refine lv_aload_n hx hb dX7_laysBehind_30 rfl (lv_at hl 0 rfl) ?_
        refine lv_iload hx hb dX7_laysBehind_31 (lv_at hl 3 rfl) ?_
        refine lv_iconst (v := 1) hx hb dX7_laysBehind_33 (by decide) ?_
        refine lv_isub hx hb dX7_laysBehind_34 ?_
        by_cases c_4 : jin (z4 - 1) 6 = true
        case neg => replace hR := Eq.trans (Eq.symm (if_neg c_4)) hR; cases hR
        replace hR := Eq.trans (Eq.symm (if_pos c_4)) hR
        refine va_iald hx hb hK.1 hP 13 0 rfl rfl (jin_in c_4) dX7_laysBehind_35 ?_
        by_cases c_5 : jin z4 6 = true
        case neg => replace hR := Eq.trans (Eq.symm (if_neg c_5)) hR; cases hR
        replace hR := Eq.trans (Eq.symm (if_pos c_5)) hR
        refine va_iast hx hb hK.1 hP (jD_to hD rfl) hS 13 0 rfl rfl (jin_in c_5) dX7_laysBehind_36 (fun H locs hP _ hS => ?_)
        have hP : va_P g.1 vwCl (jw_Mo g a_this a_this_isBlock a_this_isSeen a_this_lampX a_this_lampY a_this_right a_this_up a_this_keptRight a_this_keptUp a_this_name a_this_part a_this_codes a_this_above a_this_below a_this_length a_this_isMet v_thrown v_isBounce v_lamps v_squares v_intervals v_isBlock v_isSeen v_lampX v_lampY v_right v_up v_keptRight v_keptUp v_name v_part v_codes v_above (upd v_below z4.toNatClampNeg (v_below (z4 - 1).toNatClampNeg)) v_length v_isMet) H := hP
        refine lv_iinc (v := z4 + (-1)) (lv' := [(4, .int (z4 + (-1))), (1, .ref a_this_below), (2, .int z2), (3, .int z3)]) hx hb dX7_laysBehind_37 hl (k := 3) rfl (by first | rfl | decide) (by decide) rfl (fun ls hl => ?_)
        refine lv_goto (tgt := 17) hx hb dX7_laysBehind_40 (by decide) ?_
        exact ih (z4 + (-1)) (upd v_below z4.toNatClampNeg (v_below (z4 - 1).toNatClampNeg)) _ _ hP hS _ (lv_sub hl [1, 2, 3, 0] rfl) _ hR k
  rw [jf_Mo_laysBehind_below] at hR
  refine lv_aload_n hx hb dX7_laysBehind_0 rfl (lv_at hl 1 rfl) ?_
  refine lv_aload_n hx hb dX7_laysBehind_1 rfl (lv_at hl 0 rfl) ?_
  refine va_get (D := g.1) (ci := 7) (v := .int v_intervals) (C := RX7) (T := TX7) (N := 20) hx hb hts w_X7 hown hK.1 hP 0 rfl rfl 15 (by decide) w_f214 (fun _ h9 => h9) rfl dX7_laysBehind_2 ?_
  refine lv_iconst (v := 1) hx hb dX7_laysBehind_5 (by decide) ?_
  refine lv_isub hx hb dX7_laysBehind_6 ?_
  by_cases c_1 : jin (v_intervals - 1) 6 = true
  case neg => replace hR := Eq.trans (Eq.symm (if_neg c_1)) hR; cases hR
  replace hR := Eq.trans (Eq.symm (if_pos c_1)) hR
  refine va_iald hx hb hK.1 hP 13 0 rfl rfl (jin_in c_1) dX7_laysBehind_7 ?_
  refine jlet_i hR (fun y3_1 hR => ?_)
  try dsimp only at hR
  refine lv_istore_n (lv' := [(3, .int y3_1), (0, .ref a_this), (1, .ref a_this_below), (2, .int x2)]) hx hb dX7_laysBehind_8 rfl hl (by decide) rfl (fun ls hl => ?_)
  refine lv_aload_n hx hb dX7_laysBehind_9 rfl (lv_at hl 1 rfl) ?_
  refine va_get (D := g.1) (ci := 7) (v := .int v_intervals) (C := RX7) (T := TX7) (N := 20) hx hb hts w_X7 hown hK.1 hP 0 rfl rfl 15 (by decide) w_f214 (fun _ h9 => h9) rfl dX7_laysBehind_10 ?_
  refine lv_iconst (v := 1) hx hb dX7_laysBehind_13 (by decide) ?_
  refine lv_isub hx hb dX7_laysBehind_14 ?_
  refine jlet_i hR (fun y4_1 hR => ?_)
  try dsimp only at hR
  refine lv_istore (lv' := [(4, .int y4_1), (3, .int y3_1), (0, .ref a_this), (1, .ref a_this_below), (2, .int x2)]) hx hb dX7_laysBehind_15 hl (by decide) rfl (fun ls hl => ?_)
  obtain ⟨q_1, hq_1, hR⟩ := jbind hR
  try dsimp only at hR
  refine L17 jF x2 y3_1 y4_1 v_below _ _ hP hS _ (lv_sub hl [3, 4, 1, 0] rfl) _ hq_1 (fun H locs hP hS ls hl => ?_)
  refine lv_aload_n hx hb dX7_laysBehind_43 rfl (lv_at hl 0 rfl) ?_
  refine lv_iload hx hb dX7_laysBehind_44 (lv_at hl 2 rfl) ?_
  refine lv_iload_n hx hb dX7_laysBehind_46 rfl (lv_at hl 1 rfl) ?_
  by_cases c_6 : jin q_1.1 6 = true
  case neg => replace hR := Eq.trans (Eq.symm (if_neg c_6)) hR; cases hR
  replace hR := Eq.trans (Eq.symm (if_pos c_6)) hR
  refine va_iast hx hb hK.1 hP (jD_to hD rfl) hS 13 0 rfl rfl (jin_in c_6) dX7_laysBehind_47 (fun H locs hP _ hS => ?_)
  have hP : va_P g.1 vwCl (jw_Mo g a_this a_this_isBlock a_this_isSeen a_this_lampX a_this_lampY a_this_right a_this_up a_this_keptRight a_this_keptUp a_this_name a_this_part a_this_codes a_this_above a_this_below a_this_length a_this_isMet v_thrown v_isBounce v_lamps v_squares v_intervals v_isBlock v_isSeen v_lampX v_lampY v_right v_up v_keptRight v_keptUp v_name v_part v_codes v_above (upd q_1.2 q_1.1.toNatClampNeg y3_1) v_length v_isMet) H := hP
  obtain rfl := (Option.some.inj hR)
  exact fin _ _ _ _ hP hS dX7_laysBehind_48
def jf_Mo_laysBehind_above_L17 (z2 : Int32) (z3 : Int32) : Nat → Int32 → (Nat → Int32) → Option (Int32 × (Nat → Int32))
  | 0, _, _ => none
  | n + 1, z4, v_above =>
    if jin (z4 - 1) 6 = true then (if v_above (z4 - 1).toNatClampNeg = z2 then (some (z4, v_above)) else (if jin (z4 - 1) 6 = true then (if jin z4 6 = true then ((jf_Mo_laysBehind_above_L17 z2 z3 n) (z4 + (-1)) (upd v_above z4.toNatClampNeg (v_above (z4 - 1).toNatClampNeg))) else none) else none)) else none
def jf_Mo_laysBehind_above (v_intervals : Int32) (v_above : Nat → Int32) (x2 : Int32) : Option (Nat → Int32) :=
  if jin (v_intervals - 1) 6 = true then (jlet (v_above (v_intervals - 1).toNatClampNeg) (fun y3_1 => jlet (v_intervals - 1) (fun y4_1 => Option.bind (jf_Mo_laysBehind_above_L17 x2 y3_1 jF y4_1 v_above) (fun q_1 => if jin q_1.1 6 = true then (some (upd q_1.2 q_1.1.toNatClampNeg y3_1)) else none)))) else none
abbrev jr_Mo_laysBehind_above : Room := { frames := 0, cells := 0, slots := 0, locals := 0 }
set_option maxRecDepth 100000 in
set_option maxHeartbeats 4000000 in
theorem jc_Mo_laysBehind_above (l : Launch) (g : jG) (a_this a_this_isBlock a_this_isSeen a_this_lampX a_this_lampY a_this_right a_this_up a_this_keptRight a_this_keptUp a_this_name a_this_part a_this_codes a_this_above a_this_below a_this_length a_this_isMet : Nat) (v_thrown : Int32) (v_isBounce : Int32) (v_lamps : Int32) (v_squares : Int32) (v_intervals : Int32) (v_isBlock : Nat → Int32) (v_isSeen : Nat → Int32) (v_lampX : Nat → Int32) (v_lampY : Nat → Int32) (v_right : Nat → Int32) (v_up : Nat → Int32) (v_keptRight : Nat → Int32) (v_keptUp : Nat → Int32) (v_name : Nat → Int32) (v_part : Nat → Int32) (v_codes : Nat → Int32) (v_above : Nat → Int32) (v_below : Nat → Int32) (v_length : Nat → Int32) (v_isMet : Nat → Int32) (x2 : Int32) (R : (Nat → Int32)) (hR : jf_Mo_laysBehind_above v_intervals v_above x2 = some R) (sz : Nat) : Met l yX7_laysBehind wsX7_laysBehind jr_Mo_laysBehind_above (jPw g [.ref a_this, .ref a_this_above, .int x2] (jw_Mo g a_this a_this_isBlock a_this_isSeen a_this_lampX a_this_lampY a_this_right a_this_up a_this_keptRight a_this_keptUp a_this_name a_this_part a_this_codes a_this_above a_this_below a_this_length a_this_isMet v_thrown v_isBounce v_lamps v_squares v_intervals v_isBlock v_isSeen v_lampX v_lampY v_right v_up v_keptRight v_keptUp v_name v_part v_codes v_above v_below v_length v_isMet) sz) (jQv g (jw_Mo g a_this a_this_isBlock a_this_isSeen a_this_lampX a_this_lampY a_this_right a_this_up a_this_keptRight a_this_keptUp a_this_name a_this_part a_this_codes a_this_above a_this_below a_this_length a_this_isMet v_thrown v_isBounce v_lamps v_squares v_intervals v_isBlock v_isSeen v_lampX v_lampY v_right v_up v_keptRight v_keptUp v_name v_part v_codes R v_below v_length v_isMet) (va_A (jw_Mo g a_this a_this_isBlock a_this_isSeen a_this_lampX a_this_lampY a_this_right a_this_up a_this_keptRight a_this_keptUp a_this_name a_this_part a_this_codes a_this_above a_this_below a_this_length a_this_isMet v_thrown v_isBounce v_lamps v_squares v_intervals v_isBlock v_isSeen v_lampX v_lampY v_right v_up v_keptRight v_keptUp v_name v_part v_codes v_above v_below v_length v_isMet) sz)) 0 0 (va_A (jw_Mo g a_this a_this_isBlock a_this_isSeen a_this_lampX a_this_lampY a_this_right a_this_up a_this_keptRight a_this_keptUp a_this_name a_this_part a_this_codes a_this_above a_this_below a_this_length a_this_isMet v_thrown v_isBounce v_lamps v_squares v_intervals v_isBlock v_isSeen v_lampX v_lampY v_right v_up v_keptRight v_keptUp v_name v_part v_codes v_above v_below v_length v_isMet) sz) := by
  refine jm_wv (cc := cX7_laysBehind) (maxL := 5) (by decide +kernel) rfl (Nat.le_of_ble_eq_true rfl) ?_
  intro p e s m below meth c A Q hx hb hml hown hts hK hP hD hA hS fin ls hl
  have hl : lv_has ls 5 [(0, .ref a_this), (1, .ref a_this_above), (2, .int x2)] := hl
  have hown : s.vm.findClass RX7 = some m.cls := hown
  have w_X7 : ∀ w ∈ u_ws RX7 TX7 20, w ∈ wsX7_laysBehind := by decide +kernel
  have w_f214 := hts (.fieldLink RX7 214 "BilliardryModel" "intervals" "I") (by decide +kernel)
  have L17 : ∀ (n : Nat) (z2 : Int32) (z3 : Int32) (z4 : Int32) (v_above : Nat → Int32) (H : Heap) (locs : List Loc), va_P g.1 vwCl (jw_Mo g a_this a_this_isBlock a_this_isSeen a_this_lampX a_this_lampY a_this_right a_this_up a_this_keptRight a_this_keptUp a_this_name a_this_part a_this_codes a_this_above a_this_below a_this_length a_this_isMet v_thrown v_isBounce v_lamps v_squares v_intervals v_isBlock v_isSeen v_lampX v_lampY v_right v_up v_keptRight v_keptUp v_name v_part v_codes v_above v_below v_length v_isMet) H → va_S A s.heap H locs → ∀ (ls : Array Slot), lv_has ls 5 [(1, .ref a_this_above), (2, .int z2), (3, .int z3), (4, .int z4)] → ∀ q, jf_Mo_laysBehind_above_L17 z2 z3 n z4 v_above = some q → (∀ (H : Heap) (locs : List Loc), va_P g.1 vwCl (jw_Mo g a_this a_this_isBlock a_this_isSeen a_this_lampX a_this_lampY a_this_right a_this_up a_this_keptRight a_this_keptUp a_this_name a_this_part a_this_codes a_this_above a_this_below a_this_length a_this_isMet v_thrown v_isBounce v_lamps v_squares v_intervals v_isBlock v_isSeen v_lampX v_lampY v_right v_up v_keptRight v_keptUp v_name v_part v_codes q.2 v_below v_length v_isMet) H → va_S A s.heap H locs → ∀ ls : Array Slot, lv_has ls 5 [(1, .ref a_this_above), (3, .int z3), (4, .int q.1)] → W p l e jr_Mo_laysBehind_above s m ([.ref a_this, .ref a_this_above, .int x2] : List Value).toArray below meth c H locs 0 0 Q (F0 m 43 ls [])) → W p l e jr_Mo_laysBehind_above s m ([.ref a_this, .ref a_this_above, .int x2] : List Value).toArray below meth c H locs 0 0 Q (F0 m 17 ls []) := by
    intro n z2 z3
    induction n with
    | zero =>
      intro z4 v_above H locs hP hS ls hl q hR k
      cases hR
    | succ n ih =>
      intro z4 v_above H locs hP hS ls hl q hR k
      rw [jf_Mo_laysBehind_above_L17] at hR
      refine lv_aload_n hx hb dX7_laysBehind_17 rfl (lv_at hl 0 rfl) ?_
      refine lv_iload hx hb dX7_laysBehind_18 (lv_at hl 3 rfl) ?_
      refine lv_iconst (v := 1) hx hb dX7_laysBehind_20 (by decide) ?_
      refine lv_isub hx hb dX7_laysBehind_21 ?_
      by_cases c_2 : jin (z4 - 1) 6 = true
      case neg => replace hR := Eq.trans (Eq.symm (if_neg c_2)) hR; cases hR
      replace hR := Eq.trans (Eq.symm (if_pos c_2)) hR
      refine va_iald hx hb hK.1 hP 12 0 rfl rfl (jin_in c_2) dX7_laysBehind_22 ?_
      refine lv_iload_n hx hb dX7_laysBehind_23 rfl (lv_at hl 1 rfl) ?_
      refine lv_icmp_eq (tgt := 43) hx hb dX7_laysBehind_24 (by decide) (fun c_3 => ?_) (fun c_3 => ?_)
      · replace hR := Eq.trans (Eq.symm (if_pos c_3)) hR
        cases hR
        exact k _ _ hP hS _ (lv_sub hl [0, 2, 3] rfl)
      · replace hR := Eq.trans (Eq.symm (if_neg c_3)) hR
        refine lv_aload_n hx hb dX7_laysBehind_27 rfl (lv_at hl 0 rfl) ?_
        refine lv_iload hx hb dX7_laysBehind_28 (lv_at hl 3 rfl) ?_
        refine lv_aload_n hx hb dX7_laysBehind_30 rfl (lv_at hl 0 rfl) ?_
        refine lv_iload hx hb dX7_laysBehind_31 (lv_at hl 3 rfl) ?_
        refine lv_iconst (v := 1) hx hb dX7_laysBehind_33 (by decide) ?_
        refine lv_isub hx hb dX7_laysBehind_34 ?_
        by_cases c_4 : jin (z4 - 1) 6 = true
        case neg => replace hR := Eq.trans (Eq.symm (if_neg c_4)) hR; cases hR
        replace hR := Eq.trans (Eq.symm (if_pos c_4)) hR
        refine va_iald hx hb hK.1 hP 12 0 rfl rfl (jin_in c_4) dX7_laysBehind_35 ?_
        by_cases c_5 : jin z4 6 = true
        case neg => replace hR := Eq.trans (Eq.symm (if_neg c_5)) hR; cases hR
        replace hR := Eq.trans (Eq.symm (if_pos c_5)) hR
        refine va_iast hx hb hK.1 hP (jD_to hD rfl) hS 12 0 rfl rfl (jin_in c_5) dX7_laysBehind_36 (fun H locs hP _ hS => ?_)
        have hP : va_P g.1 vwCl (jw_Mo g a_this a_this_isBlock a_this_isSeen a_this_lampX a_this_lampY a_this_right a_this_up a_this_keptRight a_this_keptUp a_this_name a_this_part a_this_codes a_this_above a_this_below a_this_length a_this_isMet v_thrown v_isBounce v_lamps v_squares v_intervals v_isBlock v_isSeen v_lampX v_lampY v_right v_up v_keptRight v_keptUp v_name v_part v_codes (upd v_above z4.toNatClampNeg (v_above (z4 - 1).toNatClampNeg)) v_below v_length v_isMet) H := hP
        refine lv_iinc (v := z4 + (-1)) (lv' := [(4, .int (z4 + (-1))), (1, .ref a_this_above), (2, .int z2), (3, .int z3)]) hx hb dX7_laysBehind_37 hl (k := 3) rfl (by first | rfl | decide) (by decide) rfl (fun ls hl => ?_)
        refine lv_goto (tgt := 17) hx hb dX7_laysBehind_40 (by decide) ?_
        exact ih (z4 + (-1)) (upd v_above z4.toNatClampNeg (v_above (z4 - 1).toNatClampNeg)) _ _ hP hS _ (lv_sub hl [1, 2, 3, 0] rfl) _ hR k
  rw [jf_Mo_laysBehind_above] at hR
  refine lv_aload_n hx hb dX7_laysBehind_0 rfl (lv_at hl 1 rfl) ?_
  refine lv_aload_n hx hb dX7_laysBehind_1 rfl (lv_at hl 0 rfl) ?_
  refine va_get (D := g.1) (ci := 7) (v := .int v_intervals) (C := RX7) (T := TX7) (N := 20) hx hb hts w_X7 hown hK.1 hP 0 rfl rfl 15 (by decide) w_f214 (fun _ h9 => h9) rfl dX7_laysBehind_2 ?_
  refine lv_iconst (v := 1) hx hb dX7_laysBehind_5 (by decide) ?_
  refine lv_isub hx hb dX7_laysBehind_6 ?_
  by_cases c_1 : jin (v_intervals - 1) 6 = true
  case neg => replace hR := Eq.trans (Eq.symm (if_neg c_1)) hR; cases hR
  replace hR := Eq.trans (Eq.symm (if_pos c_1)) hR
  refine va_iald hx hb hK.1 hP 12 0 rfl rfl (jin_in c_1) dX7_laysBehind_7 ?_
  refine jlet_i hR (fun y3_1 hR => ?_)
  try dsimp only at hR
  refine lv_istore_n (lv' := [(3, .int y3_1), (0, .ref a_this), (1, .ref a_this_above), (2, .int x2)]) hx hb dX7_laysBehind_8 rfl hl (by decide) rfl (fun ls hl => ?_)
  refine lv_aload_n hx hb dX7_laysBehind_9 rfl (lv_at hl 1 rfl) ?_
  refine va_get (D := g.1) (ci := 7) (v := .int v_intervals) (C := RX7) (T := TX7) (N := 20) hx hb hts w_X7 hown hK.1 hP 0 rfl rfl 15 (by decide) w_f214 (fun _ h9 => h9) rfl dX7_laysBehind_10 ?_
  refine lv_iconst (v := 1) hx hb dX7_laysBehind_13 (by decide) ?_
  refine lv_isub hx hb dX7_laysBehind_14 ?_
  refine jlet_i hR (fun y4_1 hR => ?_)
  try dsimp only at hR
  refine lv_istore (lv' := [(4, .int y4_1), (3, .int y3_1), (0, .ref a_this), (1, .ref a_this_above), (2, .int x2)]) hx hb dX7_laysBehind_15 hl (by decide) rfl (fun ls hl => ?_)
  obtain ⟨q_1, hq_1, hR⟩ := jbind hR
  try dsimp only at hR
  refine L17 jF x2 y3_1 y4_1 v_above _ _ hP hS _ (lv_sub hl [3, 4, 1, 0] rfl) _ hq_1 (fun H locs hP hS ls hl => ?_)
  refine lv_aload_n hx hb dX7_laysBehind_43 rfl (lv_at hl 0 rfl) ?_
  refine lv_iload hx hb dX7_laysBehind_44 (lv_at hl 2 rfl) ?_
  refine lv_iload_n hx hb dX7_laysBehind_46 rfl (lv_at hl 1 rfl) ?_
  by_cases c_6 : jin q_1.1 6 = true
  case neg => replace hR := Eq.trans (Eq.symm (if_neg c_6)) hR; cases hR
  replace hR := Eq.trans (Eq.symm (if_pos c_6)) hR
  refine va_iast hx hb hK.1 hP (jD_to hD rfl) hS 12 0 rfl rfl (jin_in c_6) dX7_laysBehind_47 (fun H locs hP _ hS => ?_)
  have hP : va_P g.1 vwCl (jw_Mo g a_this a_this_isBlock a_this_isSeen a_this_lampX a_this_lampY a_this_right a_this_up a_this_keptRight a_this_keptUp a_this_name a_this_part a_this_codes a_this_above a_this_below a_this_length a_this_isMet v_thrown v_isBounce v_lamps v_squares v_intervals v_isBlock v_isSeen v_lampX v_lampY v_right v_up v_keptRight v_keptUp v_name v_part v_codes (upd q_1.2 q_1.1.toNatClampNeg y3_1) v_below v_length v_isMet) H := hP
  obtain rfl := (Option.some.inj hR)
  exact fin _ _ _ _ hP hS dX7_laysBehind_48
def jf_Mo_induce_b150 (v_thrown : Int32) (v_intervals : Int32) (v_above : Nat → Int32) (v_below : Nat → Int32) (v_length : Nat → Int32) : Option (Int32 × Int32 × (Nat → Int32) × (Nat → Int32) × (Nat → Int32)) :=
  Option.bind (jf_Mo_sum v_intervals v_length) (fun q_2 => some (q_2, v_thrown, v_above, v_below, v_length))
def jf_Mo_induce_b72 (v_thrown : Int32) (v_intervals : Int32) (v_above : Nat → Int32) (v_below : Nat → Int32) (v_length : Nat → Int32) (z1 : Int32) (z2 : Int32) (s1 : Int32) : Option (Int32 × Int32 × (Nat → Int32) × (Nat → Int32) × (Nat → Int32)) :=
  if s1 ≤ 0 then (if jin z1 6 = true then (if jin z2 6 = true then (if v_length z1.toNatClampNeg ≤ v_length z2.toNatClampNeg then (if jin z2 6 = true then (if jin z1 6 = true then (if jin z2 6 = true then (Option.bind (jf_Mo_laysBehind_above v_intervals v_above z2) (fun q_1 => jf_Mo_induce_b150 s1 v_intervals q_1 v_below (upd v_length z2.toNatClampNeg ((v_length z2.toNatClampNeg) - (v_length z1.toNatClampNeg))))) else none) else none) else none) else (if jin z1 6 = true then (if jin z2 6 = true then (if jin z1 6 = true then (Option.bind (jf_Mo_laysBehind_below v_intervals v_below z1) (fun q_3 => jf_Mo_induce_b150 s1 v_intervals v_above q_3 (upd v_length z1.toNatClampNeg ((v_length z1.toNatClampNeg) - (v_length z2.toNatClampNeg))))) else none) else none) else none)) else none) else none) else (some (0, s1, v_above, v_below, v_length))
def jf_Mo_induce_b67 (v_thrown : Int32) (v_intervals : Int32) (v_above : Nat → Int32) (v_below : Nat → Int32) (v_length : Nat → Int32) (z1 : Int32) (z2 : Int32) : Option (Int32 × Int32 × (Nat → Int32) × (Nat → Int32) × (Nat → Int32)) :=
  jf_Mo_induce_b72 v_thrown v_intervals v_above v_below v_length z1 z2 1
def jf_Mo_induce_b45 (v_thrown : Int32) (v_intervals : Int32) (v_above : Nat → Int32) (v_below : Nat → Int32) (v_length : Nat → Int32) (z1 : Int32) (s0 : Int32) : Option (Int32 × Int32 × (Nat → Int32) × (Nat → Int32) × (Nat → Int32)) :=
  if z1 = s0 then (jf_Mo_induce_b67 v_thrown v_intervals v_above v_below v_length z1 s0) else (if jin z1 6 = true then (if jin s0 6 = true then (if v_length z1.toNatClampNeg = v_length s0.toNatClampNeg then (jf_Mo_induce_b67 v_thrown v_intervals v_above v_below v_length z1 s0) else (jf_Mo_induce_b72 v_thrown v_intervals v_above v_below v_length z1 s0 0)) else none) else none)
def jf_Mo_induce_b22 (v_thrown : Int32) (v_intervals : Int32) (v_above : Nat → Int32) (v_below : Nat → Int32) (v_length : Nat → Int32) (s0 : Int32) : Option (Int32 × Int32 × (Nat → Int32) × (Nat → Int32) × (Nat → Int32)) :=
  if v_intervals = 0 then (jf_Mo_induce_b45 v_thrown v_intervals v_above v_below v_length s0 0) else (if jin (v_intervals - 1) 6 = true then (jf_Mo_induce_b45 v_thrown v_intervals v_above v_below v_length s0 (v_below (v_intervals - 1).toNatClampNeg)) else none)
def jf_Mo_induce (v_thrown : Int32) (v_intervals : Int32) (v_above : Nat → Int32) (v_below : Nat → Int32) (v_length : Nat → Int32) : Option (Int32 × Int32 × (Nat → Int32) × (Nat → Int32) × (Nat → Int32)) :=
  if v_intervals = 0 then (jf_Mo_induce_b22 v_thrown v_intervals v_above v_below v_length 0) else (if jin (v_intervals - 1) 6 = true then (jf_Mo_induce_b22 v_thrown v_intervals v_above v_below v_length (v_above (v_intervals - 1).toNatClampNeg)) else none)
abbrev jr_Mo_induce : Room := { frames := 1, cells := 0, slots := 0, locals := 24 }
set_option maxRecDepth 100000 in
set_option maxHeartbeats 4000000 in
theorem jc_Mo_induce (l : Launch) (g : jG) (a_this a_this_isBlock a_this_isSeen a_this_lampX a_this_lampY a_this_right a_this_up a_this_keptRight a_this_keptUp a_this_name a_this_part a_this_codes a_this_above a_this_below a_this_length a_this_isMet : Nat) (v_thrown : Int32) (v_isBounce : Int32) (v_lamps : Int32) (v_squares : Int32) (v_intervals : Int32) (v_isBlock : Nat → Int32) (v_isSeen : Nat → Int32) (v_lampX : Nat → Int32) (v_lampY : Nat → Int32) (v_right : Nat → Int32) (v_up : Nat → Int32) (v_keptRight : Nat → Int32) (v_keptUp : Nat → Int32) (v_name : Nat → Int32) (v_part : Nat → Int32) (v_codes : Nat → Int32) (v_above : Nat → Int32) (v_below : Nat → Int32) (v_length : Nat → Int32) (v_isMet : Nat → Int32) (R : Int32 × Int32 × (Nat → Int32) × (Nat → Int32) × (Nat → Int32)) (hR : jf_Mo_induce v_thrown v_intervals v_above v_below v_length = some R) (sz : Nat) : Met l yX7_induce wsX7_induce jr_Mo_induce (jPw g [.ref a_this] (jw_Mo g a_this a_this_isBlock a_this_isSeen a_this_lampX a_this_lampY a_this_right a_this_up a_this_keptRight a_this_keptUp a_this_name a_this_part a_this_codes a_this_above a_this_below a_this_length a_this_isMet v_thrown v_isBounce v_lamps v_squares v_intervals v_isBlock v_isSeen v_lampX v_lampY v_right v_up v_keptRight v_keptUp v_name v_part v_codes v_above v_below v_length v_isMet) sz) (jQi g R.1 (jw_Mo g a_this a_this_isBlock a_this_isSeen a_this_lampX a_this_lampY a_this_right a_this_up a_this_keptRight a_this_keptUp a_this_name a_this_part a_this_codes a_this_above a_this_below a_this_length a_this_isMet R.2.1 v_isBounce v_lamps v_squares v_intervals v_isBlock v_isSeen v_lampX v_lampY v_right v_up v_keptRight v_keptUp v_name v_part v_codes R.2.2.1 R.2.2.2.1 R.2.2.2.2 v_isMet) (va_A (jw_Mo g a_this a_this_isBlock a_this_isSeen a_this_lampX a_this_lampY a_this_right a_this_up a_this_keptRight a_this_keptUp a_this_name a_this_part a_this_codes a_this_above a_this_below a_this_length a_this_isMet v_thrown v_isBounce v_lamps v_squares v_intervals v_isBlock v_isSeen v_lampX v_lampY v_right v_up v_keptRight v_keptUp v_name v_part v_codes v_above v_below v_length v_isMet) sz)) 0 0 (va_A (jw_Mo g a_this a_this_isBlock a_this_isSeen a_this_lampX a_this_lampY a_this_right a_this_up a_this_keptRight a_this_keptUp a_this_name a_this_part a_this_codes a_this_above a_this_below a_this_length a_this_isMet v_thrown v_isBounce v_lamps v_squares v_intervals v_isBlock v_isSeen v_lampX v_lampY v_right v_up v_keptRight v_keptUp v_name v_part v_codes v_above v_below v_length v_isMet) sz) := by
  refine jm_wi (cc := cX7_induce) (maxL := 3) (by decide +kernel) rfl (Nat.le_of_ble_eq_true rfl) ?_
  intro p e s m below meth c A Q hx hb hml hown hts hK hP hD hA hS fin ls hl
  have hl : lv_has ls 3 [(0, .ref a_this)] := hl
  have hown : s.vm.findClass RX7 = some m.cls := hown
  have w_X7 : ∀ w ∈ u_ws RX7 TX7 20, w ∈ wsX7_induce := by decide +kernel
  have w_f214 := hts (.fieldLink RX7 214 "BilliardryModel" "intervals" "I") (by decide +kernel)
  have w_f48 := hts (.fieldLink RX7 48 "BilliardryModel" "above" "[I") (by decide +kernel)
  have w_f51 := hts (.fieldLink RX7 51 "BilliardryModel" "below" "[I") (by decide +kernel)
  have w_f60 := hts (.fieldLink RX7 60 "BilliardryModel" "thrown" "I") (by decide +kernel)
  have w_f54 := hts (.fieldLink RX7 54 "BilliardryModel" "length" "[I") (by decide +kernel)
  have J150 : ∀ (v_thrown : Int32) (v_above : Nat → Int32) (v_below : Nat → Int32) (v_length : Nat → Int32) (H : Heap) (locs : List Loc), va_P g.1 vwCl (jw_Mo g a_this a_this_isBlock a_this_isSeen a_this_lampX a_this_lampY a_this_right a_this_up a_this_keptRight a_this_keptUp a_this_name a_this_part a_this_codes a_this_above a_this_below a_this_length a_this_isMet v_thrown v_isBounce v_lamps v_squares v_intervals v_isBlock v_isSeen v_lampX v_lampY v_right v_up v_keptRight v_keptUp v_name v_part v_codes v_above v_below v_length v_isMet) H → va_S A s.heap H locs → ∀ (ls : Array Slot), lv_has ls 3 [(0, .ref a_this)] → jf_Mo_induce_b150 v_thrown v_intervals v_above v_below v_length = some R → W p l e jr_Mo_induce s m ([.ref a_this] : List Value).toArray below meth c H locs 0 0 Q (F0 m 150 ls []) := by
    intro v_thrown v_above v_below v_length H locs hP hS ls hl hR
    rw [jf_Mo_induce_b150] at hR
    refine lv_aload_n hx hb dX7_induce_150 rfl (lv_at hl 0 rfl) ?_
    obtain ⟨q_2, hq_2, hR⟩ := jbind hR
    try dsimp only at hR
    refine jcall_ri (va_runV (As := []) (rest := []) ⟨hx, hb, hml, hown, hts⟩ (jc_Mo_sum l g a_this a_this_isBlock a_this_isSeen a_this_lampX a_this_lampY a_this_right a_this_up a_this_keptRight a_this_keptUp a_this_name a_this_part a_this_codes a_this_above a_this_below a_this_length a_this_isMet v_thrown v_isBounce v_lamps v_squares v_intervals v_isBlock v_isSeen v_lampX v_lampY v_right v_up v_keptRight v_keptUp v_name v_part v_codes v_above v_below v_length v_isMet _ hq_2) (cwV 0 hts gX7_induce_X7_sum rfl rfl rfl (by decide +kernel) ⟨Nat.le_of_ble_eq_true rfl, Nat.le_of_ble_eq_true rfl⟩) (jpr_v hK hP (ci := 7) (q0 := 0) rfl rfl) rfl rfl hl.1 rfl (lv_room (Nat.le_of_ble_eq_true rfl)) dX7_induce_151 ⟨Nat.zero_le _, Nat.zero_le _⟩) ?_
    obtain rfl := (Option.some.inj hR)
    exact fin _ _ _ _ _ rfl hP hS dX7_induce_154
  have J72 : ∀ (v_thrown : Int32) (v_above : Nat → Int32) (v_below : Nat → Int32) (v_length : Nat → Int32) (z1 : Int32) (z2 : Int32) (s1 : Int32) (H : Heap) (locs : List Loc), va_P g.1 vwCl (jw_Mo g a_this a_this_isBlock a_this_isSeen a_this_lampX a_this_lampY a_this_right a_this_up a_this_keptRight a_this_keptUp a_this_name a_this_part a_this_codes a_this_above a_this_below a_this_length a_this_isMet v_thrown v_isBounce v_lamps v_squares v_intervals v_isBlock v_isSeen v_lampX v_lampY v_right v_up v_keptRight v_keptUp v_name v_part v_codes v_above v_below v_length v_isMet) H → va_S A s.heap H locs → ∀ (ls : Array Slot), lv_has ls 3 [(0, .ref a_this), (1, .int z1), (2, .int z2)] → jf_Mo_induce_b72 v_thrown v_intervals v_above v_below v_length z1 z2 s1 = some R → W p l e jr_Mo_induce s m ([.ref a_this] : List Value).toArray below meth c H locs 0 0 Q (F0 m 72 ls [.int s1, .ref a_this]) := by
    intro v_thrown v_above v_below v_length z1 z2 s1 H locs hP hS ls hl hR
    rw [jf_Mo_induce_b72] at hR
    refine va_put (D := g.1) (ci := 7) (v := .int s1) (ty := .int) (C := RX7) (T := TX7) (N := 20) hx hb hts w_X7 tyX7 tyX7_ok nmX7 hown hK.1 hP (jD_to hD rfl) hS 0 rfl rfl 0 (by decide) w_f60 (fun _ h9 => h9) rfl (by decide +kernel) rfl rfl (Nat.le_of_ble_eq_true rfl) dX7_induce_72 (fun H locs hP _ hS => ?_)
    have hP : va_P g.1 vwCl (jw_Mo g a_this a_this_isBlock a_this_isSeen a_this_lampX a_this_lampY a_this_right a_this_up a_this_keptRight a_this_keptUp a_this_name a_this_part a_this_codes a_this_above a_this_below a_this_length a_this_isMet s1 v_isBounce v_lamps v_squares v_intervals v_isBlock v_isSeen v_lampX v_lampY v_right v_up v_keptRight v_keptUp v_name v_part v_codes v_above v_below v_length v_isMet) H := hP
    refine lv_aload_n hx hb dX7_induce_75 rfl (lv_at hl 0 rfl) ?_
    refine va_get (D := g.1) (ci := 7) (v := .int s1) (C := RX7) (T := TX7) (N := 20) hx hb hts w_X7 hown hK.1 hP 0 rfl rfl 0 (by decide) w_f60 (fun _ h9 => h9) rfl dX7_induce_76 ?_
    refine lv_if_le (tgt := 84) hx hb dX7_induce_79 (by decide) (fun c_6 => ?_) (fun c_6 => ?_)
    · replace hR := Eq.trans (Eq.symm (if_pos c_6)) hR
      refine lv_aload_n hx hb dX7_induce_84 rfl (lv_at hl 0 rfl) ?_
      refine va_get (D := g.1) (ci := 7) (v := .ref a_this_length) (C := RX7) (T := TX7) (N := 20) hx hb hts w_X7 hown hK.1 hP 0 rfl rfl 18 (by decide) w_f54 (fun _ h9 => h9) rfl dX7_induce_85 ?_
      refine lv_iload_n hx hb dX7_induce_88 rfl (lv_at hl 1 rfl) ?_
      by_cases c_7 : jin z1 6 = true
      case neg => replace hR := Eq.trans (Eq.symm (if_neg c_7)) hR; cases hR
      replace hR := Eq.trans (Eq.symm (if_pos c_7)) hR
      refine va_iald hx hb hK.1 hP 14 0 rfl rfl (jin_in c_7) dX7_induce_89 ?_
      refine lv_aload_n hx hb dX7_induce_90 rfl (lv_at hl 0 rfl) ?_
      refine va_get (D := g.1) (ci := 7) (v := .ref a_this_length) (C := RX7) (T := TX7) (N := 20) hx hb hts w_X7 hown hK.1 hP 0 rfl rfl 18 (by decide) w_f54 (fun _ h9 => h9) rfl dX7_induce_91 ?_
      refine lv_iload_n hx hb dX7_induce_94 rfl (lv_at hl 2 rfl) ?_
      by_cases c_8 : jin z2 6 = true
      case neg => replace hR := Eq.trans (Eq.symm (if_neg c_8)) hR; cases hR
      replace hR := Eq.trans (Eq.symm (if_pos c_8)) hR
      refine va_iald hx hb hK.1 hP 14 0 rfl rfl (jin_in c_8) dX7_induce_95 ?_
      refine lv_icmp_le (tgt := 126) hx hb dX7_induce_96 (by decide) (fun c_9 => ?_) (fun c_9 => ?_)
      · replace hR := Eq.trans (Eq.symm (if_pos c_9)) hR
        refine lv_aload_n hx hb dX7_induce_126 rfl (lv_at hl 0 rfl) ?_
        refine va_get (D := g.1) (ci := 7) (v := .ref a_this_length) (C := RX7) (T := TX7) (N := 20) hx hb hts w_X7 hown hK.1 hP 0 rfl rfl 18 (by decide) w_f54 (fun _ h9 => h9) rfl dX7_induce_127 ?_
        refine lv_iload_n hx hb dX7_induce_130 rfl (lv_at hl 2 rfl) ?_
        refine lv_dup2_11 hx hb dX7_induce_131 rfl rfl ?_
        by_cases c_10 : jin z2 6 = true
        case neg => replace hR := Eq.trans (Eq.symm (if_neg c_10)) hR; cases hR
        replace hR := Eq.trans (Eq.symm (if_pos c_10)) hR
        refine va_iald hx hb hK.1 hP 14 0 rfl rfl (jin_in c_10) dX7_induce_132 ?_
        refine lv_aload_n hx hb dX7_induce_133 rfl (lv_at hl 0 rfl) ?_
        refine va_get (D := g.1) (ci := 7) (v := .ref a_this_length) (C := RX7) (T := TX7) (N := 20) hx hb hts w_X7 hown hK.1 hP 0 rfl rfl 18 (by decide) w_f54 (fun _ h9 => h9) rfl dX7_induce_134 ?_
        refine lv_iload_n hx hb dX7_induce_137 rfl (lv_at hl 1 rfl) ?_
        by_cases c_11 : jin z1 6 = true
        case neg => replace hR := Eq.trans (Eq.symm (if_neg c_11)) hR; cases hR
        replace hR := Eq.trans (Eq.symm (if_pos c_11)) hR
        refine va_iald hx hb hK.1 hP 14 0 rfl rfl (jin_in c_11) dX7_induce_138 ?_
        refine lv_isub hx hb dX7_induce_139 ?_
        by_cases c_12 : jin z2 6 = true
        case neg => replace hR := Eq.trans (Eq.symm (if_neg c_12)) hR; cases hR
        replace hR := Eq.trans (Eq.symm (if_pos c_12)) hR
        refine va_iast hx hb hK.1 hP (jD_to hD rfl) hS 14 0 rfl rfl (jin_in c_12) dX7_induce_140 (fun H locs hP _ hS => ?_)
        have hP : va_P g.1 vwCl (jw_Mo g a_this a_this_isBlock a_this_isSeen a_this_lampX a_this_lampY a_this_right a_this_up a_this_keptRight a_this_keptUp a_this_name a_this_part a_this_codes a_this_above a_this_below a_this_length a_this_isMet s1 v_isBounce v_lamps v_squares v_intervals v_isBlock v_isSeen v_lampX v_lampY v_right v_up v_keptRight v_keptUp v_name v_part v_codes v_above v_below (upd v_length z2.toNatClampNeg ((v_length z2.toNatClampNeg) - (v_length z1.toNatClampNeg))) v_isMet) H := hP
        refine lv_aload_n hx hb dX7_induce_141 rfl (lv_at hl 0 rfl) ?_
        refine lv_aload_n hx hb dX7_induce_142 rfl (lv_at hl 0 rfl) ?_
        refine va_get (D := g.1) (ci := 7) (v := .ref a_this_above) (C := RX7) (T := TX7) (N := 20) hx hb hts w_X7 hown hK.1 hP 0 rfl rfl 16 (by decide) w_f48 (fun _ h9 => h9) rfl dX7_induce_143 ?_
        refine lv_iload_n hx hb dX7_induce_146 rfl (lv_at hl 2 rfl) ?_
        obtain ⟨q_1, hq_1, hR⟩ := jbind hR
        try dsimp only at hR
        refine jcall_wv (ws' := jw_Mo g a_this a_this_isBlock a_this_isSeen a_this_lampX a_this_lampY a_this_right a_this_up a_this_keptRight a_this_keptUp a_this_name a_this_part a_this_codes a_this_above a_this_below a_this_length a_this_isMet s1 v_isBounce v_lamps v_squares v_intervals v_isBlock v_isSeen v_lampX v_lampY v_right v_up v_keptRight v_keptUp v_name v_part v_codes q_1 v_below (upd v_length z2.toNatClampNeg ((v_length z2.toNatClampNeg) - (v_length z1.toNatClampNeg))) v_isMet) (va_runV (As := [.ref a_this_above, .int z2]) (rest := []) ⟨hx, hb, hml, hown, hts⟩ (jc_Mo_laysBehind_above l g a_this a_this_isBlock a_this_isSeen a_this_lampX a_this_lampY a_this_right a_this_up a_this_keptRight a_this_keptUp a_this_name a_this_part a_this_codes a_this_above a_this_below a_this_length a_this_isMet s1 v_isBounce v_lamps v_squares v_intervals v_isBlock v_isSeen v_lampX v_lampY v_right v_up v_keptRight v_keptUp v_name v_part v_codes v_above v_below (upd v_length z2.toNatClampNeg ((v_length z2.toNatClampNeg) - (v_length z1.toNatClampNeg))) v_isMet z2 _ hq_1 _) (cwV 2 hts gX7_induce_X7_laysBehind rfl rfl rfl (by decide +kernel) ⟨Nat.le_of_ble_eq_true rfl, Nat.le_of_ble_eq_true rfl⟩) (jpw_v hK hP (jD_to hD rfl) (ci := 7) (q0 := 0) rfl rfl) rfl rfl hl.1 rfl (lv_room (Nat.le_of_ble_eq_true rfl)) dX7_induce_147 ⟨Nat.zero_le _, Nat.zero_le _⟩) hP (jD_to hD rfl) hS hA [0, 1, 2, 3, 4, 5, 6, 7, 8, 9, 10, 11, 12, 13, 14, 15] [] [0, 1, 2, 3, 4, 5, 6, 7, 8, 9, 10, 11, 12, 13, 14, 15] rfl (by decide) rfl (fun H locs hP hS => ?_)
        exact J150 s1 q_1 v_below (upd v_length z2.toNatClampNeg ((v_length z2.toNatClampNeg) - (v_length z1.toNatClampNeg))) _ _ hP hS _ (lv_sub hl [0] rfl) hR
      · replace hR := Eq.trans (Eq.symm (if_neg c_9)) hR
        refine lv_aload_n hx hb dX7_induce_99 rfl (lv_at hl 0 rfl) ?_
        refine va_get (D := g.1) (ci := 7) (v := .ref a_this_length) (C := RX7) (T := TX7) (N := 20) hx hb hts w_X7 hown hK.1 hP 0 rfl rfl 18 (by decide) w_f54 (fun _ h9 => h9) rfl dX7_induce_100 ?_
        refine lv_iload_n hx hb dX7_induce_103 rfl (lv_at hl 1 rfl) ?_
        refine lv_dup2_11 hx hb dX7_induce_104 rfl rfl ?_
        by_cases c_13 : jin z1 6 = true
        case neg => replace hR := Eq.trans (Eq.symm (if_neg c_13)) hR; cases hR
        replace hR := Eq.trans (Eq.symm (if_pos c_13)) hR
        refine va_iald hx hb hK.1 hP 14 0 rfl rfl (jin_in c_13) dX7_induce_105 ?_
        refine lv_aload_n hx hb dX7_induce_106 rfl (lv_at hl 0 rfl) ?_
        refine va_get (D := g.1) (ci := 7) (v := .ref a_this_length) (C := RX7) (T := TX7) (N := 20) hx hb hts w_X7 hown hK.1 hP 0 rfl rfl 18 (by decide) w_f54 (fun _ h9 => h9) rfl dX7_induce_107 ?_
        refine lv_iload_n hx hb dX7_induce_110 rfl (lv_at hl 2 rfl) ?_
        by_cases c_14 : jin z2 6 = true
        case neg => replace hR := Eq.trans (Eq.symm (if_neg c_14)) hR; cases hR
        replace hR := Eq.trans (Eq.symm (if_pos c_14)) hR
        refine va_iald hx hb hK.1 hP 14 0 rfl rfl (jin_in c_14) dX7_induce_111 ?_
        refine lv_isub hx hb dX7_induce_112 ?_
        by_cases c_15 : jin z1 6 = true
        case neg => replace hR := Eq.trans (Eq.symm (if_neg c_15)) hR; cases hR
        replace hR := Eq.trans (Eq.symm (if_pos c_15)) hR
        refine va_iast hx hb hK.1 hP (jD_to hD rfl) hS 14 0 rfl rfl (jin_in c_15) dX7_induce_113 (fun H locs hP _ hS => ?_)
        have hP : va_P g.1 vwCl (jw_Mo g a_this a_this_isBlock a_this_isSeen a_this_lampX a_this_lampY a_this_right a_this_up a_this_keptRight a_this_keptUp a_this_name a_this_part a_this_codes a_this_above a_this_below a_this_length a_this_isMet s1 v_isBounce v_lamps v_squares v_intervals v_isBlock v_isSeen v_lampX v_lampY v_right v_up v_keptRight v_keptUp v_name v_part v_codes v_above v_below (upd v_length z1.toNatClampNeg ((v_length z1.toNatClampNeg) - (v_length z2.toNatClampNeg))) v_isMet) H := hP
        refine lv_aload_n hx hb dX7_induce_114 rfl (lv_at hl 0 rfl) ?_
        refine lv_aload_n hx hb dX7_induce_115 rfl (lv_at hl 0 rfl) ?_
        refine va_get (D := g.1) (ci := 7) (v := .ref a_this_below) (C := RX7) (T := TX7) (N := 20) hx hb hts w_X7 hown hK.1 hP 0 rfl rfl 17 (by decide) w_f51 (fun _ h9 => h9) rfl dX7_induce_116 ?_
        refine lv_iload_n hx hb dX7_induce_119 rfl (lv_at hl 1 rfl) ?_
        obtain ⟨q_3, hq_3, hR⟩ := jbind hR
        try dsimp only at hR
        refine jcall_wv (ws' := jw_Mo g a_this a_this_isBlock a_this_isSeen a_this_lampX a_this_lampY a_this_right a_this_up a_this_keptRight a_this_keptUp a_this_name a_this_part a_this_codes a_this_above a_this_below a_this_length a_this_isMet s1 v_isBounce v_lamps v_squares v_intervals v_isBlock v_isSeen v_lampX v_lampY v_right v_up v_keptRight v_keptUp v_name v_part v_codes v_above q_3 (upd v_length z1.toNatClampNeg ((v_length z1.toNatClampNeg) - (v_length z2.toNatClampNeg))) v_isMet) (va_runV (As := [.ref a_this_below, .int z1]) (rest := []) ⟨hx, hb, hml, hown, hts⟩ (jc_Mo_laysBehind_below l g a_this a_this_isBlock a_this_isSeen a_this_lampX a_this_lampY a_this_right a_this_up a_this_keptRight a_this_keptUp a_this_name a_this_part a_this_codes a_this_above a_this_below a_this_length a_this_isMet s1 v_isBounce v_lamps v_squares v_intervals v_isBlock v_isSeen v_lampX v_lampY v_right v_up v_keptRight v_keptUp v_name v_part v_codes v_above v_below (upd v_length z1.toNatClampNeg ((v_length z1.toNatClampNeg) - (v_length z2.toNatClampNeg))) v_isMet z1 _ hq_3 _) (cwV 2 hts gX7_induce_X7_laysBehind rfl rfl rfl (by decide +kernel) ⟨Nat.le_of_ble_eq_true rfl, Nat.le_of_ble_eq_true rfl⟩) (jpw_v hK hP (jD_to hD rfl) (ci := 7) (q0 := 0) rfl rfl) rfl rfl hl.1 rfl (lv_room (Nat.le_of_ble_eq_true rfl)) dX7_induce_120 ⟨Nat.zero_le _, Nat.zero_le _⟩) hP (jD_to hD rfl) hS hA [0, 1, 2, 3, 4, 5, 6, 7, 8, 9, 10, 11, 12, 13, 14, 15] [] [0, 1, 2, 3, 4, 5, 6, 7, 8, 9, 10, 11, 12, 13, 14, 15] rfl (by decide) rfl (fun H locs hP hS => ?_)
        refine lv_goto (tgt := 150) hx hb dX7_induce_123 (by decide) ?_
        exact J150 s1 v_above q_3 (upd v_length z1.toNatClampNeg ((v_length z1.toNatClampNeg) - (v_length z2.toNatClampNeg))) _ _ hP hS _ (lv_sub hl [0] rfl) hR
    · replace hR := Eq.trans (Eq.symm (if_neg c_6)) hR
      refine lv_iconst (v := 0) hx hb dX7_induce_82 (by decide) ?_
      obtain rfl := (Option.some.inj hR)
      exact fin _ _ _ _ _ rfl hP hS dX7_induce_83
  have J67 : ∀ (v_thrown : Int32) (v_above : Nat → Int32) (v_below : Nat → Int32) (v_length : Nat → Int32) (z1 : Int32) (z2 : Int32) (H : Heap) (locs : List Loc), va_P g.1 vwCl (jw_Mo g a_this a_this_isBlock a_this_isSeen a_this_lampX a_this_lampY a_this_right a_this_up a_this_keptRight a_this_keptUp a_this_name a_this_part a_this_codes a_this_above a_this_below a_this_length a_this_isMet v_thrown v_isBounce v_lamps v_squares v_intervals v_isBlock v_isSeen v_lampX v_lampY v_right v_up v_keptRight v_keptUp v_name v_part v_codes v_above v_below v_length v_isMet) H → va_S A s.heap H locs → ∀ (ls : Array Slot), lv_has ls 3 [(0, .ref a_this), (1, .int z1), (2, .int z2)] → jf_Mo_induce_b67 v_thrown v_intervals v_above v_below v_length z1 z2 = some R → W p l e jr_Mo_induce s m ([.ref a_this] : List Value).toArray below meth c H locs 0 0 Q (F0 m 67 ls [.ref a_this]) := by
    intro v_thrown v_above v_below v_length z1 z2 H locs hP hS ls hl hR
    rw [jf_Mo_induce_b67] at hR
    refine lv_iconst (v := 1) hx hb dX7_induce_67 (by decide) ?_
    refine lv_goto (tgt := 72) hx hb dX7_induce_68 (by decide) ?_
    exact J72 v_thrown v_above v_below v_length z1 z2 1 _ _ hP hS _ (lv_sub hl [0, 1, 2] rfl) hR
  have J45 : ∀ (v_thrown : Int32) (v_above : Nat → Int32) (v_below : Nat → Int32) (v_length : Nat → Int32) (z1 : Int32) (s0 : Int32) (H : Heap) (locs : List Loc), va_P g.1 vwCl (jw_Mo g a_this a_this_isBlock a_this_isSeen a_this_lampX a_this_lampY a_this_right a_this_up a_this_keptRight a_this_keptUp a_this_name a_this_part a_this_codes a_this_above a_this_below a_this_length a_this_isMet v_thrown v_isBounce v_lamps v_squares v_intervals v_isBlock v_isSeen v_lampX v_lampY v_right v_up v_keptRight v_keptUp v_name v_part v_codes v_above v_below v_length v_isMet) H → va_S A s.heap H locs → ∀ (ls : Array Slot), lv_has ls 3 [(0, .ref a_this), (1, .int z1)] → jf_Mo_induce_b45 v_thrown v_intervals v_above v_below v_length z1 s0 = some R → W p l e jr_Mo_induce s m ([.ref a_this] : List Value).toArray below meth c H locs 0 0 Q (F0 m 45 ls [.int s0]) := by
    intro v_thrown v_above v_below v_length z1 s0 H locs hP hS ls hl hR
    rw [jf_Mo_induce_b45] at hR
    refine lv_istore_n (lv' := [(2, .int s0), (0, .ref a_this), (1, .int z1)]) hx hb dX7_induce_45 rfl hl (by decide) rfl (fun ls hl => ?_)
    refine lv_aload_n hx hb dX7_induce_46 rfl (lv_at hl 1 rfl) ?_
    refine lv_iload_n hx hb dX7_induce_47 rfl (lv_at hl 2 rfl) ?_
    refine lv_iload_n hx hb dX7_induce_48 rfl (lv_at hl 0 rfl) ?_
    refine lv_icmp_eq (tgt := 67) hx hb dX7_induce_49 (by decide) (fun c_5 => ?_) (fun c_5 => ?_)
    · replace hR := Eq.trans (Eq.symm (if_pos c_5)) hR
      exact J67 v_thrown v_above v_below v_length z1 s0 _ _ hP hS _ (lv_sub hl [1, 2, 0] rfl) hR
    · replace hR := Eq.trans (Eq.symm (if_neg c_5)) hR
      refine lv_aload_n hx hb dX7_induce_52 rfl (lv_at hl 1 rfl) ?_
      refine va_get (D := g.1) (ci := 7) (v := .ref a_this_length) (C := RX7) (T := TX7) (N := 20) hx hb hts w_X7 hown hK.1 hP 0 rfl rfl 18 (by decide) w_f54 (fun _ h9 => h9) rfl dX7_induce_53 ?_
      refine lv_iload_n hx hb dX7_induce_56 rfl (lv_at hl 2 rfl) ?_
      by_cases c_16 : jin z1 6 = true
      case neg => replace hR := Eq.trans (Eq.symm (if_neg c_16)) hR; cases hR
      replace hR := Eq.trans (Eq.symm (if_pos c_16)) hR
      refine va_iald hx hb hK.1 hP 14 0 rfl rfl (jin_in c_16) dX7_induce_57 ?_
      refine lv_aload_n hx hb dX7_induce_58 rfl (lv_at hl 1 rfl) ?_
      refine va_get (D := g.1) (ci := 7) (v := .ref a_this_length) (C := RX7) (T := TX7) (N := 20) hx hb hts w_X7 hown hK.1 hP 0 rfl rfl 18 (by decide) w_f54 (fun _ h9 => h9) rfl dX7_induce_59 ?_
      refine lv_iload_n hx hb dX7_induce_62 rfl (lv_at hl 0 rfl) ?_
      by_cases c_17 : jin s0 6 = true
      case neg => replace hR := Eq.trans (Eq.symm (if_neg c_17)) hR; cases hR
      replace hR := Eq.trans (Eq.symm (if_pos c_17)) hR
      refine va_iald hx hb hK.1 hP 14 0 rfl rfl (jin_in c_17) dX7_induce_63 ?_
      refine lv_icmp_ne (tgt := 71) hx hb dX7_induce_64 (by decide) (fun c_18 => ?_) (fun c_18 => ?_)
      · replace hR := Eq.trans (Eq.symm (if_neg c_18)) hR
        refine lv_iconst (v := 0) hx hb dX7_induce_71 (by decide) ?_
        exact J72 v_thrown v_above v_below v_length z1 s0 0 _ _ hP hS _ (lv_sub hl [1, 2, 0] rfl) hR
      · replace hR := Eq.trans (Eq.symm (if_pos c_18)) hR
        exact J67 v_thrown v_above v_below v_length z1 s0 _ _ hP hS _ (lv_sub hl [1, 2, 0] rfl) hR
  have J22 : ∀ (v_thrown : Int32) (v_above : Nat → Int32) (v_below : Nat → Int32) (v_length : Nat → Int32) (s0 : Int32) (H : Heap) (locs : List Loc), va_P g.1 vwCl (jw_Mo g a_this a_this_isBlock a_this_isSeen a_this_lampX a_this_lampY a_this_right a_this_up a_this_keptRight a_this_keptUp a_this_name a_this_part a_this_codes a_this_above a_this_below a_this_length a_this_isMet v_thrown v_isBounce v_lamps v_squares v_intervals v_isBlock v_isSeen v_lampX v_lampY v_right v_up v_keptRight v_keptUp v_name v_part v_codes v_above v_below v_length v_isMet) H → va_S A s.heap H locs → ∀ (ls : Array Slot), lv_has ls 3 [(0, .ref a_this)] → jf_Mo_induce_b22 v_thrown v_intervals v_above v_below v_length s0 = some R → W p l e jr_Mo_induce s m ([.ref a_this] : List Value).toArray below meth c H locs 0 0 Q (F0 m 22 ls [.int s0]) := by
    intro v_thrown v_above v_below v_length s0 H locs hP hS ls hl hR
    rw [jf_Mo_induce_b22] at hR
    refine lv_istore_n (lv' := [(1, .int s0), (0, .ref a_this)]) hx hb dX7_induce_22 rfl hl (by decide) rfl (fun ls hl => ?_)
    refine lv_aload_n hx hb dX7_induce_23 rfl (lv_at hl 1 rfl) ?_
    refine va_get (D := g.1) (ci := 7) (v := .int v_intervals) (C := RX7) (T := TX7) (N := 20) hx hb hts w_X7 hown hK.1 hP 0 rfl rfl 15 (by decide) w_f214 (fun _ h9 => h9) rfl dX7_induce_24 ?_
    refine lv_if_ne (tgt := 34) hx hb dX7_induce_27 (by decide) (fun c_3 => ?_) (fun c_3 => ?_)
    · replace hR := Eq.trans (Eq.symm (if_neg c_3)) hR
      refine lv_aload_n hx hb dX7_induce_34 rfl (lv_at hl 1 rfl) ?_
      refine va_get (D := g.1) (ci := 7) (v := .ref a_this_below) (C := RX7) (T := TX7) (N := 20) hx hb hts w_X7 hown hK.1 hP 0 rfl rfl 17 (by decide) w_f51 (fun _ h9 => h9) rfl dX7_induce_35 ?_
      refine lv_aload_n hx hb dX7_induce_38 rfl (lv_at hl 1 rfl) ?_
      refine va_get (D := g.1) (ci := 7) (v := .int v_intervals) (C := RX7) (T := TX7) (N := 20) hx hb hts w_X7 hown hK.1 hP 0 rfl rfl 15 (by decide) w_f214 (fun _ h9 => h9) rfl dX7_induce_39 ?_
      refine lv_iconst (v := 1) hx hb dX7_induce_42 (by decide) ?_
      refine lv_isub hx hb dX7_induce_43 ?_
      by_cases c_4 : jin (v_intervals - 1) 6 = true
      case neg => replace hR := Eq.trans (Eq.symm (if_neg c_4)) hR; cases hR
      replace hR := Eq.trans (Eq.symm (if_pos c_4)) hR
      refine va_iald hx hb hK.1 hP 13 0 rfl rfl (jin_in c_4) dX7_induce_44 ?_
      exact J45 v_thrown v_above v_below v_length s0 (v_below (v_intervals - 1).toNatClampNeg) _ _ hP hS _ (lv_sub hl [1, 0] rfl) hR
    · replace hR := Eq.trans (Eq.symm (if_pos c_3)) hR
      refine lv_iconst (v := 0) hx hb dX7_induce_30 (by decide) ?_
      refine lv_goto (tgt := 45) hx hb dX7_induce_31 (by decide) ?_
      exact J45 v_thrown v_above v_below v_length s0 0 _ _ hP hS _ (lv_sub hl [1, 0] rfl) hR
  rw [jf_Mo_induce] at hR
  refine lv_aload_n hx hb dX7_induce_0 rfl (lv_at hl 0 rfl) ?_
  refine va_get (D := g.1) (ci := 7) (v := .int v_intervals) (C := RX7) (T := TX7) (N := 20) hx hb hts w_X7 hown hK.1 hP 0 rfl rfl 15 (by decide) w_f214 (fun _ h9 => h9) rfl dX7_induce_1 ?_
  refine lv_if_ne (tgt := 11) hx hb dX7_induce_4 (by decide) (fun c_1 => ?_) (fun c_1 => ?_)
  · replace hR := Eq.trans (Eq.symm (if_neg c_1)) hR
    refine lv_aload_n hx hb dX7_induce_11 rfl (lv_at hl 0 rfl) ?_
    refine va_get (D := g.1) (ci := 7) (v := .ref a_this_above) (C := RX7) (T := TX7) (N := 20) hx hb hts w_X7 hown hK.1 hP 0 rfl rfl 16 (by decide) w_f48 (fun _ h9 => h9) rfl dX7_induce_12 ?_
    refine lv_aload_n hx hb dX7_induce_15 rfl (lv_at hl 0 rfl) ?_
    refine va_get (D := g.1) (ci := 7) (v := .int v_intervals) (C := RX7) (T := TX7) (N := 20) hx hb hts w_X7 hown hK.1 hP 0 rfl rfl 15 (by decide) w_f214 (fun _ h9 => h9) rfl dX7_induce_16 ?_
    refine lv_iconst (v := 1) hx hb dX7_induce_19 (by decide) ?_
    refine lv_isub hx hb dX7_induce_20 ?_
    by_cases c_2 : jin (v_intervals - 1) 6 = true
    case neg => replace hR := Eq.trans (Eq.symm (if_neg c_2)) hR; cases hR
    replace hR := Eq.trans (Eq.symm (if_pos c_2)) hR
    refine va_iald hx hb hK.1 hP 12 0 rfl rfl (jin_in c_2) dX7_induce_21 ?_
    exact J22 v_thrown v_above v_below v_length (v_above (v_intervals - 1).toNatClampNeg) _ _ hP hS _ (lv_sub hl [0] rfl) hR
  · replace hR := Eq.trans (Eq.symm (if_pos c_1)) hR
    refine lv_iconst (v := 0) hx hb dX7_induce_7 (by decide) ?_
    refine lv_goto (tgt := 22) hx hb dX7_induce_8 (by decide) ?_
    exact J22 v_thrown v_above v_below v_length 0 _ _ hP hS _ (lv_sub hl [0] rfl) hR
def jf_Mo_told_b27 (v_thrown : Int32) (v_above : Nat → Int32) (v_below : Nat → Int32) (v_length : Nat → Int32) (z1 : Int32) (z2 : Int32) (s1 : Int32) : Option (Int32 × Int32) :=
  if s1 ≤ 0 then (if z2 = 0 then (if jin z1 6 = true then (some (v_above z1.toNatClampNeg, s1)) else none) else (if z2 = 1 then (if jin z1 6 = true then (some (v_below z1.toNatClampNeg, s1)) else none) else (if jin z1 6 = true then (if jin (v_above z1.toNatClampNeg) 6 = true then (some (v_length (v_above z1.toNatClampNeg).toNatClampNeg, s1)) else none) else none))) else (some (0, s1))
def jf_Mo_told (v_thrown : Int32) (v_intervals : Int32) (v_above : Nat → Int32) (v_below : Nat → Int32) (v_length : Nat → Int32) (x1 : Int32) (x2 : Int32) : Option (Int32 × Int32) :=
  if (jf_Mo_isPlace v_intervals x1) = 0 then (jf_Mo_told_b27 v_thrown v_above v_below v_length x1 x2 1) else (if (jf_Mo_in x2 0 2) = 0 then (jf_Mo_told_b27 v_thrown v_above v_below v_length x1 x2 2) else (jf_Mo_told_b27 v_thrown v_above v_below v_length x1 x2 0))
abbrev jr_Mo_told : Room := { frames := 2, cells := 0, slots := 0, locals := 43 }
set_option maxRecDepth 100000 in
set_option maxHeartbeats 4000000 in
theorem jc_Mo_told (l : Launch) (g : jG) (a_this a_this_isBlock a_this_isSeen a_this_lampX a_this_lampY a_this_right a_this_up a_this_keptRight a_this_keptUp a_this_name a_this_part a_this_codes a_this_above a_this_below a_this_length a_this_isMet : Nat) (v_thrown : Int32) (v_isBounce : Int32) (v_lamps : Int32) (v_squares : Int32) (v_intervals : Int32) (v_isBlock : Nat → Int32) (v_isSeen : Nat → Int32) (v_lampX : Nat → Int32) (v_lampY : Nat → Int32) (v_right : Nat → Int32) (v_up : Nat → Int32) (v_keptRight : Nat → Int32) (v_keptUp : Nat → Int32) (v_name : Nat → Int32) (v_part : Nat → Int32) (v_codes : Nat → Int32) (v_above : Nat → Int32) (v_below : Nat → Int32) (v_length : Nat → Int32) (v_isMet : Nat → Int32) (x1 : Int32) (x2 : Int32) (R : Int32 × Int32) (hR : jf_Mo_told v_thrown v_intervals v_above v_below v_length x1 x2 = some R) (sz : Nat) : Met l yX7_told wsX7_told jr_Mo_told (jPw g [.ref a_this, .int x1, .int x2] (jw_Mo g a_this a_this_isBlock a_this_isSeen a_this_lampX a_this_lampY a_this_right a_this_up a_this_keptRight a_this_keptUp a_this_name a_this_part a_this_codes a_this_above a_this_below a_this_length a_this_isMet v_thrown v_isBounce v_lamps v_squares v_intervals v_isBlock v_isSeen v_lampX v_lampY v_right v_up v_keptRight v_keptUp v_name v_part v_codes v_above v_below v_length v_isMet) sz) (jQi g R.1 (jw_Mo g a_this a_this_isBlock a_this_isSeen a_this_lampX a_this_lampY a_this_right a_this_up a_this_keptRight a_this_keptUp a_this_name a_this_part a_this_codes a_this_above a_this_below a_this_length a_this_isMet R.2 v_isBounce v_lamps v_squares v_intervals v_isBlock v_isSeen v_lampX v_lampY v_right v_up v_keptRight v_keptUp v_name v_part v_codes v_above v_below v_length v_isMet) (va_A (jw_Mo g a_this a_this_isBlock a_this_isSeen a_this_lampX a_this_lampY a_this_right a_this_up a_this_keptRight a_this_keptUp a_this_name a_this_part a_this_codes a_this_above a_this_below a_this_length a_this_isMet v_thrown v_isBounce v_lamps v_squares v_intervals v_isBlock v_isSeen v_lampX v_lampY v_right v_up v_keptRight v_keptUp v_name v_part v_codes v_above v_below v_length v_isMet) sz)) 0 0 (va_A (jw_Mo g a_this a_this_isBlock a_this_isSeen a_this_lampX a_this_lampY a_this_right a_this_up a_this_keptRight a_this_keptUp a_this_name a_this_part a_this_codes a_this_above a_this_below a_this_length a_this_isMet v_thrown v_isBounce v_lamps v_squares v_intervals v_isBlock v_isSeen v_lampX v_lampY v_right v_up v_keptRight v_keptUp v_name v_part v_codes v_above v_below v_length v_isMet) sz) := by
  refine jm_wi (cc := cX7_told) (maxL := 3) (by decide +kernel) rfl (Nat.le_of_ble_eq_true rfl) ?_
  intro p e s m below meth c A Q hx hb hml hown hts hK hP hD hA hS fin ls hl
  have hl : lv_has ls 3 [(0, .ref a_this), (1, .int x1), (2, .int x2)] := hl
  have hown : s.vm.findClass RX7 = some m.cls := hown
  have w_X7 : ∀ w ∈ u_ws RX7 TX7 20, w ∈ wsX7_told := by decide +kernel
  have w_f60 := hts (.fieldLink RX7 60 "BilliardryModel" "thrown" "I") (by decide +kernel)
  have w_f54 := hts (.fieldLink RX7 54 "BilliardryModel" "length" "[I") (by decide +kernel)
  have w_f48 := hts (.fieldLink RX7 48 "BilliardryModel" "above" "[I") (by decide +kernel)
  have w_f51 := hts (.fieldLink RX7 51 "BilliardryModel" "below" "[I") (by decide +kernel)
  have J27 : ∀ (v_thrown : Int32) (z1 : Int32) (z2 : Int32) (s1 : Int32) (H : Heap) (locs : List Loc), va_P g.1 vwCl (jw_Mo g a_this a_this_isBlock a_this_isSeen a_this_lampX a_this_lampY a_this_right a_this_up a_this_keptRight a_this_keptUp a_this_name a_this_part a_this_codes a_this_above a_this_below a_this_length a_this_isMet v_thrown v_isBounce v_lamps v_squares v_intervals v_isBlock v_isSeen v_lampX v_lampY v_right v_up v_keptRight v_keptUp v_name v_part v_codes v_above v_below v_length v_isMet) H → va_S A s.heap H locs → ∀ (ls : Array Slot), lv_has ls 3 [(0, .ref a_this), (1, .int z1), (2, .int z2)] → jf_Mo_told_b27 v_thrown v_above v_below v_length z1 z2 s1 = some R → W p l e jr_Mo_told s m ([.ref a_this, .int x1, .int x2] : List Value).toArray below meth c H locs 0 0 Q (F0 m 27 ls [.int s1, .ref a_this]) := by
    intro v_thrown z1 z2 s1 H locs hP hS ls hl hR
    rw [jf_Mo_told_b27] at hR
    refine va_put (D := g.1) (ci := 7) (v := .int s1) (ty := .int) (C := RX7) (T := TX7) (N := 20) hx hb hts w_X7 tyX7 tyX7_ok nmX7 hown hK.1 hP (jD_to hD rfl) hS 0 rfl rfl 0 (by decide) w_f60 (fun _ h9 => h9) rfl (by decide +kernel) rfl rfl (Nat.le_of_ble_eq_true rfl) dX7_told_27 (fun H locs hP _ hS => ?_)
    have hP : va_P g.1 vwCl (jw_Mo g a_this a_this_isBlock a_this_isSeen a_this_lampX a_this_lampY a_this_right a_this_up a_this_keptRight a_this_keptUp a_this_name a_this_part a_this_codes a_this_above a_this_below a_this_length a_this_isMet s1 v_isBounce v_lamps v_squares v_intervals v_isBlock v_isSeen v_lampX v_lampY v_right v_up v_keptRight v_keptUp v_name v_part v_codes v_above v_below v_length v_isMet) H := hP
    refine lv_aload_n hx hb dX7_told_30 rfl (lv_at hl 0 rfl) ?_
    refine va_get (D := g.1) (ci := 7) (v := .int s1) (C := RX7) (T := TX7) (N := 20) hx hb hts w_X7 hown hK.1 hP 0 rfl rfl 0 (by decide) w_f60 (fun _ h9 => h9) rfl dX7_told_31 ?_
    refine lv_if_le (tgt := 39) hx hb dX7_told_34 (by decide) (fun c_3 => ?_) (fun c_3 => ?_)
    · replace hR := Eq.trans (Eq.symm (if_pos c_3)) hR
      refine lv_iload_n hx hb dX7_told_39 rfl (lv_at hl 2 rfl) ?_
      refine lv_if_ne (tgt := 52) hx hb dX7_told_40 (by decide) (fun c_4 => ?_) (fun c_4 => ?_)
      · replace hR := Eq.trans (Eq.symm (if_neg c_4)) hR
        refine lv_iload_n hx hb dX7_told_52 rfl (lv_at hl 2 rfl) ?_
        refine lv_iconst (v := 1) hx hb dX7_told_53 (by decide) ?_
        refine lv_icmp_ne (tgt := 66) hx hb dX7_told_54 (by decide) (fun c_5 => ?_) (fun c_5 => ?_)
        · replace hR := Eq.trans (Eq.symm (if_neg c_5)) hR
          refine lv_aload_n hx hb dX7_told_66 rfl (lv_at hl 0 rfl) ?_
          refine va_get (D := g.1) (ci := 7) (v := .ref a_this_length) (C := RX7) (T := TX7) (N := 20) hx hb hts w_X7 hown hK.1 hP 0 rfl rfl 18 (by decide) w_f54 (fun _ h9 => h9) rfl dX7_told_67 ?_
          refine lv_aload_n hx hb dX7_told_70 rfl (lv_at hl 0 rfl) ?_
          refine va_get (D := g.1) (ci := 7) (v := .ref a_this_above) (C := RX7) (T := TX7) (N := 20) hx hb hts w_X7 hown hK.1 hP 0 rfl rfl 16 (by decide) w_f48 (fun _ h9 => h9) rfl dX7_told_71 ?_
          refine lv_iload_n hx hb dX7_told_74 rfl (lv_at hl 1 rfl) ?_
          by_cases c_6 : jin z1 6 = true
          case neg => replace hR := Eq.trans (Eq.symm (if_neg c_6)) hR; cases hR
          replace hR := Eq.trans (Eq.symm (if_pos c_6)) hR
          refine va_iald hx hb hK.1 hP 12 0 rfl rfl (jin_in c_6) dX7_told_75 ?_
          by_cases c_7 : jin (v_above z1.toNatClampNeg) 6 = true
          case neg => replace hR := Eq.trans (Eq.symm (if_neg c_7)) hR; cases hR
          replace hR := Eq.trans (Eq.symm (if_pos c_7)) hR
          refine va_iald hx hb hK.1 hP 14 0 rfl rfl (jin_in c_7) dX7_told_76 ?_
          obtain rfl := (Option.some.inj hR)
          exact fin _ _ _ _ _ rfl hP hS dX7_told_77
        · replace hR := Eq.trans (Eq.symm (if_pos c_5)) hR
          refine lv_aload_n hx hb dX7_told_57 rfl (lv_at hl 0 rfl) ?_
          refine va_get (D := g.1) (ci := 7) (v := .ref a_this_below) (C := RX7) (T := TX7) (N := 20) hx hb hts w_X7 hown hK.1 hP 0 rfl rfl 17 (by decide) w_f51 (fun _ h9 => h9) rfl dX7_told_58 ?_
          refine lv_iload_n hx hb dX7_told_61 rfl (lv_at hl 1 rfl) ?_
          by_cases c_8 : jin z1 6 = true
          case neg => replace hR := Eq.trans (Eq.symm (if_neg c_8)) hR; cases hR
          replace hR := Eq.trans (Eq.symm (if_pos c_8)) hR
          refine va_iald hx hb hK.1 hP 13 0 rfl rfl (jin_in c_8) dX7_told_62 ?_
          refine lv_goto (tgt := 77) hx hb dX7_told_63 (by decide) ?_
          obtain rfl := (Option.some.inj hR)
          exact fin _ _ _ _ _ rfl hP hS dX7_told_77
      · replace hR := Eq.trans (Eq.symm (if_pos c_4)) hR
        refine lv_aload_n hx hb dX7_told_43 rfl (lv_at hl 0 rfl) ?_
        refine va_get (D := g.1) (ci := 7) (v := .ref a_this_above) (C := RX7) (T := TX7) (N := 20) hx hb hts w_X7 hown hK.1 hP 0 rfl rfl 16 (by decide) w_f48 (fun _ h9 => h9) rfl dX7_told_44 ?_
        refine lv_iload_n hx hb dX7_told_47 rfl (lv_at hl 1 rfl) ?_
        by_cases c_9 : jin z1 6 = true
        case neg => replace hR := Eq.trans (Eq.symm (if_neg c_9)) hR; cases hR
        replace hR := Eq.trans (Eq.symm (if_pos c_9)) hR
        refine va_iald hx hb hK.1 hP 12 0 rfl rfl (jin_in c_9) dX7_told_48 ?_
        refine lv_goto (tgt := 77) hx hb dX7_told_49 (by decide) ?_
        obtain rfl := (Option.some.inj hR)
        exact fin _ _ _ _ _ rfl hP hS dX7_told_77
    · replace hR := Eq.trans (Eq.symm (if_neg c_3)) hR
      refine lv_iconst (v := 0) hx hb dX7_told_37 (by decide) ?_
      obtain rfl := (Option.some.inj hR)
      exact fin _ _ _ _ _ rfl hP hS dX7_told_38
  rw [jf_Mo_told] at hR
  refine lv_aload_n hx hb dX7_told_0 rfl (lv_at hl 0 rfl) ?_
  refine lv_aload_n hx hb dX7_told_1 rfl (lv_at hl 0 rfl) ?_
  refine lv_iload_n hx hb dX7_told_2 rfl (lv_at hl 1 rfl) ?_
  refine jcall_ri (va_runV (As := [.int x1]) (rest := [.ref a_this]) ⟨hx, hb, hml, hown, hts⟩ (jc_Mo_isPlace l g a_this a_this_isBlock a_this_isSeen a_this_lampX a_this_lampY a_this_right a_this_up a_this_keptRight a_this_keptUp a_this_name a_this_part a_this_codes a_this_above a_this_below a_this_length a_this_isMet v_thrown v_isBounce v_lamps v_squares v_intervals v_isBlock v_isSeen v_lampX v_lampY v_right v_up v_keptRight v_keptUp v_name v_part v_codes v_above v_below v_length v_isMet x1 _ rfl) (cwV 1 hts gX7_told_X7_isPlace rfl rfl rfl (by decide +kernel) ⟨Nat.le_of_ble_eq_true rfl, Nat.le_of_ble_eq_true rfl⟩) (jpr_v hK hP (ci := 7) (q0 := 0) rfl rfl) rfl rfl hl.1 rfl (lv_room (Nat.le_of_ble_eq_true rfl)) dX7_told_3 ⟨Nat.zero_le _, Nat.zero_le _⟩) ?_
  refine lv_if_ne (tgt := 13) hx hb dX7_told_6 (by decide) (fun c_1 => ?_) (fun c_1 => ?_)
  · replace hR := Eq.trans (Eq.symm (if_neg c_1)) hR
    refine lv_iload_n hx hb dX7_told_13 rfl (lv_at hl 2 rfl) ?_
    refine lv_iconst (v := 0) hx hb dX7_told_14 (by decide) ?_
    refine lv_iconst (v := 2) hx hb dX7_told_15 (by decide) ?_
    refine jcall_ri (va_runS (As := [.int x2, .int 0, .int 2]) (rest := [.ref a_this]) ⟨hx, hb, hml, hown, hts⟩ (jc_Mo_in l g  x2 0 2 _ rfl) (va_cwS 3 hts gX7_told_X7_in rfl rfl rfl (by decide +kernel) ⟨Nat.le_of_ble_eq_true rfl, Nat.le_of_ble_eq_true rfl⟩) (jpr_s hK (hP.sub (ws' := []) [] rfl)) rfl rfl hl.1 rfl (lv_room (Nat.le_of_ble_eq_true rfl)) dX7_told_16 ⟨Nat.zero_le _, Nat.zero_le _⟩) ?_
    refine lv_if_eq (tgt := 26) hx hb dX7_told_19 (by decide) (fun c_2 => ?_) (fun c_2 => ?_)
    · replace hR := Eq.trans (Eq.symm (if_pos c_2)) hR
      refine lv_iconst (v := 2) hx hb dX7_told_26 (by decide) ?_
      exact J27 v_thrown x1 x2 2 _ _ hP hS _ (lv_sub hl [0, 1, 2] rfl) hR
    · replace hR := Eq.trans (Eq.symm (if_neg c_2)) hR
      refine lv_iconst (v := 0) hx hb dX7_told_22 (by decide) ?_
      refine lv_goto (tgt := 27) hx hb dX7_told_23 (by decide) ?_
      exact J27 v_thrown x1 x2 0 _ _ hP hS _ (lv_sub hl [0, 1, 2] rfl) hR
  · replace hR := Eq.trans (Eq.symm (if_pos c_1)) hR
    refine lv_iconst (v := 1) hx hb dX7_told_9 (by decide) ?_
    refine lv_goto (tgt := 27) hx hb dX7_told_10 (by decide) ?_
    exact J27 v_thrown x1 x2 1 _ _ hP hS _ (lv_sub hl [0, 1, 2] rfl) hR
def jf_Mo_asksPoint_b20 (v_thrown : Int32) (s1 : Int32) : Option (Int32 × Int32) :=
  if s1 = 0 then (some (1, s1)) else (some (0, s1))
def jf_Mo_asksPoint (v_thrown : Int32) (v_intervals : Int32) (v_length : Nat → Int32) (x1 : Int32) : Option (Int32 × Int32) :=
  Option.bind (jf_Mo_sum v_intervals v_length) (fun q_1 => if (jf_Mo_in x1 0 (q_1 - 1)) = 0 then (jf_Mo_asksPoint_b20 v_thrown 1) else (jf_Mo_asksPoint_b20 v_thrown 0))
abbrev jr_Mo_asksPoint : Room := { frames := 1, cells := 0, slots := 0, locals := 22 }
set_option maxRecDepth 100000 in
set_option maxHeartbeats 4000000 in
theorem jc_Mo_asksPoint (l : Launch) (g : jG) (a_this a_this_isBlock a_this_isSeen a_this_lampX a_this_lampY a_this_right a_this_up a_this_keptRight a_this_keptUp a_this_name a_this_part a_this_codes a_this_above a_this_below a_this_length a_this_isMet : Nat) (v_thrown : Int32) (v_isBounce : Int32) (v_lamps : Int32) (v_squares : Int32) (v_intervals : Int32) (v_isBlock : Nat → Int32) (v_isSeen : Nat → Int32) (v_lampX : Nat → Int32) (v_lampY : Nat → Int32) (v_right : Nat → Int32) (v_up : Nat → Int32) (v_keptRight : Nat → Int32) (v_keptUp : Nat → Int32) (v_name : Nat → Int32) (v_part : Nat → Int32) (v_codes : Nat → Int32) (v_above : Nat → Int32) (v_below : Nat → Int32) (v_length : Nat → Int32) (v_isMet : Nat → Int32) (x1 : Int32) (R : Int32 × Int32) (hR : jf_Mo_asksPoint v_thrown v_intervals v_length x1 = some R) (sz : Nat) : Met l yX7_asksPoint wsX7_asksPoint jr_Mo_asksPoint (jPw g [.ref a_this, .int x1] (jw_Mo g a_this a_this_isBlock a_this_isSeen a_this_lampX a_this_lampY a_this_right a_this_up a_this_keptRight a_this_keptUp a_this_name a_this_part a_this_codes a_this_above a_this_below a_this_length a_this_isMet v_thrown v_isBounce v_lamps v_squares v_intervals v_isBlock v_isSeen v_lampX v_lampY v_right v_up v_keptRight v_keptUp v_name v_part v_codes v_above v_below v_length v_isMet) sz) (jQi g R.1 (jw_Mo g a_this a_this_isBlock a_this_isSeen a_this_lampX a_this_lampY a_this_right a_this_up a_this_keptRight a_this_keptUp a_this_name a_this_part a_this_codes a_this_above a_this_below a_this_length a_this_isMet R.2 v_isBounce v_lamps v_squares v_intervals v_isBlock v_isSeen v_lampX v_lampY v_right v_up v_keptRight v_keptUp v_name v_part v_codes v_above v_below v_length v_isMet) (va_A (jw_Mo g a_this a_this_isBlock a_this_isSeen a_this_lampX a_this_lampY a_this_right a_this_up a_this_keptRight a_this_keptUp a_this_name a_this_part a_this_codes a_this_above a_this_below a_this_length a_this_isMet v_thrown v_isBounce v_lamps v_squares v_intervals v_isBlock v_isSeen v_lampX v_lampY v_right v_up v_keptRight v_keptUp v_name v_part v_codes v_above v_below v_length v_isMet) sz)) 0 0 (va_A (jw_Mo g a_this a_this_isBlock a_this_isSeen a_this_lampX a_this_lampY a_this_right a_this_up a_this_keptRight a_this_keptUp a_this_name a_this_part a_this_codes a_this_above a_this_below a_this_length a_this_isMet v_thrown v_isBounce v_lamps v_squares v_intervals v_isBlock v_isSeen v_lampX v_lampY v_right v_up v_keptRight v_keptUp v_name v_part v_codes v_above v_below v_length v_isMet) sz) := by
  refine jm_wz (cc := cX7_asksPoint) (maxL := 2) (by decide +kernel) rfl (Nat.le_of_ble_eq_true rfl) ?_
  intro p e s m below meth c A Q hx hb hml hown hts hK hP hD hA hS fin ls hl
  have hl : lv_has ls 2 [(0, .ref a_this), (1, .int x1)] := hl
  have hown : s.vm.findClass RX7 = some m.cls := hown
  have w_X7 : ∀ w ∈ u_ws RX7 TX7 20, w ∈ wsX7_asksPoint := by decide +kernel
  have w_f60 := hts (.fieldLink RX7 60 "BilliardryModel" "thrown" "I") (by decide +kernel)
  have J20 : ∀ (v_thrown : Int32) (s1 : Int32) (H : Heap) (locs : List Loc), va_P g.1 vwCl (jw_Mo g a_this a_this_isBlock a_this_isSeen a_this_lampX a_this_lampY a_this_right a_this_up a_this_keptRight a_this_keptUp a_this_name a_this_part a_this_codes a_this_above a_this_below a_this_length a_this_isMet v_thrown v_isBounce v_lamps v_squares v_intervals v_isBlock v_isSeen v_lampX v_lampY v_right v_up v_keptRight v_keptUp v_name v_part v_codes v_above v_below v_length v_isMet) H → va_S A s.heap H locs → ∀ (ls : Array Slot), lv_has ls 2 [(0, .ref a_this)] → jf_Mo_asksPoint_b20 v_thrown s1 = some R → W p l e jr_Mo_asksPoint s m ([.ref a_this, .int x1] : List Value).toArray below meth c H locs 0 0 Q (F0 m 20 ls [.int s1, .ref a_this]) := by
    intro v_thrown s1 H locs hP hS ls hl hR
    rw [jf_Mo_asksPoint_b20] at hR
    refine va_put (D := g.1) (ci := 7) (v := .int s1) (ty := .int) (C := RX7) (T := TX7) (N := 20) hx hb hts w_X7 tyX7 tyX7_ok nmX7 hown hK.1 hP (jD_to hD rfl) hS 0 rfl rfl 0 (by decide) w_f60 (fun _ h9 => h9) rfl (by decide +kernel) rfl rfl (Nat.le_of_ble_eq_true rfl) dX7_asksPoint_20 (fun H locs hP _ hS => ?_)
    have hP : va_P g.1 vwCl (jw_Mo g a_this a_this_isBlock a_this_isSeen a_this_lampX a_this_lampY a_this_right a_this_up a_this_keptRight a_this_keptUp a_this_name a_this_part a_this_codes a_this_above a_this_below a_this_length a_this_isMet s1 v_isBounce v_lamps v_squares v_intervals v_isBlock v_isSeen v_lampX v_lampY v_right v_up v_keptRight v_keptUp v_name v_part v_codes v_above v_below v_length v_isMet) H := hP
    refine lv_aload_n hx hb dX7_asksPoint_23 rfl (lv_at hl 0 rfl) ?_
    refine va_get (D := g.1) (ci := 7) (v := .int s1) (C := RX7) (T := TX7) (N := 20) hx hb hts w_X7 hown hK.1 hP 0 rfl rfl 0 (by decide) w_f60 (fun _ h9 => h9) rfl dX7_asksPoint_24 ?_
    refine lv_if_ne (tgt := 34) hx hb dX7_asksPoint_27 (by decide) (fun c_2 => ?_) (fun c_2 => ?_)
    · replace hR := Eq.trans (Eq.symm (if_neg c_2)) hR
      refine lv_iconst (v := 0) hx hb dX7_asksPoint_34 (by decide) ?_
      obtain rfl := (Option.some.inj hR)
      exact fin _ _ _ _ _ (by first | rfl | decide) hP hS dX7_asksPoint_35
    · replace hR := Eq.trans (Eq.symm (if_pos c_2)) hR
      refine lv_iconst (v := 1) hx hb dX7_asksPoint_30 (by decide) ?_
      refine lv_goto (tgt := 35) hx hb dX7_asksPoint_31 (by decide) ?_
      obtain rfl := (Option.some.inj hR)
      exact fin _ _ _ _ _ (by first | rfl | decide) hP hS dX7_asksPoint_35
  rw [jf_Mo_asksPoint] at hR
  refine lv_aload_n hx hb dX7_asksPoint_0 rfl (lv_at hl 0 rfl) ?_
  refine lv_iload_n hx hb dX7_asksPoint_1 rfl (lv_at hl 1 rfl) ?_
  refine lv_iconst (v := 0) hx hb dX7_asksPoint_2 (by decide) ?_
  refine lv_aload_n hx hb dX7_asksPoint_3 rfl (lv_at hl 0 rfl) ?_
  obtain ⟨q_1, hq_1, hR⟩ := jbind hR
  try dsimp only at hR
  refine jcall_ri (va_runV (As := []) (rest := [.int 0, .int x1, .ref a_this]) ⟨hx, hb, hml, hown, hts⟩ (jc_Mo_sum l g a_this a_this_isBlock a_this_isSeen a_this_lampX a_this_lampY a_this_right a_this_up a_this_keptRight a_this_keptUp a_this_name a_this_part a_this_codes a_this_above a_this_below a_this_length a_this_isMet v_thrown v_isBounce v_lamps v_squares v_intervals v_isBlock v_isSeen v_lampX v_lampY v_right v_up v_keptRight v_keptUp v_name v_part v_codes v_above v_below v_length v_isMet _ hq_1) (cwV 0 hts gX7_asksPoint_X7_sum rfl rfl rfl (by decide +kernel) ⟨Nat.le_of_ble_eq_true rfl, Nat.le_of_ble_eq_true rfl⟩) (jpr_v hK hP (ci := 7) (q0 := 0) rfl rfl) rfl rfl hl.1 rfl (lv_room (Nat.le_of_ble_eq_true rfl)) dX7_asksPoint_4 ⟨Nat.zero_le _, Nat.zero_le _⟩) ?_
  refine lv_iconst (v := 1) hx hb dX7_asksPoint_7 (by decide) ?_
  refine lv_isub hx hb dX7_asksPoint_8 ?_
  refine jcall_ri (va_runS (As := [.int x1, .int 0, .int (q_1 - 1)]) (rest := [.ref a_this]) ⟨hx, hb, hml, hown, hts⟩ (jc_Mo_in l g  x1 0 (q_1 - 1) _ rfl) (va_cwS 3 hts gX7_asksPoint_X7_in rfl rfl rfl (by decide +kernel) ⟨Nat.le_of_ble_eq_true rfl, Nat.le_of_ble_eq_true rfl⟩) (jpr_s hK (hP.sub (ws' := []) [] rfl)) rfl rfl hl.1 rfl (lv_room (Nat.le_of_ble_eq_true rfl)) dX7_asksPoint_9 ⟨Nat.zero_le _, Nat.zero_le _⟩) ?_
  refine lv_if_eq (tgt := 19) hx hb dX7_asksPoint_12 (by decide) (fun c_1 => ?_) (fun c_1 => ?_)
  · replace hR := Eq.trans (Eq.symm (if_pos c_1)) hR
    refine lv_iconst (v := 1) hx hb dX7_asksPoint_19 (by decide) ?_
    exact J20 v_thrown 1 _ _ hP hS _ (lv_sub hl [0] rfl) hR
  · replace hR := Eq.trans (Eq.symm (if_neg c_1)) hR
    refine lv_iconst (v := 0) hx hb dX7_asksPoint_15 (by decide) ?_
    refine lv_goto (tgt := 20) hx hb dX7_asksPoint_16 (by decide) ?_
    exact J20 v_thrown 0 _ _ hP hS _ (lv_sub hl [0] rfl) hR
def jf_Mo_goes_above_below_L6 (v_above : Nat → Int32) (v_length : Nat → Int32) (z1 : Int32) : Nat → Int32 → Int32 → Option (Int32 × Int32)
  | 0, _, _ => none
  | n + 1, z4, z5 =>
    if jin z4 6 = true then (if jin (v_above z4.toNatClampNeg) 6 = true then (if z1 < z5 + (v_length (v_above z4.toNatClampNeg).toNatClampNeg) then (some (z4, z5)) else (if jin z4 6 = true then (if jin (v_above z4.toNatClampNeg) 6 = true then (jlet (z5 + (v_length (v_above z4.toNatClampNeg).toNatClampNeg)) (fun y5_1 => (jf_Mo_goes_above_below_L6 v_above v_length z1 n) (z4 + 1) y5_1)) else none) else none)) else none) else none
def jf_Mo_goes_above_below_L48 (v_above : Nat → Int32) (v_below : Nat → Int32) (v_length : Nat → Int32) (z1 : Int32) (z4 : Int32) (z5 : Int32) : Nat → Int32 → Int32 → Option Int32
  | 0, _, _ => none
  | n + 1, z6, z7 =>
    if jin z7 6 = true then (if jin z4 6 = true then (if v_below z7.toNatClampNeg = v_above z4.toNatClampNeg then (some z6) else (if jin z7 6 = true then (if jin (v_below z7.toNatClampNeg) 6 = true then (jlet (z6 + (v_length (v_below z7.toNatClampNeg).toNatClampNeg)) (fun y6_1 => (jf_Mo_goes_above_below_L48 v_above v_below v_length z1 z4 z5 n) y6_1 (z7 + 1))) else none) else none)) else none) else none
def jf_Mo_goes_above_below (v_above : Nat → Int32) (v_below : Nat → Int32) (v_length : Nat → Int32) (x1 : Int32) : Option Int32 :=
  Option.bind (jf_Mo_goes_above_below_L6 v_above v_length x1 jF 0 0) (fun q_1 => Option.bind (jf_Mo_goes_above_below_L48 v_above v_below v_length x1 q_1.1 q_1.2 jF 0 0) (fun q_2 => some ((q_2 + x1) - q_1.2)))
abbrev jr_Mo_goes_above_below : Room := { frames := 0, cells := 0, slots := 0, locals := 0 }
set_option maxRecDepth 100000 in
set_option maxHeartbeats 4000000 in
theorem jc_Mo_goes_above_below (l : Launch) (g : jG) (a_this a_this_isBlock a_this_isSeen a_this_lampX a_this_lampY a_this_right a_this_up a_this_keptRight a_this_keptUp a_this_name a_this_part a_this_codes a_this_above a_this_below a_this_length a_this_isMet : Nat) (v_thrown : Int32) (v_isBounce : Int32) (v_lamps : Int32) (v_squares : Int32) (v_intervals : Int32) (v_isBlock : Nat → Int32) (v_isSeen : Nat → Int32) (v_lampX : Nat → Int32) (v_lampY : Nat → Int32) (v_right : Nat → Int32) (v_up : Nat → Int32) (v_keptRight : Nat → Int32) (v_keptUp : Nat → Int32) (v_name : Nat → Int32) (v_part : Nat → Int32) (v_codes : Nat → Int32) (v_above : Nat → Int32) (v_below : Nat → Int32) (v_length : Nat → Int32) (v_isMet : Nat → Int32) (x1 : Int32) (R : Int32) (hR : jf_Mo_goes_above_below v_above v_below v_length x1 = some R) : Met l yX7_goes wsX7_goes jr_Mo_goes_above_below (jPr g [.ref a_this, .int x1, .ref a_this_above, .ref a_this_below] (jw_Mo g a_this a_this_isBlock a_this_isSeen a_this_lampX a_this_lampY a_this_right a_this_up a_this_keptRight a_this_keptUp a_this_name a_this_part a_this_codes a_this_above a_this_below a_this_length a_this_isMet v_thrown v_isBounce v_lamps v_squares v_intervals v_isBlock v_isSeen v_lampX v_lampY v_right v_up v_keptRight v_keptUp v_name v_part v_codes v_above v_below v_length v_isMet)) (vp_Si (fun r => r = R)) 0 0 (fun _ => False) := by
  refine jm_ri (cc := cX7_goes) (maxL := 8) (by decide +kernel) rfl (Nat.le_of_ble_eq_true rfl) ?_
  intro p e s m below meth c Q hx hb hml hown hts hK hP fin ls hl
  have hl : lv_has ls 8 [(0, .ref a_this), (1, .int x1), (2, .ref a_this_above), (3, .ref a_this_below)] := hl
  have hown : s.vm.findClass RX7 = some m.cls := hown
  have w_X7 : ∀ w ∈ u_ws RX7 TX7 20, w ∈ wsX7_goes := by decide +kernel
  have w_f54 := hts (.fieldLink RX7 54 "BilliardryModel" "length" "[I") (by decide +kernel)
  have L6 : ∀ (n : Nat) (z1 : Int32) (z4 : Int32) (z5 : Int32) (ls : Array Slot), lv_has ls 8 [(0, .ref a_this), (1, .int z1), (2, .ref a_this_above), (3, .ref a_this_below), (4, .int z4), (5, .int z5)] → ∀ q, jf_Mo_goes_above_below_L6 v_above v_length z1 n z4 z5 = some q → (∀ ls : Array Slot, lv_has ls 8 [(0, .ref a_this), (1, .int z1), (2, .ref a_this_above), (3, .ref a_this_below), (4, .int q.1), (5, .int q.2)] → W p l e jr_Mo_goes_above_below s m ([.ref a_this, .int x1, .ref a_this_above, .ref a_this_below] : List Value).toArray below meth c s.heap [] 0 0 Q (F0 m 42 ls [])) → W p l e jr_Mo_goes_above_below s m ([.ref a_this, .int x1, .ref a_this_above, .ref a_this_below] : List Value).toArray below meth c s.heap [] 0 0 Q (F0 m 6 ls []) := by
    intro n z1
    induction n with
    | zero =>
      intro z4 z5 ls hl q hR k
      cases hR
    | succ n ih =>
      intro z4 z5 ls hl q hR k
      rw [jf_Mo_goes_above_below_L6] at hR
      refine lv_iload_n hx hb dX7_goes_6 rfl (lv_at hl 1 rfl) ?_
      refine lv_iload hx hb dX7_goes_7 (lv_at hl 5 rfl) ?_
      refine lv_aload_n hx hb dX7_goes_9 rfl (lv_at hl 0 rfl) ?_
      refine va_get (D := g.1) (ci := 7) (v := .ref a_this_length) (C := RX7) (T := TX7) (N := 20) hx hb hts w_X7 hown hK.1 hP 0 rfl rfl 18 (by decide) w_f54 (fun _ h9 => h9) rfl dX7_goes_10 ?_
      refine lv_aload_n hx hb dX7_goes_13 rfl (lv_at hl 2 rfl) ?_
      refine lv_iload hx hb dX7_goes_14 (lv_at hl 4 rfl) ?_
      by_cases c_1 : jin z4 6 = true
      case neg => replace hR := Eq.trans (Eq.symm (if_neg c_1)) hR; cases hR
      replace hR := Eq.trans (Eq.symm (if_pos c_1)) hR
      refine va_iald hx hb hK.1 hP 12 0 rfl rfl (jin_in c_1) dX7_goes_16 ?_
      by_cases c_2 : jin (v_above z4.toNatClampNeg) 6 = true
      case neg => replace hR := Eq.trans (Eq.symm (if_neg c_2)) hR; cases hR
      replace hR := Eq.trans (Eq.symm (if_pos c_2)) hR
      refine va_iald hx hb hK.1 hP 14 0 rfl rfl (jin_in c_2) dX7_goes_17 ?_
      refine lv_iadd hx hb dX7_goes_18 ?_
      refine lv_icmp_lt (tgt := 42) hx hb dX7_goes_19 (by decide) (fun c_3 => ?_) (fun c_3 => ?_)
      · replace hR := Eq.trans (Eq.symm (if_pos c_3)) hR
        cases hR
        exact k _ (lv_sub hl [0, 1, 2, 3, 4, 5] rfl)
      · replace hR := Eq.trans (Eq.symm (if_neg c_3)) hR
        refine lv_iload hx hb dX7_goes_22 (lv_at hl 5 rfl) ?_
        refine lv_aload_n hx hb dX7_goes_24 rfl (lv_at hl 0 rfl) ?_
        refine va_get (D := g.1) (ci := 7) (v := .ref a_this_length) (C := RX7) (T := TX7) (N := 20) hx hb hts w_X7 hown hK.1 hP 0 rfl rfl 18 (by decide) w_f54 (fun _ h9 => h9) rfl dX7_goes_25 ?_
        refine lv_aload_n hx hb dX7_goes_28 rfl (lv_at hl 2 rfl) ?_
        refine lv_iload hx hb dX7_goes_29 (lv_at hl 4 rfl) ?_
        by_cases c_4 : jin z4 6 = true
        case neg => replace hR := Eq.trans (Eq.symm (if_neg c_4)) hR; cases hR
        replace hR := Eq.trans (Eq.symm (if_pos c_4)) hR
        refine va_iald hx hb hK.1 hP 12 0 rfl rfl (jin_in c_4) dX7_goes_31 ?_
        by_cases c_5 : jin (v_above z4.toNatClampNeg) 6 = true
        case neg => replace hR := Eq.trans (Eq.symm (if_neg c_5)) hR; cases hR
        replace hR := Eq.trans (Eq.symm (if_pos c_5)) hR
        refine va_iald hx hb hK.1 hP 14 0 rfl rfl (jin_in c_5) dX7_goes_32 ?_
        refine lv_iadd hx hb dX7_goes_33 ?_
        refine jlet_i hR (fun y5_1 hR => ?_)
        try dsimp only at hR
        refine lv_istore (lv' := [(5, .int y5_1), (0, .ref a_this), (1, .int z1), (2, .ref a_this_above), (3, .ref a_this_below), (4, .int z4)]) hx hb dX7_goes_34 hl (by decide) rfl (fun ls hl => ?_)
        refine lv_iinc (v := z4 + 1) (lv' := [(4, .int (z4 + 1)), (5, .int y5_1), (0, .ref a_this), (1, .int z1), (2, .ref a_this_above), (3, .ref a_this_below)]) hx hb dX7_goes_36 hl (k := 5) rfl (by first | rfl | decide) (by decide) rfl (fun ls hl => ?_)
        refine lv_goto (tgt := 6) hx hb dX7_goes_39 (by decide) ?_
        exact ih (z4 + 1) y5_1 _ (lv_sub hl [2, 3, 4, 5, 0, 1] rfl) _ hR k
  have L48 : ∀ (n : Nat) (z1 : Int32) (z4 : Int32) (z5 : Int32) (z6 : Int32) (z7 : Int32) (ls : Array Slot), lv_has ls 8 [(0, .ref a_this), (1, .int z1), (2, .ref a_this_above), (3, .ref a_this_below), (4, .int z4), (5, .int z5), (6, .int z6), (7, .int z7)] → ∀ q, jf_Mo_goes_above_below_L48 v_above v_below v_length z1 z4 z5 n z6 z7 = some q → (∀ ls : Array Slot, lv_has ls 8 [(1, .int z1), (5, .int z5), (6, .int q)] → W p l e jr_Mo_goes_above_below s m ([.ref a_this, .int x1, .ref a_this_above, .ref a_this_below] : List Value).toArray below meth c s.heap [] 0 0 Q (F0 m 79 ls [])) → W p l e jr_Mo_goes_above_below s m ([.ref a_this, .int x1, .ref a_this_above, .ref a_this_below] : List Value).toArray below meth c s.heap [] 0 0 Q (F0 m 48 ls []) := by
    intro n z1 z4 z5
    induction n with
    | zero =>
      intro z6 z7 ls hl q hR k
      cases hR
    | succ n ih =>
      intro z6 z7 ls hl q hR k
      rw [jf_Mo_goes_above_below_L48] at hR
      refine lv_aload_n hx hb dX7_goes_48 rfl (lv_at hl 3 rfl) ?_
      refine lv_iload hx hb dX7_goes_49 (lv_at hl 7 rfl) ?_
      by_cases c_6 : jin z7 6 = true
      case neg => replace hR := Eq.trans (Eq.symm (if_neg c_6)) hR; cases hR
      replace hR := Eq.trans (Eq.symm (if_pos c_6)) hR
      refine va_iald hx hb hK.1 hP 13 0 rfl rfl (jin_in c_6) dX7_goes_51 ?_
      refine lv_aload_n hx hb dX7_goes_52 rfl (lv_at hl 2 rfl) ?_
      refine lv_iload hx hb dX7_goes_53 (lv_at hl 4 rfl) ?_
      by_cases c_7 : jin z4 6 = true
      case neg => replace hR := Eq.trans (Eq.symm (if_neg c_7)) hR; cases hR
      replace hR := Eq.trans (Eq.symm (if_pos c_7)) hR
      refine va_iald hx hb hK.1 hP 12 0 rfl rfl (jin_in c_7) dX7_goes_55 ?_
      refine lv_icmp_eq (tgt := 79) hx hb dX7_goes_56 (by decide) (fun c_8 => ?_) (fun c_8 => ?_)
      · replace hR := Eq.trans (Eq.symm (if_pos c_8)) hR
        cases hR
        exact k _ (lv_sub hl [1, 5, 6] rfl)
      · replace hR := Eq.trans (Eq.symm (if_neg c_8)) hR
        refine lv_iload hx hb dX7_goes_59 (lv_at hl 6 rfl) ?_
        refine lv_aload_n hx hb dX7_goes_61 rfl (lv_at hl 0 rfl) ?_
        refine va_get (D := g.1) (ci := 7) (v := .ref a_this_length) (C := RX7) (T := TX7) (N := 20) hx hb hts w_X7 hown hK.1 hP 0 rfl rfl 18 (by decide) w_f54 (fun _ h9 => h9) rfl dX7_goes_62 ?_
        refine lv_aload_n hx hb dX7_goes_65 rfl (lv_at hl 3 rfl) ?_
        refine lv_iload hx hb dX7_goes_66 (lv_at hl 7 rfl) ?_
        by_cases c_9 : jin z7 6 = true
        case neg => replace hR := Eq.trans (Eq.symm (if_neg c_9)) hR; cases hR
        replace hR := Eq.trans (Eq.symm (if_pos c_9)) hR
        refine va_iald hx hb hK.1 hP 13 0 rfl rfl (jin_in c_9) dX7_goes_68 ?_
        by_cases c_10 : jin (v_below z7.toNatClampNeg) 6 = true
        case neg => replace hR := Eq.trans (Eq.symm (if_neg c_10)) hR; cases hR
        replace hR := Eq.trans (Eq.symm (if_pos c_10)) hR
        refine va_iald hx hb hK.1 hP 14 0 rfl rfl (jin_in c_10) dX7_goes_69 ?_
        refine lv_iadd hx hb dX7_goes_70 ?_
        refine jlet_i hR (fun y6_1 hR => ?_)
        try dsimp only at hR
        refine lv_istore (lv' := [(6, .int y6_1), (0, .ref a_this), (1, .int z1), (2, .ref a_this_above), (3, .ref a_this_below), (4, .int z4), (5, .int z5), (7, .int z7)]) hx hb dX7_goes_71 hl (by decide) rfl (fun ls hl => ?_)
        refine lv_iinc (v := z7 + 1) (lv' := [(7, .int (z7 + 1)), (6, .int y6_1), (0, .ref a_this), (1, .int z1), (2, .ref a_this_above), (3, .ref a_this_below), (4, .int z4), (5, .int z5)]) hx hb dX7_goes_73 hl (k := 7) rfl (by first | rfl | decide) (by decide) rfl (fun ls hl => ?_)
        refine lv_goto (tgt := 48) hx hb dX7_goes_76 (by decide) ?_
        exact ih y6_1 (z7 + 1) _ (lv_sub hl [2, 3, 4, 5, 6, 7, 1, 0] rfl) _ hR k
  rw [jf_Mo_goes_above_below] at hR
  refine lv_iconst (v := 0) hx hb dX7_goes_0 (by decide) ?_
  refine lv_istore (lv' := [(4, .int 0), (0, .ref a_this), (1, .int x1), (2, .ref a_this_above), (3, .ref a_this_below)]) hx hb dX7_goes_1 hl (by decide) rfl (fun ls hl => ?_)
  refine lv_iconst (v := 0) hx hb dX7_goes_3 (by decide) ?_
  refine lv_istore (lv' := [(5, .int 0), (4, .int 0), (0, .ref a_this), (1, .int x1), (2, .ref a_this_above), (3, .ref a_this_below)]) hx hb dX7_goes_4 hl (by decide) rfl (fun ls hl => ?_)
  obtain ⟨q_1, hq_1, hR⟩ := jbind hR
  try dsimp only at hR
  refine L6 jF x1 0 0 _ (lv_sub hl [2, 3, 4, 5, 1, 0] rfl) _ hq_1 (fun ls hl => ?_)
  refine lv_iconst (v := 0) hx hb dX7_goes_42 (by decide) ?_
  refine lv_istore (lv' := [(6, .int 0), (0, .ref a_this), (1, .int x1), (2, .ref a_this_above), (3, .ref a_this_below), (4, .int q_1.1), (5, .int q_1.2)]) hx hb dX7_goes_43 hl (by decide) rfl (fun ls hl => ?_)
  refine lv_iconst (v := 0) hx hb dX7_goes_45 (by decide) ?_
  refine lv_istore (lv' := [(7, .int 0), (6, .int 0), (0, .ref a_this), (1, .int x1), (2, .ref a_this_above), (3, .ref a_this_below), (4, .int q_1.1), (5, .int q_1.2)]) hx hb dX7_goes_46 hl (by decide) rfl (fun ls hl => ?_)
  obtain ⟨q_2, hq_2, hR⟩ := jbind hR
  try dsimp only at hR
  refine L48 jF x1 q_1.1 q_1.2 0 0 _ (lv_sub hl [2, 3, 4, 5, 6, 7, 1, 0] rfl) _ hq_2 (fun ls hl => ?_)
  refine lv_iload hx hb dX7_goes_79 (lv_at hl 2 rfl) ?_
  refine lv_iload_n hx hb dX7_goes_81 rfl (lv_at hl 0 rfl) ?_
  refine lv_iadd hx hb dX7_goes_82 ?_
  refine lv_iload hx hb dX7_goes_83 (lv_at hl 1 rfl) ?_
  refine lv_isub hx hb dX7_goes_85 ?_
  exact fin _ _ _ (Option.some.inj hR) dX7_goes_86
def jf_Mo_image (v_thrown : Int32) (v_intervals : Int32) (v_above : Nat → Int32) (v_below : Nat → Int32) (v_length : Nat → Int32) (x1 : Int32) : Option (Int32 × Int32) :=
  Option.bind (jf_Mo_asksPoint v_thrown v_intervals v_length x1) (fun q_1 => if q_1.1 = 0 then (some (0, q_1.2)) else (Option.bind (jf_Mo_goes_above_below v_above v_below v_length x1) (fun q_2 => some (q_2, q_1.2))))
abbrev jr_Mo_image : Room := { frames := 2, cells := 0, slots := 0, locals := 43 }
set_option maxRecDepth 100000 in
set_option maxHeartbeats 4000000 in
theorem jc_Mo_image (l : Launch) (g : jG) (a_this a_this_isBlock a_this_isSeen a_this_lampX a_this_lampY a_this_right a_this_up a_this_keptRight a_this_keptUp a_this_name a_this_part a_this_codes a_this_above a_this_below a_this_length a_this_isMet : Nat) (v_thrown : Int32) (v_isBounce : Int32) (v_lamps : Int32) (v_squares : Int32) (v_intervals : Int32) (v_isBlock : Nat → Int32) (v_isSeen : Nat → Int32) (v_lampX : Nat → Int32) (v_lampY : Nat → Int32) (v_right : Nat → Int32) (v_up : Nat → Int32) (v_keptRight : Nat → Int32) (v_keptUp : Nat → Int32) (v_name : Nat → Int32) (v_part : Nat → Int32) (v_codes : Nat → Int32) (v_above : Nat → Int32) (v_below : Nat → Int32) (v_length : Nat → Int32) (v_isMet : Nat → Int32) (x1 : Int32) (R : Int32 × Int32) (hR : jf_Mo_image v_thrown v_intervals v_above v_below v_length x1 = some R) (sz : Nat) : Met l yX7_image wsX7_image jr_Mo_image (jPw g [.ref a_this, .int x1] (jw_Mo g a_this a_this_isBlock a_this_isSeen a_this_lampX a_this_lampY a_this_right a_this_up a_this_keptRight a_this_keptUp a_this_name a_this_part a_this_codes a_this_above a_this_below a_this_length a_this_isMet v_thrown v_isBounce v_lamps v_squares v_intervals v_isBlock v_isSeen v_lampX v_lampY v_right v_up v_keptRight v_keptUp v_name v_part v_codes v_above v_below v_length v_isMet) sz) (jQi g R.1 (jw_Mo g a_this a_this_isBlock a_this_isSeen a_this_lampX a_this_lampY a_this_right a_this_up a_this_keptRight a_this_keptUp a_this_name a_this_part a_this_codes a_this_above a_this_below a_this_length a_this_isMet R.2 v_isBounce v_lamps v_squares v_intervals v_isBlock v_isSeen v_lampX v_lampY v_right v_up v_keptRight v_keptUp v_name v_part v_codes v_above v_below v_length v_isMet) (va_A (jw_Mo g a_this a_this_isBlock a_this_isSeen a_this_lampX a_this_lampY a_this_right a_this_up a_this_keptRight a_this_keptUp a_this_name a_this_part a_this_codes a_this_above a_this_below a_this_length a_this_isMet v_thrown v_isBounce v_lamps v_squares v_intervals v_isBlock v_isSeen v_lampX v_lampY v_right v_up v_keptRight v_keptUp v_name v_part v_codes v_above v_below v_length v_isMet) sz)) 0 0 (va_A (jw_Mo g a_this a_this_isBlock a_this_isSeen a_this_lampX a_this_lampY a_this_right a_this_up a_this_keptRight a_this_keptUp a_this_name a_this_part a_this_codes a_this_above a_this_below a_this_length a_this_isMet v_thrown v_isBounce v_lamps v_squares v_intervals v_isBlock v_isSeen v_lampX v_lampY v_right v_up v_keptRight v_keptUp v_name v_part v_codes v_above v_below v_length v_isMet) sz) := by
  refine jm_wi (cc := cX7_image) (maxL := 2) (by decide +kernel) rfl (Nat.le_of_ble_eq_true rfl) ?_
  intro p e s m below meth c A Q hx hb hml hown hts hK hP hD hA hS fin ls hl
  have hl : lv_has ls 2 [(0, .ref a_this), (1, .int x1)] := hl
  have hown : s.vm.findClass RX7 = some m.cls := hown
  have w_X7 : ∀ w ∈ u_ws RX7 TX7 20, w ∈ wsX7_image := by decide +kernel
  have w_f48 := hts (.fieldLink RX7 48 "BilliardryModel" "above" "[I") (by decide +kernel)
  have w_f51 := hts (.fieldLink RX7 51 "BilliardryModel" "below" "[I") (by decide +kernel)
  rw [jf_Mo_image] at hR
  refine lv_aload_n hx hb dX7_image_0 rfl (lv_at hl 0 rfl) ?_
  refine lv_iload_n hx hb dX7_image_1 rfl (lv_at hl 1 rfl) ?_
  obtain ⟨q_1, hq_1, hR⟩ := jbind hR
  try dsimp only at hR
  refine jcall_wi (ws' := jw_Mo g a_this a_this_isBlock a_this_isSeen a_this_lampX a_this_lampY a_this_right a_this_up a_this_keptRight a_this_keptUp a_this_name a_this_part a_this_codes a_this_above a_this_below a_this_length a_this_isMet q_1.2 v_isBounce v_lamps v_squares v_intervals v_isBlock v_isSeen v_lampX v_lampY v_right v_up v_keptRight v_keptUp v_name v_part v_codes v_above v_below v_length v_isMet) (va_runV (As := [.int x1]) (rest := []) ⟨hx, hb, hml, hown, hts⟩ (jc_Mo_asksPoint l g a_this a_this_isBlock a_this_isSeen a_this_lampX a_this_lampY a_this_right a_this_up a_this_keptRight a_this_keptUp a_this_name a_this_part a_this_codes a_this_above a_this_below a_this_length a_this_isMet v_thrown v_isBounce v_lamps v_squares v_intervals v_isBlock v_isSeen v_lampX v_lampY v_right v_up v_keptRight v_keptUp v_name v_part v_codes v_above v_below v_length v_isMet x1 _ hq_1 _) (cwV 1 hts gX7_image_X7_asksPoint rfl rfl rfl (by decide +kernel) ⟨Nat.le_of_ble_eq_true rfl, Nat.le_of_ble_eq_true rfl⟩) (jpw_v hK hP (jD_to hD rfl) (ci := 7) (q0 := 0) rfl rfl) rfl rfl hl.1 rfl (lv_room (Nat.le_of_ble_eq_true rfl)) dX7_image_2 ⟨Nat.zero_le _, Nat.zero_le _⟩) hP (jD_to hD rfl) hS hA [0, 1, 2, 3, 4, 5, 6, 7, 8, 9, 10, 11, 12, 13, 14, 15] [] [0, 1, 2, 3, 4, 5, 6, 7, 8, 9, 10, 11, 12, 13, 14, 15] rfl (by decide) rfl (fun H locs hP hS => ?_)
  refine lv_if_eq (tgt := 24) hx hb dX7_image_5 (by decide) (fun c_1 => ?_) (fun c_1 => ?_)
  · replace hR := Eq.trans (Eq.symm (if_pos c_1)) hR
    refine lv_iconst (v := 0) hx hb dX7_image_24 (by decide) ?_
    obtain rfl := (Option.some.inj hR)
    exact fin _ _ _ _ _ rfl hP hS dX7_image_25
  · replace hR := Eq.trans (Eq.symm (if_neg c_1)) hR
    refine lv_aload_n hx hb dX7_image_8 rfl (lv_at hl 0 rfl) ?_
    refine lv_iload_n hx hb dX7_image_9 rfl (lv_at hl 1 rfl) ?_
    refine lv_aload_n hx hb dX7_image_10 rfl (lv_at hl 0 rfl) ?_
    refine va_get (D := g.1) (ci := 7) (v := .ref a_this_above) (C := RX7) (T := TX7) (N := 20) hx hb hts w_X7 hown hK.1 hP 0 rfl rfl 16 (by decide) w_f48 (fun _ h9 => h9) rfl dX7_image_11 ?_
    refine lv_aload_n hx hb dX7_image_14 rfl (lv_at hl 0 rfl) ?_
    refine va_get (D := g.1) (ci := 7) (v := .ref a_this_below) (C := RX7) (T := TX7) (N := 20) hx hb hts w_X7 hown hK.1 hP 0 rfl rfl 17 (by decide) w_f51 (fun _ h9 => h9) rfl dX7_image_15 ?_
    obtain ⟨q_2, hq_2, hR⟩ := jbind hR
    try dsimp only at hR
    refine jcall_ri (va_runV (As := [.int x1, .ref a_this_above, .ref a_this_below]) (rest := []) ⟨hx, hb, hml, hown, hts⟩ (jc_Mo_goes_above_below l g a_this a_this_isBlock a_this_isSeen a_this_lampX a_this_lampY a_this_right a_this_up a_this_keptRight a_this_keptUp a_this_name a_this_part a_this_codes a_this_above a_this_below a_this_length a_this_isMet q_1.2 v_isBounce v_lamps v_squares v_intervals v_isBlock v_isSeen v_lampX v_lampY v_right v_up v_keptRight v_keptUp v_name v_part v_codes v_above v_below v_length v_isMet x1 _ hq_2) (cwV 3 hts gX7_image_X7_goes rfl rfl rfl (by decide +kernel) ⟨Nat.le_of_ble_eq_true rfl, Nat.le_of_ble_eq_true rfl⟩) (jpr_v hK hP (ci := 7) (q0 := 0) rfl rfl) rfl rfl hl.1 rfl (lv_room (Nat.le_of_ble_eq_true rfl)) dX7_image_18 ⟨Nat.zero_le _, Nat.zero_le _⟩) ?_
    refine lv_goto (tgt := 25) hx hb dX7_image_21 (by decide) ?_
    obtain rfl := (Option.some.inj hR)
    exact fin _ _ _ _ _ rfl hP hS dX7_image_25
def jf_Mo_goes_below_above_L6 (v_below : Nat → Int32) (v_length : Nat → Int32) (z1 : Int32) : Nat → Int32 → Int32 → Option (Int32 × Int32)
  | 0, _, _ => none
  | n + 1, z4, z5 =>
    if jin z4 6 = true then (if jin (v_below z4.toNatClampNeg) 6 = true then (if z1 < z5 + (v_length (v_below z4.toNatClampNeg).toNatClampNeg) then (some (z4, z5)) else (if jin z4 6 = true then (if jin (v_below z4.toNatClampNeg) 6 = true then (jlet (z5 + (v_length (v_below z4.toNatClampNeg).toNatClampNeg)) (fun y5_1 => (jf_Mo_goes_below_above_L6 v_below v_length z1 n) (z4 + 1) y5_1)) else none) else none)) else none) else none
def jf_Mo_goes_below_above_L48 (v_above : Nat → Int32) (v_below : Nat → Int32) (v_length : Nat → Int32) (z1 : Int32) (z4 : Int32) (z5 : Int32) : Nat → Int32 → Int32 → Option Int32
  | 0, _, _ => none
  | n + 1, z6, z7 =>
    if jin z7 6 = true then (if jin z4 6 = true then (if v_above z7.toNatClampNeg = v_below z4.toNatClampNeg then (some z6) else (if jin z7 6 = true then (if jin (v_above z7.toNatClampNeg) 6 = true then (jlet (z6 + (v_length (v_above z7.toNatClampNeg).toNatClampNeg)) (fun y6_1 => (jf_Mo_goes_below_above_L48 v_above v_below v_length z1 z4 z5 n) y6_1 (z7 + 1))) else none) else none)) else none) else none
def jf_Mo_goes_below_above (v_above : Nat → Int32) (v_below : Nat → Int32) (v_length : Nat → Int32) (x1 : Int32) : Option Int32 :=
  Option.bind (jf_Mo_goes_below_above_L6 v_below v_length x1 jF 0 0) (fun q_1 => Option.bind (jf_Mo_goes_below_above_L48 v_above v_below v_length x1 q_1.1 q_1.2 jF 0 0) (fun q_2 => some ((q_2 + x1) - q_1.2)))
abbrev jr_Mo_goes_below_above : Room := { frames := 0, cells := 0, slots := 0, locals := 0 }
set_option maxRecDepth 100000 in
set_option maxHeartbeats 4000000 in
theorem jc_Mo_goes_below_above (l : Launch) (g : jG) (a_this a_this_isBlock a_this_isSeen a_this_lampX a_this_lampY a_this_right a_this_up a_this_keptRight a_this_keptUp a_this_name a_this_part a_this_codes a_this_above a_this_below a_this_length a_this_isMet : Nat) (v_thrown : Int32) (v_isBounce : Int32) (v_lamps : Int32) (v_squares : Int32) (v_intervals : Int32) (v_isBlock : Nat → Int32) (v_isSeen : Nat → Int32) (v_lampX : Nat → Int32) (v_lampY : Nat → Int32) (v_right : Nat → Int32) (v_up : Nat → Int32) (v_keptRight : Nat → Int32) (v_keptUp : Nat → Int32) (v_name : Nat → Int32) (v_part : Nat → Int32) (v_codes : Nat → Int32) (v_above : Nat → Int32) (v_below : Nat → Int32) (v_length : Nat → Int32) (v_isMet : Nat → Int32) (x1 : Int32) (R : Int32) (hR : jf_Mo_goes_below_above v_above v_below v_length x1 = some R) : Met l yX7_goes wsX7_goes jr_Mo_goes_below_above (jPr g [.ref a_this, .int x1, .ref a_this_below, .ref a_this_above] (jw_Mo g a_this a_this_isBlock a_this_isSeen a_this_lampX a_this_lampY a_this_right a_this_up a_this_keptRight a_this_keptUp a_this_name a_this_part a_this_codes a_this_above a_this_below a_this_length a_this_isMet v_thrown v_isBounce v_lamps v_squares v_intervals v_isBlock v_isSeen v_lampX v_lampY v_right v_up v_keptRight v_keptUp v_name v_part v_codes v_above v_below v_length v_isMet)) (vp_Si (fun r => r = R)) 0 0 (fun _ => False) := by
  refine jm_ri (cc := cX7_goes) (maxL := 8) (by decide +kernel) rfl (Nat.le_of_ble_eq_true rfl) ?_
  intro p e s m below meth c Q hx hb hml hown hts hK hP fin ls hl
  have hl : lv_has ls 8 [(0, .ref a_this), (1, .int x1), (2, .ref a_this_below), (3, .ref a_this_above)] := hl
  have hown : s.vm.findClass RX7 = some m.cls := hown
  have w_X7 : ∀ w ∈ u_ws RX7 TX7 20, w ∈ wsX7_goes := by decide +kernel
  have w_f54 := hts (.fieldLink RX7 54 "BilliardryModel" "length" "[I") (by decide +kernel)
  have L6 : ∀ (n : Nat) (z1 : Int32) (z4 : Int32) (z5 : Int32) (ls : Array Slot), lv_has ls 8 [(0, .ref a_this), (1, .int z1), (2, .ref a_this_below), (3, .ref a_this_above), (4, .int z4), (5, .int z5)] → ∀ q, jf_Mo_goes_below_above_L6 v_below v_length z1 n z4 z5 = some q → (∀ ls : Array Slot, lv_has ls 8 [(0, .ref a_this), (1, .int z1), (2, .ref a_this_below), (3, .ref a_this_above), (4, .int q.1), (5, .int q.2)] → W p l e jr_Mo_goes_below_above s m ([.ref a_this, .int x1, .ref a_this_below, .ref a_this_above] : List Value).toArray below meth c s.heap [] 0 0 Q (F0 m 42 ls [])) → W p l e jr_Mo_goes_below_above s m ([.ref a_this, .int x1, .ref a_this_below, .ref a_this_above] : List Value).toArray below meth c s.heap [] 0 0 Q (F0 m 6 ls []) := by
    intro n z1
    induction n with
    | zero =>
      intro z4 z5 ls hl q hR k
      cases hR
    | succ n ih =>
      intro z4 z5 ls hl q hR k
      rw [jf_Mo_goes_below_above_L6] at hR
      refine lv_iload_n hx hb dX7_goes_6 rfl (lv_at hl 1 rfl) ?_
      refine lv_iload hx hb dX7_goes_7 (lv_at hl 5 rfl) ?_
      refine lv_aload_n hx hb dX7_goes_9 rfl (lv_at hl 0 rfl) ?_
      refine va_get (D := g.1) (ci := 7) (v := .ref a_this_length) (C := RX7) (T := TX7) (N := 20) hx hb hts w_X7 hown hK.1 hP 0 rfl rfl 18 (by decide) w_f54 (fun _ h9 => h9) rfl dX7_goes_10 ?_
      refine lv_aload_n hx hb dX7_goes_13 rfl (lv_at hl 2 rfl) ?_
      refine lv_iload hx hb dX7_goes_14 (lv_at hl 4 rfl) ?_
      by_cases c_1 : jin z4 6 = true
      case neg => replace hR := Eq.trans (Eq.symm (if_neg c_1)) hR; cases hR
      replace hR := Eq.trans (Eq.symm (if_pos c_1)) hR
      refine va_iald hx hb hK.1 hP 13 0 rfl rfl (jin_in c_1) dX7_goes_16 ?_
      by_cases c_2 : jin (v_below z4.toNatClampNeg) 6 = true
      case neg => replace hR := Eq.trans (Eq.symm (if_neg c_2)) hR; cases hR
      replace hR := Eq.trans (Eq.symm (if_pos c_2)) hR
      refine va_iald hx hb hK.1 hP 14 0 rfl rfl (jin_in c_2) dX7_goes_17 ?_
      refine lv_iadd hx hb dX7_goes_18 ?_
      refine lv_icmp_lt (tgt := 42) hx hb dX7_goes_19 (by decide) (fun c_3 => ?_) (fun c_3 => ?_)
      · replace hR := Eq.trans (Eq.symm (if_pos c_3)) hR
        cases hR
        exact k _ (lv_sub hl [0, 1, 2, 3, 4, 5] rfl)
      · replace hR := Eq.trans (Eq.symm (if_neg c_3)) hR
        refine lv_iload hx hb dX7_goes_22 (lv_at hl 5 rfl) ?_
        refine lv_aload_n hx hb dX7_goes_24 rfl (lv_at hl 0 rfl) ?_
        refine va_get (D := g.1) (ci := 7) (v := .ref a_this_length) (C := RX7) (T := TX7) (N := 20) hx hb hts w_X7 hown hK.1 hP 0 rfl rfl 18 (by decide) w_f54 (fun _ h9 => h9) rfl dX7_goes_25 ?_
        refine lv_aload_n hx hb dX7_goes_28 rfl (lv_at hl 2 rfl) ?_
        refine lv_iload hx hb dX7_goes_29 (lv_at hl 4 rfl) ?_
        by_cases c_4 : jin z4 6 = true
        case neg => replace hR := Eq.trans (Eq.symm (if_neg c_4)) hR; cases hR
        replace hR := Eq.trans (Eq.symm (if_pos c_4)) hR
        refine va_iald hx hb hK.1 hP 13 0 rfl rfl (jin_in c_4) dX7_goes_31 ?_
        by_cases c_5 : jin (v_below z4.toNatClampNeg) 6 = true
        case neg => replace hR := Eq.trans (Eq.symm (if_neg c_5)) hR; cases hR
        replace hR := Eq.trans (Eq.symm (if_pos c_5)) hR
        refine va_iald hx hb hK.1 hP 14 0 rfl rfl (jin_in c_5) dX7_goes_32 ?_
        refine lv_iadd hx hb dX7_goes_33 ?_
        refine jlet_i hR (fun y5_1 hR => ?_)
        try dsimp only at hR
        refine lv_istore (lv' := [(5, .int y5_1), (0, .ref a_this), (1, .int z1), (2, .ref a_this_below), (3, .ref a_this_above), (4, .int z4)]) hx hb dX7_goes_34 hl (by decide) rfl (fun ls hl => ?_)
        refine lv_iinc (v := z4 + 1) (lv' := [(4, .int (z4 + 1)), (5, .int y5_1), (0, .ref a_this), (1, .int z1), (2, .ref a_this_below), (3, .ref a_this_above)]) hx hb dX7_goes_36 hl (k := 5) rfl (by first | rfl | decide) (by decide) rfl (fun ls hl => ?_)
        refine lv_goto (tgt := 6) hx hb dX7_goes_39 (by decide) ?_
        exact ih (z4 + 1) y5_1 _ (lv_sub hl [2, 3, 4, 5, 0, 1] rfl) _ hR k
  have L48 : ∀ (n : Nat) (z1 : Int32) (z4 : Int32) (z5 : Int32) (z6 : Int32) (z7 : Int32) (ls : Array Slot), lv_has ls 8 [(0, .ref a_this), (1, .int z1), (2, .ref a_this_below), (3, .ref a_this_above), (4, .int z4), (5, .int z5), (6, .int z6), (7, .int z7)] → ∀ q, jf_Mo_goes_below_above_L48 v_above v_below v_length z1 z4 z5 n z6 z7 = some q → (∀ ls : Array Slot, lv_has ls 8 [(1, .int z1), (5, .int z5), (6, .int q)] → W p l e jr_Mo_goes_below_above s m ([.ref a_this, .int x1, .ref a_this_below, .ref a_this_above] : List Value).toArray below meth c s.heap [] 0 0 Q (F0 m 79 ls [])) → W p l e jr_Mo_goes_below_above s m ([.ref a_this, .int x1, .ref a_this_below, .ref a_this_above] : List Value).toArray below meth c s.heap [] 0 0 Q (F0 m 48 ls []) := by
    intro n z1 z4 z5
    induction n with
    | zero =>
      intro z6 z7 ls hl q hR k
      cases hR
    | succ n ih =>
      intro z6 z7 ls hl q hR k
      rw [jf_Mo_goes_below_above_L48] at hR
      refine lv_aload_n hx hb dX7_goes_48 rfl (lv_at hl 3 rfl) ?_
      refine lv_iload hx hb dX7_goes_49 (lv_at hl 7 rfl) ?_
      by_cases c_6 : jin z7 6 = true
      case neg => replace hR := Eq.trans (Eq.symm (if_neg c_6)) hR; cases hR
      replace hR := Eq.trans (Eq.symm (if_pos c_6)) hR
      refine va_iald hx hb hK.1 hP 12 0 rfl rfl (jin_in c_6) dX7_goes_51 ?_
      refine lv_aload_n hx hb dX7_goes_52 rfl (lv_at hl 2 rfl) ?_
      refine lv_iload hx hb dX7_goes_53 (lv_at hl 4 rfl) ?_
      by_cases c_7 : jin z4 6 = true
      case neg => replace hR := Eq.trans (Eq.symm (if_neg c_7)) hR; cases hR
      replace hR := Eq.trans (Eq.symm (if_pos c_7)) hR
      refine va_iald hx hb hK.1 hP 13 0 rfl rfl (jin_in c_7) dX7_goes_55 ?_
      refine lv_icmp_eq (tgt := 79) hx hb dX7_goes_56 (by decide) (fun c_8 => ?_) (fun c_8 => ?_)
      · replace hR := Eq.trans (Eq.symm (if_pos c_8)) hR
        cases hR
        exact k _ (lv_sub hl [1, 5, 6] rfl)
      · replace hR := Eq.trans (Eq.symm (if_neg c_8)) hR
        refine lv_iload hx hb dX7_goes_59 (lv_at hl 6 rfl) ?_
        refine lv_aload_n hx hb dX7_goes_61 rfl (lv_at hl 0 rfl) ?_
        refine va_get (D := g.1) (ci := 7) (v := .ref a_this_length) (C := RX7) (T := TX7) (N := 20) hx hb hts w_X7 hown hK.1 hP 0 rfl rfl 18 (by decide) w_f54 (fun _ h9 => h9) rfl dX7_goes_62 ?_
        refine lv_aload_n hx hb dX7_goes_65 rfl (lv_at hl 3 rfl) ?_
        refine lv_iload hx hb dX7_goes_66 (lv_at hl 7 rfl) ?_
        by_cases c_9 : jin z7 6 = true
        case neg => replace hR := Eq.trans (Eq.symm (if_neg c_9)) hR; cases hR
        replace hR := Eq.trans (Eq.symm (if_pos c_9)) hR
        refine va_iald hx hb hK.1 hP 12 0 rfl rfl (jin_in c_9) dX7_goes_68 ?_
        by_cases c_10 : jin (v_above z7.toNatClampNeg) 6 = true
        case neg => replace hR := Eq.trans (Eq.symm (if_neg c_10)) hR; cases hR
        replace hR := Eq.trans (Eq.symm (if_pos c_10)) hR
        refine va_iald hx hb hK.1 hP 14 0 rfl rfl (jin_in c_10) dX7_goes_69 ?_
        refine lv_iadd hx hb dX7_goes_70 ?_
        refine jlet_i hR (fun y6_1 hR => ?_)
        try dsimp only at hR
        refine lv_istore (lv' := [(6, .int y6_1), (0, .ref a_this), (1, .int z1), (2, .ref a_this_below), (3, .ref a_this_above), (4, .int z4), (5, .int z5), (7, .int z7)]) hx hb dX7_goes_71 hl (by decide) rfl (fun ls hl => ?_)
        refine lv_iinc (v := z7 + 1) (lv' := [(7, .int (z7 + 1)), (6, .int y6_1), (0, .ref a_this), (1, .int z1), (2, .ref a_this_below), (3, .ref a_this_above), (4, .int z4), (5, .int z5)]) hx hb dX7_goes_73 hl (k := 7) rfl (by first | rfl | decide) (by decide) rfl (fun ls hl => ?_)
        refine lv_goto (tgt := 48) hx hb dX7_goes_76 (by decide) ?_
        exact ih y6_1 (z7 + 1) _ (lv_sub hl [2, 3, 4, 5, 6, 7, 1, 0] rfl) _ hR k
  rw [jf_Mo_goes_below_above] at hR
  refine lv_iconst (v := 0) hx hb dX7_goes_0 (by decide) ?_
  refine lv_istore (lv' := [(4, .int 0), (0, .ref a_this), (1, .int x1), (2, .ref a_this_below), (3, .ref a_this_above)]) hx hb dX7_goes_1 hl (by decide) rfl (fun ls hl => ?_)
  refine lv_iconst (v := 0) hx hb dX7_goes_3 (by decide) ?_
  refine lv_istore (lv' := [(5, .int 0), (4, .int 0), (0, .ref a_this), (1, .int x1), (2, .ref a_this_below), (3, .ref a_this_above)]) hx hb dX7_goes_4 hl (by decide) rfl (fun ls hl => ?_)
  obtain ⟨q_1, hq_1, hR⟩ := jbind hR
  try dsimp only at hR
  refine L6 jF x1 0 0 _ (lv_sub hl [2, 3, 4, 5, 1, 0] rfl) _ hq_1 (fun ls hl => ?_)
  refine lv_iconst (v := 0) hx hb dX7_goes_42 (by decide) ?_
  refine lv_istore (lv' := [(6, .int 0), (0, .ref a_this), (1, .int x1), (2, .ref a_this_below), (3, .ref a_this_above), (4, .int q_1.1), (5, .int q_1.2)]) hx hb dX7_goes_43 hl (by decide) rfl (fun ls hl => ?_)
  refine lv_iconst (v := 0) hx hb dX7_goes_45 (by decide) ?_
  refine lv_istore (lv' := [(7, .int 0), (6, .int 0), (0, .ref a_this), (1, .int x1), (2, .ref a_this_below), (3, .ref a_this_above), (4, .int q_1.1), (5, .int q_1.2)]) hx hb dX7_goes_46 hl (by decide) rfl (fun ls hl => ?_)
  obtain ⟨q_2, hq_2, hR⟩ := jbind hR
  try dsimp only at hR
  refine L48 jF x1 q_1.1 q_1.2 0 0 _ (lv_sub hl [2, 3, 4, 5, 6, 7, 1, 0] rfl) _ hq_2 (fun ls hl => ?_)
  refine lv_iload hx hb dX7_goes_79 (lv_at hl 2 rfl) ?_
  refine lv_iload_n hx hb dX7_goes_81 rfl (lv_at hl 0 rfl) ?_
  refine lv_iadd hx hb dX7_goes_82 ?_
  refine lv_iload hx hb dX7_goes_83 (lv_at hl 1 rfl) ?_
  refine lv_isub hx hb dX7_goes_85 ?_
  exact fin _ _ _ (Option.some.inj hR) dX7_goes_86
def jf_Mo_back (v_thrown : Int32) (v_intervals : Int32) (v_above : Nat → Int32) (v_below : Nat → Int32) (v_length : Nat → Int32) (x1 : Int32) : Option (Int32 × Int32) :=
  Option.bind (jf_Mo_asksPoint v_thrown v_intervals v_length x1) (fun q_1 => if q_1.1 = 0 then (some (0, q_1.2)) else (Option.bind (jf_Mo_goes_below_above v_above v_below v_length x1) (fun q_2 => some (q_2, q_1.2))))
abbrev jr_Mo_back : Room := { frames := 2, cells := 0, slots := 0, locals := 43 }
set_option maxRecDepth 100000 in
set_option maxHeartbeats 4000000 in
theorem jc_Mo_back (l : Launch) (g : jG) (a_this a_this_isBlock a_this_isSeen a_this_lampX a_this_lampY a_this_right a_this_up a_this_keptRight a_this_keptUp a_this_name a_this_part a_this_codes a_this_above a_this_below a_this_length a_this_isMet : Nat) (v_thrown : Int32) (v_isBounce : Int32) (v_lamps : Int32) (v_squares : Int32) (v_intervals : Int32) (v_isBlock : Nat → Int32) (v_isSeen : Nat → Int32) (v_lampX : Nat → Int32) (v_lampY : Nat → Int32) (v_right : Nat → Int32) (v_up : Nat → Int32) (v_keptRight : Nat → Int32) (v_keptUp : Nat → Int32) (v_name : Nat → Int32) (v_part : Nat → Int32) (v_codes : Nat → Int32) (v_above : Nat → Int32) (v_below : Nat → Int32) (v_length : Nat → Int32) (v_isMet : Nat → Int32) (x1 : Int32) (R : Int32 × Int32) (hR : jf_Mo_back v_thrown v_intervals v_above v_below v_length x1 = some R) (sz : Nat) : Met l yX7_back wsX7_back jr_Mo_back (jPw g [.ref a_this, .int x1] (jw_Mo g a_this a_this_isBlock a_this_isSeen a_this_lampX a_this_lampY a_this_right a_this_up a_this_keptRight a_this_keptUp a_this_name a_this_part a_this_codes a_this_above a_this_below a_this_length a_this_isMet v_thrown v_isBounce v_lamps v_squares v_intervals v_isBlock v_isSeen v_lampX v_lampY v_right v_up v_keptRight v_keptUp v_name v_part v_codes v_above v_below v_length v_isMet) sz) (jQi g R.1 (jw_Mo g a_this a_this_isBlock a_this_isSeen a_this_lampX a_this_lampY a_this_right a_this_up a_this_keptRight a_this_keptUp a_this_name a_this_part a_this_codes a_this_above a_this_below a_this_length a_this_isMet R.2 v_isBounce v_lamps v_squares v_intervals v_isBlock v_isSeen v_lampX v_lampY v_right v_up v_keptRight v_keptUp v_name v_part v_codes v_above v_below v_length v_isMet) (va_A (jw_Mo g a_this a_this_isBlock a_this_isSeen a_this_lampX a_this_lampY a_this_right a_this_up a_this_keptRight a_this_keptUp a_this_name a_this_part a_this_codes a_this_above a_this_below a_this_length a_this_isMet v_thrown v_isBounce v_lamps v_squares v_intervals v_isBlock v_isSeen v_lampX v_lampY v_right v_up v_keptRight v_keptUp v_name v_part v_codes v_above v_below v_length v_isMet) sz)) 0 0 (va_A (jw_Mo g a_this a_this_isBlock a_this_isSeen a_this_lampX a_this_lampY a_this_right a_this_up a_this_keptRight a_this_keptUp a_this_name a_this_part a_this_codes a_this_above a_this_below a_this_length a_this_isMet v_thrown v_isBounce v_lamps v_squares v_intervals v_isBlock v_isSeen v_lampX v_lampY v_right v_up v_keptRight v_keptUp v_name v_part v_codes v_above v_below v_length v_isMet) sz) := by
  refine jm_wi (cc := cX7_back) (maxL := 2) (by decide +kernel) rfl (Nat.le_of_ble_eq_true rfl) ?_
  intro p e s m below meth c A Q hx hb hml hown hts hK hP hD hA hS fin ls hl
  have hl : lv_has ls 2 [(0, .ref a_this), (1, .int x1)] := hl
  have hown : s.vm.findClass RX7 = some m.cls := hown
  have w_X7 : ∀ w ∈ u_ws RX7 TX7 20, w ∈ wsX7_back := by decide +kernel
  have w_f51 := hts (.fieldLink RX7 51 "BilliardryModel" "below" "[I") (by decide +kernel)
  have w_f48 := hts (.fieldLink RX7 48 "BilliardryModel" "above" "[I") (by decide +kernel)
  rw [jf_Mo_back] at hR
  refine lv_aload_n hx hb dX7_back_0 rfl (lv_at hl 0 rfl) ?_
  refine lv_iload_n hx hb dX7_back_1 rfl (lv_at hl 1 rfl) ?_
  obtain ⟨q_1, hq_1, hR⟩ := jbind hR
  try dsimp only at hR
  refine jcall_wi (ws' := jw_Mo g a_this a_this_isBlock a_this_isSeen a_this_lampX a_this_lampY a_this_right a_this_up a_this_keptRight a_this_keptUp a_this_name a_this_part a_this_codes a_this_above a_this_below a_this_length a_this_isMet q_1.2 v_isBounce v_lamps v_squares v_intervals v_isBlock v_isSeen v_lampX v_lampY v_right v_up v_keptRight v_keptUp v_name v_part v_codes v_above v_below v_length v_isMet) (va_runV (As := [.int x1]) (rest := []) ⟨hx, hb, hml, hown, hts⟩ (jc_Mo_asksPoint l g a_this a_this_isBlock a_this_isSeen a_this_lampX a_this_lampY a_this_right a_this_up a_this_keptRight a_this_keptUp a_this_name a_this_part a_this_codes a_this_above a_this_below a_this_length a_this_isMet v_thrown v_isBounce v_lamps v_squares v_intervals v_isBlock v_isSeen v_lampX v_lampY v_right v_up v_keptRight v_keptUp v_name v_part v_codes v_above v_below v_length v_isMet x1 _ hq_1 _) (cwV 1 hts gX7_back_X7_asksPoint rfl rfl rfl (by decide +kernel) ⟨Nat.le_of_ble_eq_true rfl, Nat.le_of_ble_eq_true rfl⟩) (jpw_v hK hP (jD_to hD rfl) (ci := 7) (q0 := 0) rfl rfl) rfl rfl hl.1 rfl (lv_room (Nat.le_of_ble_eq_true rfl)) dX7_back_2 ⟨Nat.zero_le _, Nat.zero_le _⟩) hP (jD_to hD rfl) hS hA [0, 1, 2, 3, 4, 5, 6, 7, 8, 9, 10, 11, 12, 13, 14, 15] [] [0, 1, 2, 3, 4, 5, 6, 7, 8, 9, 10, 11, 12, 13, 14, 15] rfl (by decide) rfl (fun H locs hP hS => ?_)
  refine lv_if_eq (tgt := 24) hx hb dX7_back_5 (by decide) (fun c_1 => ?_) (fun c_1 => ?_)
  · replace hR := Eq.trans (Eq.symm (if_pos c_1)) hR
    refine lv_iconst (v := 0) hx hb dX7_back_24 (by decide) ?_
    obtain rfl := (Option.some.inj hR)
    exact fin _ _ _ _ _ rfl hP hS dX7_back_25
  · replace hR := Eq.trans (Eq.symm (if_neg c_1)) hR
    refine lv_aload_n hx hb dX7_back_8 rfl (lv_at hl 0 rfl) ?_
    refine lv_iload_n hx hb dX7_back_9 rfl (lv_at hl 1 rfl) ?_
    refine lv_aload_n hx hb dX7_back_10 rfl (lv_at hl 0 rfl) ?_
    refine va_get (D := g.1) (ci := 7) (v := .ref a_this_below) (C := RX7) (T := TX7) (N := 20) hx hb hts w_X7 hown hK.1 hP 0 rfl rfl 17 (by decide) w_f51 (fun _ h9 => h9) rfl dX7_back_11 ?_
    refine lv_aload_n hx hb dX7_back_14 rfl (lv_at hl 0 rfl) ?_
    refine va_get (D := g.1) (ci := 7) (v := .ref a_this_above) (C := RX7) (T := TX7) (N := 20) hx hb hts w_X7 hown hK.1 hP 0 rfl rfl 16 (by decide) w_f48 (fun _ h9 => h9) rfl dX7_back_15 ?_
    obtain ⟨q_2, hq_2, hR⟩ := jbind hR
    try dsimp only at hR
    refine jcall_ri (va_runV (As := [.int x1, .ref a_this_below, .ref a_this_above]) (rest := []) ⟨hx, hb, hml, hown, hts⟩ (jc_Mo_goes_below_above l g a_this a_this_isBlock a_this_isSeen a_this_lampX a_this_lampY a_this_right a_this_up a_this_keptRight a_this_keptUp a_this_name a_this_part a_this_codes a_this_above a_this_below a_this_length a_this_isMet q_1.2 v_isBounce v_lamps v_squares v_intervals v_isBlock v_isSeen v_lampX v_lampY v_right v_up v_keptRight v_keptUp v_name v_part v_codes v_above v_below v_length v_isMet x1 _ hq_2) (cwV 3 hts gX7_back_X7_goes rfl rfl rfl (by decide +kernel) ⟨Nat.le_of_ble_eq_true rfl, Nat.le_of_ble_eq_true rfl⟩) (jpr_v hK hP (ci := 7) (q0 := 0) rfl rfl) rfl rfl hl.1 rfl (lv_room (Nat.le_of_ble_eq_true rfl)) dX7_back_18 ⟨Nat.zero_le _, Nat.zero_le _⟩) ?_
    refine lv_goto (tgt := 25) hx hb dX7_back_21 (by decide) ?_
    obtain rfl := (Option.some.inj hR)
    exact fin _ _ _ _ _ rfl hP hS dX7_back_25
def jf_Mo_cycle_L26 (v_above : Nat → Int32) (v_below : Nat → Int32) (v_length : Nat → Int32) (z1 : Int32) : Nat → Int32 → Int32 → Option Int32
  | 0, _, _ => none
  | n + 1, z2, z3 =>
    if z3 = z1 then (some z2) else (Option.bind (jf_Mo_goes_above_below v_above v_below v_length z3) (fun q_3 => (jf_Mo_cycle_L26 v_above v_below v_length z1 n) (z2 + 1) q_3))
def jf_Mo_cycle (v_thrown : Int32) (v_intervals : Int32) (v_above : Nat → Int32) (v_below : Nat → Int32) (v_length : Nat → Int32) (x1 : Int32) : Option (Int32 × Int32) :=
  Option.bind (jf_Mo_asksPoint v_thrown v_intervals v_length x1) (fun q_1 => if q_1.1 = 0 then (some (0, q_1.2)) else (Option.bind (jf_Mo_goes_above_below v_above v_below v_length x1) (fun q_2 => Option.bind (jf_Mo_cycle_L26 v_above v_below v_length x1 jF 1 q_2) (fun q_4 => some (q_4, q_1.2)))))
abbrev jr_Mo_cycle : Room := { frames := 2, cells := 0, slots := 0, locals := 43 }
set_option maxRecDepth 100000 in
set_option maxHeartbeats 4000000 in
theorem jc_Mo_cycle (l : Launch) (g : jG) (a_this a_this_isBlock a_this_isSeen a_this_lampX a_this_lampY a_this_right a_this_up a_this_keptRight a_this_keptUp a_this_name a_this_part a_this_codes a_this_above a_this_below a_this_length a_this_isMet : Nat) (v_thrown : Int32) (v_isBounce : Int32) (v_lamps : Int32) (v_squares : Int32) (v_intervals : Int32) (v_isBlock : Nat → Int32) (v_isSeen : Nat → Int32) (v_lampX : Nat → Int32) (v_lampY : Nat → Int32) (v_right : Nat → Int32) (v_up : Nat → Int32) (v_keptRight : Nat → Int32) (v_keptUp : Nat → Int32) (v_name : Nat → Int32) (v_part : Nat → Int32) (v_codes : Nat → Int32) (v_above : Nat → Int32) (v_below : Nat → Int32) (v_length : Nat → Int32) (v_isMet : Nat → Int32) (x1 : Int32) (R : Int32 × Int32) (hR : jf_Mo_cycle v_thrown v_intervals v_above v_below v_length x1 = some R) (sz : Nat) : Met l yX7_cycle wsX7_cycle jr_Mo_cycle (jPw g [.ref a_this, .int x1] (jw_Mo g a_this a_this_isBlock a_this_isSeen a_this_lampX a_this_lampY a_this_right a_this_up a_this_keptRight a_this_keptUp a_this_name a_this_part a_this_codes a_this_above a_this_below a_this_length a_this_isMet v_thrown v_isBounce v_lamps v_squares v_intervals v_isBlock v_isSeen v_lampX v_lampY v_right v_up v_keptRight v_keptUp v_name v_part v_codes v_above v_below v_length v_isMet) sz) (jQi g R.1 (jw_Mo g a_this a_this_isBlock a_this_isSeen a_this_lampX a_this_lampY a_this_right a_this_up a_this_keptRight a_this_keptUp a_this_name a_this_part a_this_codes a_this_above a_this_below a_this_length a_this_isMet R.2 v_isBounce v_lamps v_squares v_intervals v_isBlock v_isSeen v_lampX v_lampY v_right v_up v_keptRight v_keptUp v_name v_part v_codes v_above v_below v_length v_isMet) (va_A (jw_Mo g a_this a_this_isBlock a_this_isSeen a_this_lampX a_this_lampY a_this_right a_this_up a_this_keptRight a_this_keptUp a_this_name a_this_part a_this_codes a_this_above a_this_below a_this_length a_this_isMet v_thrown v_isBounce v_lamps v_squares v_intervals v_isBlock v_isSeen v_lampX v_lampY v_right v_up v_keptRight v_keptUp v_name v_part v_codes v_above v_below v_length v_isMet) sz)) 0 0 (va_A (jw_Mo g a_this a_this_isBlock a_this_isSeen a_this_lampX a_this_lampY a_this_right a_this_up a_this_keptRight a_this_keptUp a_this_name a_this_part a_this_codes a_this_above a_this_below a_this_length a_this_isMet v_thrown v_isBounce v_lamps v_squares v_intervals v_isBlock v_isSeen v_lampX v_lampY v_right v_up v_keptRight v_keptUp v_name v_part v_codes v_above v_below v_length v_isMet) sz) := by
  refine jm_wi (cc := cX7_cycle) (maxL := 4) (by decide +kernel) rfl (Nat.le_of_ble_eq_true rfl) ?_
  intro p e s m below meth c A Q hx hb hml hown hts hK hP hD hA hS fin ls hl
  have hl : lv_has ls 4 [(0, .ref a_this), (1, .int x1)] := hl
  have hown : s.vm.findClass RX7 = some m.cls := hown
  have w_X7 : ∀ w ∈ u_ws RX7 TX7 20, w ∈ wsX7_cycle := by decide +kernel
  have w_f48 := hts (.fieldLink RX7 48 "BilliardryModel" "above" "[I") (by decide +kernel)
  have w_f51 := hts (.fieldLink RX7 51 "BilliardryModel" "below" "[I") (by decide +kernel)
  have L26 : ∀ (n : Nat) (v_thrown : Int32) (z1 : Int32) (z2 : Int32) (z3 : Int32) (H : Heap) (locs : List Loc), va_P g.1 vwCl (jw_Mo g a_this a_this_isBlock a_this_isSeen a_this_lampX a_this_lampY a_this_right a_this_up a_this_keptRight a_this_keptUp a_this_name a_this_part a_this_codes a_this_above a_this_below a_this_length a_this_isMet v_thrown v_isBounce v_lamps v_squares v_intervals v_isBlock v_isSeen v_lampX v_lampY v_right v_up v_keptRight v_keptUp v_name v_part v_codes v_above v_below v_length v_isMet) H → va_S A s.heap H locs → ∀ (ls : Array Slot), lv_has ls 4 [(0, .ref a_this), (1, .int z1), (2, .int z2), (3, .int z3)] → ∀ q, jf_Mo_cycle_L26 v_above v_below v_length z1 n z2 z3 = some q → (∀ (H : Heap) (locs : List Loc), va_P g.1 vwCl (jw_Mo g a_this a_this_isBlock a_this_isSeen a_this_lampX a_this_lampY a_this_right a_this_up a_this_keptRight a_this_keptUp a_this_name a_this_part a_this_codes a_this_above a_this_below a_this_length a_this_isMet v_thrown v_isBounce v_lamps v_squares v_intervals v_isBlock v_isSeen v_lampX v_lampY v_right v_up v_keptRight v_keptUp v_name v_part v_codes v_above v_below v_length v_isMet) H → va_S A s.heap H locs → ∀ ls : Array Slot, lv_has ls 4 [(2, .int q)] → W p l e jr_Mo_cycle s m ([.ref a_this, .int x1] : List Value).toArray below meth c H locs 0 0 Q (F0 m 51 ls [])) → W p l e jr_Mo_cycle s m ([.ref a_this, .int x1] : List Value).toArray below meth c H locs 0 0 Q (F0 m 26 ls []) := by
    intro n v_thrown z1
    induction n with
    | zero =>
      intro z2 z3 H locs hP hS ls hl q hR k
      cases hR
    | succ n ih =>
      intro z2 z3 H locs hP hS ls hl q hR k
      rw [jf_Mo_cycle_L26] at hR
      refine lv_iload_n hx hb dX7_cycle_26 rfl (lv_at hl 3 rfl) ?_
      refine lv_iload_n hx hb dX7_cycle_27 rfl (lv_at hl 1 rfl) ?_
      refine lv_icmp_eq (tgt := 51) hx hb dX7_cycle_28 (by decide) (fun c_2 => ?_) (fun c_2 => ?_)
      · replace hR := Eq.trans (Eq.symm (if_pos c_2)) hR
        cases hR
        exact k _ _ hP hS _ (lv_sub hl [2] rfl)
      · replace hR := Eq.trans (Eq.symm (if_neg c_2)) hR
        refine lv_aload_n hx hb dX7_cycle_31 rfl (lv_at hl 0 rfl) ?_
        refine lv_iload_n hx hb dX7_cycle_32 rfl (lv_at hl 3 rfl) ?_
        refine lv_aload_n hx hb dX7_cycle_33 rfl (lv_at hl 0 rfl) ?_
        refine va_get (D := g.1) (ci := 7) (v := .ref a_this_above) (C := RX7) (T := TX7) (N := 20) hx hb hts w_X7 hown hK.1 hP 0 rfl rfl 16 (by decide) w_f48 (fun _ h9 => h9) rfl dX7_cycle_34 ?_
        refine lv_aload_n hx hb dX7_cycle_37 rfl (lv_at hl 0 rfl) ?_
        refine va_get (D := g.1) (ci := 7) (v := .ref a_this_below) (C := RX7) (T := TX7) (N := 20) hx hb hts w_X7 hown hK.1 hP 0 rfl rfl 17 (by decide) w_f51 (fun _ h9 => h9) rfl dX7_cycle_38 ?_
        obtain ⟨q_3, hq_3, hR⟩ := jbind hR
        try dsimp only at hR
        refine jcall_ri (va_runV (As := [.int z3, .ref a_this_above, .ref a_this_below]) (rest := []) ⟨hx, hb, hml, hown, hts⟩ (jc_Mo_goes_above_below l g a_this a_this_isBlock a_this_isSeen a_this_lampX a_this_lampY a_this_right a_this_up a_this_keptRight a_this_keptUp a_this_name a_this_part a_this_codes a_this_above a_this_below a_this_length a_this_isMet v_thrown v_isBounce v_lamps v_squares v_intervals v_isBlock v_isSeen v_lampX v_lampY v_right v_up v_keptRight v_keptUp v_name v_part v_codes v_above v_below v_length v_isMet z3 _ hq_3) (cwV 3 hts gX7_cycle_X7_goes rfl rfl rfl (by decide +kernel) ⟨Nat.le_of_ble_eq_true rfl, Nat.le_of_ble_eq_true rfl⟩) (jpr_v hK hP (ci := 7) (q0 := 0) rfl rfl) rfl rfl hl.1 rfl (lv_room (Nat.le_of_ble_eq_true rfl)) dX7_cycle_41 ⟨Nat.zero_le _, Nat.zero_le _⟩) ?_
        refine lv_istore_n (lv' := [(3, .int q_3), (0, .ref a_this), (1, .int z1), (2, .int z2)]) hx hb dX7_cycle_44 rfl hl (by decide) rfl (fun ls hl => ?_)
        refine lv_iinc (v := z2 + 1) (lv' := [(2, .int (z2 + 1)), (3, .int q_3), (0, .ref a_this), (1, .int z1)]) hx hb dX7_cycle_45 hl (k := 3) rfl (by first | rfl | decide) (by decide) rfl (fun ls hl => ?_)
        refine lv_goto (tgt := 26) hx hb dX7_cycle_48 (by decide) ?_
        exact ih (z2 + 1) q_3 _ _ hP hS _ (lv_sub hl [2, 3, 0, 1] rfl) _ hR k
  rw [jf_Mo_cycle] at hR
  refine lv_aload_n hx hb dX7_cycle_0 rfl (lv_at hl 0 rfl) ?_
  refine lv_iload_n hx hb dX7_cycle_1 rfl (lv_at hl 1 rfl) ?_
  obtain ⟨q_1, hq_1, hR⟩ := jbind hR
  try dsimp only at hR
  refine jcall_wi (ws' := jw_Mo g a_this a_this_isBlock a_this_isSeen a_this_lampX a_this_lampY a_this_right a_this_up a_this_keptRight a_this_keptUp a_this_name a_this_part a_this_codes a_this_above a_this_below a_this_length a_this_isMet q_1.2 v_isBounce v_lamps v_squares v_intervals v_isBlock v_isSeen v_lampX v_lampY v_right v_up v_keptRight v_keptUp v_name v_part v_codes v_above v_below v_length v_isMet) (va_runV (As := [.int x1]) (rest := []) ⟨hx, hb, hml, hown, hts⟩ (jc_Mo_asksPoint l g a_this a_this_isBlock a_this_isSeen a_this_lampX a_this_lampY a_this_right a_this_up a_this_keptRight a_this_keptUp a_this_name a_this_part a_this_codes a_this_above a_this_below a_this_length a_this_isMet v_thrown v_isBounce v_lamps v_squares v_intervals v_isBlock v_isSeen v_lampX v_lampY v_right v_up v_keptRight v_keptUp v_name v_part v_codes v_above v_below v_length v_isMet x1 _ hq_1 _) (cwV 1 hts gX7_cycle_X7_asksPoint rfl rfl rfl (by decide +kernel) ⟨Nat.le_of_ble_eq_true rfl, Nat.le_of_ble_eq_true rfl⟩) (jpw_v hK hP (jD_to hD rfl) (ci := 7) (q0 := 0) rfl rfl) rfl rfl hl.1 rfl (lv_room (Nat.le_of_ble_eq_true rfl)) dX7_cycle_2 ⟨Nat.zero_le _, Nat.zero_le _⟩) hP (jD_to hD rfl) hS hA [0, 1, 2, 3, 4, 5, 6, 7, 8, 9, 10, 11, 12, 13, 14, 15] [] [0, 1, 2, 3, 4, 5, 6, 7, 8, 9, 10, 11, 12, 13, 14, 15] rfl (by decide) rfl (fun H locs hP hS => ?_)
  refine lv_if_ne (tgt := 10) hx hb dX7_cycle_5 (by decide) (fun c_1 => ?_) (fun c_1 => ?_)
  · replace hR := Eq.trans (Eq.symm (if_neg c_1)) hR
    refine lv_iconst (v := 1) hx hb dX7_cycle_10 (by decide) ?_
    refine lv_istore_n (lv' := [(2, .int 1), (0, .ref a_this), (1, .int x1)]) hx hb dX7_cycle_11 rfl hl (by decide) rfl (fun ls hl => ?_)
    refine lv_aload_n hx hb dX7_cycle_12 rfl (lv_at hl 1 rfl) ?_
    refine lv_iload_n hx hb dX7_cycle_13 rfl (lv_at hl 2 rfl) ?_
    refine lv_aload_n hx hb dX7_cycle_14 rfl (lv_at hl 1 rfl) ?_
    refine va_get (D := g.1) (ci := 7) (v := .ref a_this_above) (C := RX7) (T := TX7) (N := 20) hx hb hts w_X7 hown hK.1 hP 0 rfl rfl 16 (by decide) w_f48 (fun _ h9 => h9) rfl dX7_cycle_15 ?_
    refine lv_aload_n hx hb dX7_cycle_18 rfl (lv_at hl 1 rfl) ?_
    refine va_get (D := g.1) (ci := 7) (v := .ref a_this_below) (C := RX7) (T := TX7) (N := 20) hx hb hts w_X7 hown hK.1 hP 0 rfl rfl 17 (by decide) w_f51 (fun _ h9 => h9) rfl dX7_cycle_19 ?_
    obtain ⟨q_2, hq_2, hR⟩ := jbind hR
    try dsimp only at hR
    refine jcall_ri (va_runV (As := [.int x1, .ref a_this_above, .ref a_this_below]) (rest := []) ⟨hx, hb, hml, hown, hts⟩ (jc_Mo_goes_above_below l g a_this a_this_isBlock a_this_isSeen a_this_lampX a_this_lampY a_this_right a_this_up a_this_keptRight a_this_keptUp a_this_name a_this_part a_this_codes a_this_above a_this_below a_this_length a_this_isMet q_1.2 v_isBounce v_lamps v_squares v_intervals v_isBlock v_isSeen v_lampX v_lampY v_right v_up v_keptRight v_keptUp v_name v_part v_codes v_above v_below v_length v_isMet x1 _ hq_2) (cwV 3 hts gX7_cycle_X7_goes rfl rfl rfl (by decide +kernel) ⟨Nat.le_of_ble_eq_true rfl, Nat.le_of_ble_eq_true rfl⟩) (jpr_v hK hP (ci := 7) (q0 := 0) rfl rfl) rfl rfl hl.1 rfl (lv_room (Nat.le_of_ble_eq_true rfl)) dX7_cycle_22 ⟨Nat.zero_le _, Nat.zero_le _⟩) ?_
    refine lv_istore_n (lv' := [(3, .int q_2), (2, .int 1), (0, .ref a_this), (1, .int x1)]) hx hb dX7_cycle_25 rfl hl (by decide) rfl (fun ls hl => ?_)
    obtain ⟨q_4, hq_4, hR⟩ := jbind hR
    try dsimp only at hR
    refine L26 jF q_1.2 x1 1 q_2 _ _ hP hS _ (lv_sub hl [2, 3, 1, 0] rfl) _ hq_4 (fun H locs hP hS ls hl => ?_)
    refine lv_iload_n hx hb dX7_cycle_51 rfl (lv_at hl 0 rfl) ?_
    obtain rfl := (Option.some.inj hR)
    exact fin _ _ _ _ _ rfl hP hS dX7_cycle_52
  · replace hR := Eq.trans (Eq.symm (if_pos c_1)) hR
    refine lv_iconst (v := 0) hx hb dX7_cycle_8 (by decide) ?_
    obtain rfl := (Option.some.inj hR)
    exact fin _ _ _ _ _ rfl hP hS dX7_cycle_9
def jf_Mo_cycles_L14 (z1 : Int32) (z2 : Int32) : Nat → Int32 → (Nat → Int32) → Option (Nat → Int32)
  | 0, _, _ => none
  | n + 1, z3, v_isMet =>
    if z1 ≤ z3 then (some v_isMet) else (if jin z3 300 = true then ((jf_Mo_cycles_L14 z1 z2 n) (z3 + 1) (upd v_isMet z3.toNatClampNeg (0 &&& 1))) else none)
def jf_Mo_cycles_L59 (v_above : Nat → Int32) (v_below : Nat → Int32) (v_length : Nat → Int32) (z1 : Int32) (z2 : Int32) (z3 : Int32) : Nat → Int32 → (Nat → Int32) → Option (Nat → Int32)
  | 0, _, _ => none
  | n + 1, z4, v_isMet =>
    if jin z4 300 = true then (if v_isMet z4.toNatClampNeg = 0 then (if jin z4 300 = true then (Option.bind (jf_Mo_goes_above_below v_above v_below v_length z4) (fun q_3 => (jf_Mo_cycles_L59 v_above v_below v_length z1 z2 z3 n) q_3 (upd v_isMet z4.toNatClampNeg (1 &&& 1)))) else none) else (some v_isMet)) else none
def jf_Mo_cycles_b54 (self : Int32 → Int32 → (Nat → Int32) → Option (Int32 × (Nat → Int32))) (v_above : Nat → Int32) (v_below : Nat → Int32) (v_length : Nat → Int32) (v_isMet : Nat → Int32) (z1 : Int32) (z3 : Int32) (s0 : Int32) (s1 : Int32) : Option (Int32 × (Nat → Int32)) :=
  jlet (s0 + s1) (fun y2_1 => Option.bind (jf_Mo_cycles_L59 v_above v_below v_length z1 y2_1 z3 jF z3 v_isMet) (fun q_4 => self y2_1 (z3 + 1) q_4))
def jf_Mo_cycles_L34 (v_above : Nat → Int32) (v_below : Nat → Int32) (v_length : Nat → Int32) (z1 : Int32) : Nat → Int32 → Int32 → (Nat → Int32) → Option (Int32 × (Nat → Int32))
  | 0, _, _, _ => none
  | n + 1, z2, z3, v_isMet =>
    if z1 ≤ z3 then (some (z2, v_isMet)) else (if jin z3 300 = true then (if v_isMet z3.toNatClampNeg = 0 then (jf_Mo_cycles_b54 (jf_Mo_cycles_L34 v_above v_below v_length z1 n) v_above v_below v_length v_isMet z1 z3 z2 1) else (jf_Mo_cycles_b54 (jf_Mo_cycles_L34 v_above v_below v_length z1 n) v_above v_below v_length v_isMet z1 z3 z2 0)) else none)
def jf_Mo_cycles (v_thrown : Int32) (v_intervals : Int32) (v_above : Nat → Int32) (v_below : Nat → Int32) (v_length : Nat → Int32) (v_isMet : Nat → Int32) : Option (Int32 × Int32 × (Nat → Int32)) :=
  Option.bind (jf_Mo_sum v_intervals v_length) (fun q_1 => Option.bind (jf_Mo_cycles_L14 q_1 0 jF 0 v_isMet) (fun q_2 => Option.bind (jf_Mo_cycles_L34 v_above v_below v_length q_1 jF 0 0 q_2) (fun q_5 => some (q_5.1, 0, q_5.2))))
abbrev jr_Mo_cycles : Room := { frames := 1, cells := 0, slots := 0, locals := 27 }
set_option maxRecDepth 100000 in
set_option maxHeartbeats 4000000 in
theorem jc_Mo_cycles (l : Launch) (g : jG) (a_this a_this_isBlock a_this_isSeen a_this_lampX a_this_lampY a_this_right a_this_up a_this_keptRight a_this_keptUp a_this_name a_this_part a_this_codes a_this_above a_this_below a_this_length a_this_isMet : Nat) (v_thrown : Int32) (v_isBounce : Int32) (v_lamps : Int32) (v_squares : Int32) (v_intervals : Int32) (v_isBlock : Nat → Int32) (v_isSeen : Nat → Int32) (v_lampX : Nat → Int32) (v_lampY : Nat → Int32) (v_right : Nat → Int32) (v_up : Nat → Int32) (v_keptRight : Nat → Int32) (v_keptUp : Nat → Int32) (v_name : Nat → Int32) (v_part : Nat → Int32) (v_codes : Nat → Int32) (v_above : Nat → Int32) (v_below : Nat → Int32) (v_length : Nat → Int32) (v_isMet : Nat → Int32) (R : Int32 × Int32 × (Nat → Int32)) (hR : jf_Mo_cycles v_thrown v_intervals v_above v_below v_length v_isMet = some R) (sz : Nat) : Met l yX7_cycles wsX7_cycles jr_Mo_cycles (jPw g [.ref a_this] (jw_Mo g a_this a_this_isBlock a_this_isSeen a_this_lampX a_this_lampY a_this_right a_this_up a_this_keptRight a_this_keptUp a_this_name a_this_part a_this_codes a_this_above a_this_below a_this_length a_this_isMet v_thrown v_isBounce v_lamps v_squares v_intervals v_isBlock v_isSeen v_lampX v_lampY v_right v_up v_keptRight v_keptUp v_name v_part v_codes v_above v_below v_length v_isMet) sz) (jQi g R.1 (jw_Mo g a_this a_this_isBlock a_this_isSeen a_this_lampX a_this_lampY a_this_right a_this_up a_this_keptRight a_this_keptUp a_this_name a_this_part a_this_codes a_this_above a_this_below a_this_length a_this_isMet R.2.1 v_isBounce v_lamps v_squares v_intervals v_isBlock v_isSeen v_lampX v_lampY v_right v_up v_keptRight v_keptUp v_name v_part v_codes v_above v_below v_length R.2.2) (va_A (jw_Mo g a_this a_this_isBlock a_this_isSeen a_this_lampX a_this_lampY a_this_right a_this_up a_this_keptRight a_this_keptUp a_this_name a_this_part a_this_codes a_this_above a_this_below a_this_length a_this_isMet v_thrown v_isBounce v_lamps v_squares v_intervals v_isBlock v_isSeen v_lampX v_lampY v_right v_up v_keptRight v_keptUp v_name v_part v_codes v_above v_below v_length v_isMet) sz)) 0 0 (va_A (jw_Mo g a_this a_this_isBlock a_this_isSeen a_this_lampX a_this_lampY a_this_right a_this_up a_this_keptRight a_this_keptUp a_this_name a_this_part a_this_codes a_this_above a_this_below a_this_length a_this_isMet v_thrown v_isBounce v_lamps v_squares v_intervals v_isBlock v_isSeen v_lampX v_lampY v_right v_up v_keptRight v_keptUp v_name v_part v_codes v_above v_below v_length v_isMet) sz) := by
  refine jm_wi (cc := cX7_cycles) (maxL := 5) (by decide +kernel) rfl (Nat.le_of_ble_eq_true rfl) ?_
  intro p e s m below meth c A Q hx hb hml hown hts hK hP hD hA hS fin ls hl
  have hl : lv_has ls 5 [(0, .ref a_this)] := hl
  have hown : s.vm.findClass RX7 = some m.cls := hown
  have w_X7 : ∀ w ∈ u_ws RX7 TX7 20, w ∈ wsX7_cycles := by decide +kernel
  have w_f60 := hts (.fieldLink RX7 60 "BilliardryModel" "thrown" "I") (by decide +kernel)
  have w_f57 := hts (.fieldLink RX7 57 "BilliardryModel" "isMet" "[Z") (by decide +kernel)
  have w_f48 := hts (.fieldLink RX7 48 "BilliardryModel" "above" "[I") (by decide +kernel)
  have w_f51 := hts (.fieldLink RX7 51 "BilliardryModel" "below" "[I") (by decide +kernel)
  have L14 : ∀ (n : Nat) (v_thrown : Int32) (z1 : Int32) (z2 : Int32) (z3 : Int32) (v_isMet : Nat → Int32) (H : Heap) (locs : List Loc), va_P g.1 vwCl (jw_Mo g a_this a_this_isBlock a_this_isSeen a_this_lampX a_this_lampY a_this_right a_this_up a_this_keptRight a_this_keptUp a_this_name a_this_part a_this_codes a_this_above a_this_below a_this_length a_this_isMet v_thrown v_isBounce v_lamps v_squares v_intervals v_isBlock v_isSeen v_lampX v_lampY v_right v_up v_keptRight v_keptUp v_name v_part v_codes v_above v_below v_length v_isMet) H → va_S A s.heap H locs → ∀ (ls : Array Slot), lv_has ls 5 [(0, .ref a_this), (1, .int z1), (2, .int z2), (3, .int z3)] → ∀ q, jf_Mo_cycles_L14 z1 z2 n z3 v_isMet = some q → (∀ (H : Heap) (locs : List Loc), va_P g.1 vwCl (jw_Mo g a_this a_this_isBlock a_this_isSeen a_this_lampX a_this_lampY a_this_right a_this_up a_this_keptRight a_this_keptUp a_this_name a_this_part a_this_codes a_this_above a_this_below a_this_length a_this_isMet v_thrown v_isBounce v_lamps v_squares v_intervals v_isBlock v_isSeen v_lampX v_lampY v_right v_up v_keptRight v_keptUp v_name v_part v_codes v_above v_below v_length q) H → va_S A s.heap H locs → ∀ ls : Array Slot, lv_has ls 5 [(0, .ref a_this), (1, .int z1), (2, .int z2)] → W p l e jr_Mo_cycles s m ([.ref a_this] : List Value).toArray below meth c H locs 0 0 Q (F0 m 32 ls [])) → W p l e jr_Mo_cycles s m ([.ref a_this] : List Value).toArray below meth c H locs 0 0 Q (F0 m 14 ls []) := by
    intro n v_thrown z1 z2
    induction n with
    | zero =>
      intro z3 v_isMet H locs hP hS ls hl q hR k
      cases hR
    | succ n ih =>
      intro z3 v_isMet H locs hP hS ls hl q hR k
      rw [jf_Mo_cycles_L14] at hR
      refine lv_iload_n hx hb dX7_cycles_14 rfl (lv_at hl 3 rfl) ?_
      refine lv_iload_n hx hb dX7_cycles_15 rfl (lv_at hl 1 rfl) ?_
      refine lv_icmp_ge (tgt := 32) hx hb dX7_cycles_16 (by decide) (fun c_1 => ?_) (fun c_1 => ?_)
      · replace hR := Eq.trans (Eq.symm (if_pos c_1)) hR
        cases hR
        exact k _ _ hP hS _ (lv_sub hl [0, 1, 2] rfl)
      · replace hR := Eq.trans (Eq.symm (if_neg c_1)) hR
        refine lv_aload_n hx hb dX7_cycles_19 rfl (lv_at hl 0 rfl) ?_
        refine va_get (D := g.1) (ci := 7) (v := .ref a_this_isMet) (C := RX7) (T := TX7) (N := 20) hx hb hts w_X7 hown hK.1 hP 0 rfl rfl 19 (by decide) w_f57 (fun _ h9 => h9) rfl dX7_cycles_20 ?_
        refine lv_iload_n hx hb dX7_cycles_23 rfl (lv_at hl 3 rfl) ?_
        refine lv_iconst (v := 0) hx hb dX7_cycles_24 (by decide) ?_
        by_cases c_2 : jin z3 300 = true
        case neg => replace hR := Eq.trans (Eq.symm (if_neg c_2)) hR; cases hR
        replace hR := Eq.trans (Eq.symm (if_pos c_2)) hR
        refine va_zast hx hb hK.1 hP (jD_to hD rfl) hS 15 2 rfl rfl (jin_in c_2) dX7_cycles_25 (fun H locs hP _ hS => ?_)
        have hP : va_P g.1 vwCl (jw_Mo g a_this a_this_isBlock a_this_isSeen a_this_lampX a_this_lampY a_this_right a_this_up a_this_keptRight a_this_keptUp a_this_name a_this_part a_this_codes a_this_above a_this_below a_this_length a_this_isMet v_thrown v_isBounce v_lamps v_squares v_intervals v_isBlock v_isSeen v_lampX v_lampY v_right v_up v_keptRight v_keptUp v_name v_part v_codes v_above v_below v_length (upd v_isMet z3.toNatClampNeg (0 &&& 1))) H := hP
        refine lv_iinc (v := z3 + 1) (lv' := [(3, .int (z3 + 1)), (0, .ref a_this), (1, .int z1), (2, .int z2)]) hx hb dX7_cycles_26 hl (k := 3) rfl (by first | rfl | decide) (by decide) rfl (fun ls hl => ?_)
        refine lv_goto (tgt := 14) hx hb dX7_cycles_29 (by decide) ?_
        exact ih (z3 + 1) (upd v_isMet z3.toNatClampNeg (0 &&& 1)) _ _ hP hS _ (lv_sub hl [1, 2, 3, 0] rfl) _ hR k
  have L34 : ∀ (n : Nat) (v_thrown : Int32) (z1 : Int32) (z2 : Int32) (z3 : Int32) (v_isMet : Nat → Int32) (H : Heap) (locs : List Loc), va_P g.1 vwCl (jw_Mo g a_this a_this_isBlock a_this_isSeen a_this_lampX a_this_lampY a_this_right a_this_up a_this_keptRight a_this_keptUp a_this_name a_this_part a_this_codes a_this_above a_this_below a_this_length a_this_isMet v_thrown v_isBounce v_lamps v_squares v_intervals v_isBlock v_isSeen v_lampX v_lampY v_right v_up v_keptRight v_keptUp v_name v_part v_codes v_above v_below v_length v_isMet) H → va_S A s.heap H locs → ∀ (ls : Array Slot), lv_has ls 5 [(0, .ref a_this), (1, .int z1), (2, .int z2), (3, .int z3)] → ∀ q, jf_Mo_cycles_L34 v_above v_below v_length z1 n z2 z3 v_isMet = some q → (∀ (H : Heap) (locs : List Loc), va_P g.1 vwCl (jw_Mo g a_this a_this_isBlock a_this_isSeen a_this_lampX a_this_lampY a_this_right a_this_up a_this_keptRight a_this_keptUp a_this_name a_this_part a_this_codes a_this_above a_this_below a_this_length a_this_isMet v_thrown v_isBounce v_lamps v_squares v_intervals v_isBlock v_isSeen v_lampX v_lampY v_right v_up v_keptRight v_keptUp v_name v_part v_codes v_above v_below v_length q.2) H → va_S A s.heap H locs → ∀ ls : Array Slot, lv_has ls 5 [(2, .int q.1)] → W p l e jr_Mo_cycles s m ([.ref a_this] : List Value).toArray below meth c H locs 0 0 Q (F0 m 102 ls [])) → W p l e jr_Mo_cycles s m ([.ref a_this] : List Value).toArray below meth c H locs 0 0 Q (F0 m 34 ls []) := by
    intro n v_thrown z1
    induction n with
    | zero =>
      intro z2 z3 v_isMet H locs hP hS ls hl q hR k
      cases hR
    | succ n ih =>
      have L59 : ∀ (n : Nat) (v_thrown : Int32) (z1 : Int32) (z2 : Int32) (z3 : Int32) (z4 : Int32) (v_isMet : Nat → Int32) (H : Heap) (locs : List Loc), va_P g.1 vwCl (jw_Mo g a_this a_this_isBlock a_this_isSeen a_this_lampX a_this_lampY a_this_right a_this_up a_this_keptRight a_this_keptUp a_this_name a_this_part a_this_codes a_this_above a_this_below a_this_length a_this_isMet v_thrown v_isBounce v_lamps v_squares v_intervals v_isBlock v_isSeen v_lampX v_lampY v_right v_up v_keptRight v_keptUp v_name v_part v_codes v_above v_below v_length v_isMet) H → va_S A s.heap H locs → ∀ (ls : Array Slot), lv_has ls 5 [(0, .ref a_this), (1, .int z1), (2, .int z2), (3, .int z3), (4, .int z4)] → ∀ q, jf_Mo_cycles_L59 v_above v_below v_length z1 z2 z3 n z4 v_isMet = some q → (∀ (H : Heap) (locs : List Loc), va_P g.1 vwCl (jw_Mo g a_this a_this_isBlock a_this_isSeen a_this_lampX a_this_lampY a_this_right a_this_up a_this_keptRight a_this_keptUp a_this_name a_this_part a_this_codes a_this_above a_this_below a_this_length a_this_isMet v_thrown v_isBounce v_lamps v_squares v_intervals v_isBlock v_isSeen v_lampX v_lampY v_right v_up v_keptRight v_keptUp v_name v_part v_codes v_above v_below v_length q) H → va_S A s.heap H locs → ∀ ls : Array Slot, lv_has ls 5 [(0, .ref a_this), (1, .int z1), (2, .int z2), (3, .int z3)] → W p l e jr_Mo_cycles s m ([.ref a_this] : List Value).toArray below meth c H locs 0 0 Q (F0 m 96 ls [])) → W p l e jr_Mo_cycles s m ([.ref a_this] : List Value).toArray below meth c H locs 0 0 Q (F0 m 59 ls []) := by
        intro n v_thrown z1 z2 z3
        induction n with
        | zero =>
          intro z4 v_isMet H locs hP hS ls hl q hR k
          cases hR
        | succ n ih =>
          intro z4 v_isMet H locs hP hS ls hl q hR k
          rw [jf_Mo_cycles_L59] at hR
          refine lv_aload_n hx hb dX7_cycles_59 rfl (lv_at hl 0 rfl) ?_
          refine va_get (D := g.1) (ci := 7) (v := .ref a_this_isMet) (C := RX7) (T := TX7) (N := 20) hx hb hts w_X7 hown hK.1 hP 0 rfl rfl 19 (by decide) w_f57 (fun _ h9 => h9) rfl dX7_cycles_60 ?_
          refine lv_iload hx hb dX7_cycles_63 (lv_at hl 4 rfl) ?_
          by_cases c_6 : jin z4 300 = true
          case neg => replace hR := Eq.trans (Eq.symm (if_neg c_6)) hR; cases hR
          replace hR := Eq.trans (Eq.symm (if_pos c_6)) hR
          refine va_zald hx hb hK.1 hP 15 2 rfl rfl (jin_in c_6) dX7_cycles_65 ?_
          refine lv_if_ne (tgt := 96) hx hb dX7_cycles_66 (by decide) (fun c_7 => ?_) (fun c_7 => ?_)
          · replace hR := Eq.trans (Eq.symm (if_neg c_7)) hR
            cases hR
            exact k _ _ hP hS _ (lv_sub hl [0, 1, 2, 3] rfl)
          · replace hR := Eq.trans (Eq.symm (if_pos c_7)) hR
            refine lv_aload_n hx hb dX7_cycles_69 rfl (lv_at hl 0 rfl) ?_
            refine va_get (D := g.1) (ci := 7) (v := .ref a_this_isMet) (C := RX7) (T := TX7) (N := 20) hx hb hts w_X7 hown hK.1 hP 0 rfl rfl 19 (by decide) w_f57 (fun _ h9 => h9) rfl dX7_cycles_70 ?_
            refine lv_iload hx hb dX7_cycles_73 (lv_at hl 4 rfl) ?_
            refine lv_iconst (v := 1) hx hb dX7_cycles_75 (by decide) ?_
            by_cases c_8 : jin z4 300 = true
            case neg => replace hR := Eq.trans (Eq.symm (if_neg c_8)) hR; cases hR
            replace hR := Eq.trans (Eq.symm (if_pos c_8)) hR
            refine va_zast hx hb hK.1 hP (jD_to hD rfl) hS 15 2 rfl rfl (jin_in c_8) dX7_cycles_76 (fun H locs hP _ hS => ?_)
            have hP : va_P g.1 vwCl (jw_Mo g a_this a_this_isBlock a_this_isSeen a_this_lampX a_this_lampY a_this_right a_this_up a_this_keptRight a_this_keptUp a_this_name a_this_part a_this_codes a_this_above a_this_below a_this_length a_this_isMet v_thrown v_isBounce v_lamps v_squares v_intervals v_isBlock v_isSeen v_lampX v_lampY v_right v_up v_keptRight v_keptUp v_name v_part v_codes v_above v_below v_length (upd v_isMet z4.toNatClampNeg (1 &&& 1))) H := hP
            refine lv_aload_n hx hb dX7_cycles_77 rfl (lv_at hl 0 rfl) ?_
            refine lv_iload hx hb dX7_cycles_78 (lv_at hl 4 rfl) ?_
            refine lv_aload_n hx hb dX7_cycles_80 rfl (lv_at hl 0 rfl) ?_
            refine va_get (D := g.1) (ci := 7) (v := .ref a_this_above) (C := RX7) (T := TX7) (N := 20) hx hb hts w_X7 hown hK.1 hP 0 rfl rfl 16 (by decide) w_f48 (fun _ h9 => h9) rfl dX7_cycles_81 ?_
            refine lv_aload_n hx hb dX7_cycles_84 rfl (lv_at hl 0 rfl) ?_
            refine va_get (D := g.1) (ci := 7) (v := .ref a_this_below) (C := RX7) (T := TX7) (N := 20) hx hb hts w_X7 hown hK.1 hP 0 rfl rfl 17 (by decide) w_f51 (fun _ h9 => h9) rfl dX7_cycles_85 ?_
            obtain ⟨q_3, hq_3, hR⟩ := jbind hR
            try dsimp only at hR
            refine jcall_ri (va_runV (As := [.int z4, .ref a_this_above, .ref a_this_below]) (rest := []) ⟨hx, hb, hml, hown, hts⟩ (jc_Mo_goes_above_below l g a_this a_this_isBlock a_this_isSeen a_this_lampX a_this_lampY a_this_right a_this_up a_this_keptRight a_this_keptUp a_this_name a_this_part a_this_codes a_this_above a_this_below a_this_length a_this_isMet v_thrown v_isBounce v_lamps v_squares v_intervals v_isBlock v_isSeen v_lampX v_lampY v_right v_up v_keptRight v_keptUp v_name v_part v_codes v_above v_below v_length (upd v_isMet z4.toNatClampNeg (1 &&& 1)) z4 _ hq_3) (cwV 3 hts gX7_cycles_X7_goes rfl rfl rfl (by decide +kernel) ⟨Nat.le_of_ble_eq_true rfl, Nat.le_of_ble_eq_true rfl⟩) (jpr_v hK hP (ci := 7) (q0 := 0) rfl rfl) rfl rfl hl.1 rfl (lv_room (Nat.le_of_ble_eq_true rfl)) dX7_cycles_88 ⟨Nat.zero_le _, Nat.zero_le _⟩) ?_
            refine lv_istore (lv' := [(4, .int q_3), (0, .ref a_this), (1, .int z1), (2, .int z2), (3, .int z3)]) hx hb dX7_cycles_91 hl (by decide) rfl (fun ls hl => ?_)
            refine lv_goto (tgt := 59) hx hb dX7_cycles_93 (by decide) ?_
            exact ih q_3 (upd v_isMet z4.toNatClampNeg (1 &&& 1)) _ _ hP hS _ (lv_sub hl [1, 2, 3, 4, 0] rfl) _ hR k
      have J54 : ∀ (v_isMet : Nat → Int32) (z3 : Int32) (s0 : Int32) (s1 : Int32) (H : Heap) (locs : List Loc), va_P g.1 vwCl (jw_Mo g a_this a_this_isBlock a_this_isSeen a_this_lampX a_this_lampY a_this_right a_this_up a_this_keptRight a_this_keptUp a_this_name a_this_part a_this_codes a_this_above a_this_below a_this_length a_this_isMet v_thrown v_isBounce v_lamps v_squares v_intervals v_isBlock v_isSeen v_lampX v_lampY v_right v_up v_keptRight v_keptUp v_name v_part v_codes v_above v_below v_length v_isMet) H → va_S A s.heap H locs → ∀ (ls : Array Slot), lv_has ls 5 [(0, .ref a_this), (1, .int z1), (3, .int z3)] → ∀ q, jf_Mo_cycles_b54 (jf_Mo_cycles_L34 v_above v_below v_length z1 n) v_above v_below v_length v_isMet z1 z3 s0 s1 = some q → (∀ (H : Heap) (locs : List Loc), va_P g.1 vwCl (jw_Mo g a_this a_this_isBlock a_this_isSeen a_this_lampX a_this_lampY a_this_right a_this_up a_this_keptRight a_this_keptUp a_this_name a_this_part a_this_codes a_this_above a_this_below a_this_length a_this_isMet v_thrown v_isBounce v_lamps v_squares v_intervals v_isBlock v_isSeen v_lampX v_lampY v_right v_up v_keptRight v_keptUp v_name v_part v_codes v_above v_below v_length q.2) H → va_S A s.heap H locs → ∀ ls : Array Slot, lv_has ls 5 [(2, .int q.1)] → W p l e jr_Mo_cycles s m ([.ref a_this] : List Value).toArray below meth c H locs 0 0 Q (F0 m 102 ls [])) → W p l e jr_Mo_cycles s m ([.ref a_this] : List Value).toArray below meth c H locs 0 0 Q (F0 m 54 ls [.int s1, .int s0]) := by
        intro v_isMet z3 s0 s1 H locs hP hS ls hl q hR k
        rw [jf_Mo_cycles_b54] at hR
        refine lv_iadd hx hb dX7_cycles_54 ?_
        refine jlet_i hR (fun y2_1 hR => ?_)
        try dsimp only at hR
        refine lv_istore_n (lv' := [(2, .int y2_1), (0, .ref a_this), (1, .int z1), (3, .int z3)]) hx hb dX7_cycles_55 rfl hl (by decide) rfl (fun ls hl => ?_)
        refine lv_iload_n hx hb dX7_cycles_56 rfl (lv_at hl 3 rfl) ?_
        refine lv_istore (lv' := [(4, .int z3), (2, .int y2_1), (0, .ref a_this), (1, .int z1), (3, .int z3)]) hx hb dX7_cycles_57 hl (by decide) rfl (fun ls hl => ?_)
        obtain ⟨q_4, hq_4, hR⟩ := jbind hR
        try dsimp only at hR
        refine L59 jF v_thrown z1 y2_1 z3 z3 v_isMet _ _ hP hS _ (lv_sub hl [2, 3, 1, 4, 0] rfl) _ hq_4 (fun H locs hP hS ls hl => ?_)
        refine lv_iinc (v := z3 + 1) (lv' := [(3, .int (z3 + 1)), (0, .ref a_this), (1, .int z1), (2, .int y2_1)]) hx hb dX7_cycles_96 hl (k := 3) rfl (by first | rfl | decide) (by decide) rfl (fun ls hl => ?_)
        refine lv_goto (tgt := 34) hx hb dX7_cycles_99 (by decide) ?_
        exact ih y2_1 (z3 + 1) q_4 _ _ hP hS _ (lv_sub hl [1, 2, 3, 0] rfl) _ hR k
      intro z2 z3 v_isMet H locs hP hS ls hl q hR k
      rw [jf_Mo_cycles_L34] at hR
      refine lv_iload_n hx hb dX7_cycles_34 rfl (lv_at hl 3 rfl) ?_
      refine lv_iload_n hx hb dX7_cycles_35 rfl (lv_at hl 1 rfl) ?_
      refine lv_icmp_ge (tgt := 102) hx hb dX7_cycles_36 (by decide) (fun c_3 => ?_) (fun c_3 => ?_)
      · replace hR := Eq.trans (Eq.symm (if_pos c_3)) hR
        cases hR
        exact k _ _ hP hS _ (lv_sub hl [2] rfl)
      · replace hR := Eq.trans (Eq.symm (if_neg c_3)) hR
        refine lv_iload_n hx hb dX7_cycles_39 rfl (lv_at hl 2 rfl) ?_
        refine lv_aload_n hx hb dX7_cycles_40 rfl (lv_at hl 0 rfl) ?_
        refine va_get (D := g.1) (ci := 7) (v := .ref a_this_isMet) (C := RX7) (T := TX7) (N := 20) hx hb hts w_X7 hown hK.1 hP 0 rfl rfl 19 (by decide) w_f57 (fun _ h9 => h9) rfl dX7_cycles_41 ?_
        refine lv_iload_n hx hb dX7_cycles_44 rfl (lv_at hl 3 rfl) ?_
        by_cases c_4 : jin z3 300 = true
        case neg => replace hR := Eq.trans (Eq.symm (if_neg c_4)) hR; cases hR
        replace hR := Eq.trans (Eq.symm (if_pos c_4)) hR
        refine va_zald hx hb hK.1 hP 15 2 rfl rfl (jin_in c_4) dX7_cycles_45 ?_
        refine lv_if_eq (tgt := 53) hx hb dX7_cycles_46 (by decide) (fun c_5 => ?_) (fun c_5 => ?_)
        · replace hR := Eq.trans (Eq.symm (if_pos c_5)) hR
          refine lv_iconst (v := 1) hx hb dX7_cycles_53 (by decide) ?_
          exact J54 v_isMet z3 z2 1 _ _ hP hS _ (lv_sub hl [0, 1, 3] rfl) _ hR k
        · replace hR := Eq.trans (Eq.symm (if_neg c_5)) hR
          refine lv_iconst (v := 0) hx hb dX7_cycles_49 (by decide) ?_
          refine lv_goto (tgt := 54) hx hb dX7_cycles_50 (by decide) ?_
          exact J54 v_isMet z3 z2 0 _ _ hP hS _ (lv_sub hl [0, 1, 3] rfl) _ hR k
  rw [jf_Mo_cycles] at hR
  refine lv_aload_n hx hb dX7_cycles_0 rfl (lv_at hl 0 rfl) ?_
  refine lv_iconst (v := 0) hx hb dX7_cycles_1 (by decide) ?_
  refine va_put (D := g.1) (ci := 7) (v := .int 0) (ty := .int) (C := RX7) (T := TX7) (N := 20) hx hb hts w_X7 tyX7 tyX7_ok nmX7 hown hK.1 hP (jD_to hD rfl) hS 0 rfl rfl 0 (by decide) w_f60 (fun _ h9 => h9) rfl (by decide +kernel) rfl rfl (Nat.le_of_ble_eq_true rfl) dX7_cycles_2 (fun H locs hP _ hS => ?_)
  have hP : va_P g.1 vwCl (jw_Mo g a_this a_this_isBlock a_this_isSeen a_this_lampX a_this_lampY a_this_right a_this_up a_this_keptRight a_this_keptUp a_this_name a_this_part a_this_codes a_this_above a_this_below a_this_length a_this_isMet 0 v_isBounce v_lamps v_squares v_intervals v_isBlock v_isSeen v_lampX v_lampY v_right v_up v_keptRight v_keptUp v_name v_part v_codes v_above v_below v_length v_isMet) H := hP
  refine lv_aload_n hx hb dX7_cycles_5 rfl (lv_at hl 0 rfl) ?_
  obtain ⟨q_1, hq_1, hR⟩ := jbind hR
  try dsimp only at hR
  refine jcall_ri (va_runV (As := []) (rest := []) ⟨hx, hb, hml, hown, hts⟩ (jc_Mo_sum l g a_this a_this_isBlock a_this_isSeen a_this_lampX a_this_lampY a_this_right a_this_up a_this_keptRight a_this_keptUp a_this_name a_this_part a_this_codes a_this_above a_this_below a_this_length a_this_isMet 0 v_isBounce v_lamps v_squares v_intervals v_isBlock v_isSeen v_lampX v_lampY v_right v_up v_keptRight v_keptUp v_name v_part v_codes v_above v_below v_length v_isMet _ hq_1) (cwV 0 hts gX7_cycles_X7_sum rfl rfl rfl (by decide +kernel) ⟨Nat.le_of_ble_eq_true rfl, Nat.le_of_ble_eq_true rfl⟩) (jpr_v hK hP (ci := 7) (q0 := 0) rfl rfl) rfl rfl hl.1 rfl (lv_room (Nat.le_of_ble_eq_true rfl)) dX7_cycles_6 ⟨Nat.zero_le _, Nat.zero_le _⟩) ?_
  refine lv_istore_n (lv' := [(1, .int q_1), (0, .ref a_this)]) hx hb dX7_cycles_9 rfl hl (by decide) rfl (fun ls hl => ?_)
  refine lv_iconst (v := 0) hx hb dX7_cycles_10 (by decide) ?_
  refine lv_istore_n (lv' := [(2, .int 0), (1, .int q_1), (0, .ref a_this)]) hx hb dX7_cycles_11 rfl hl (by decide) rfl (fun ls hl => ?_)
  refine lv_iconst (v := 0) hx hb dX7_cycles_12 (by decide) ?_
  refine lv_istore_n (lv' := [(3, .int 0), (2, .int 0), (1, .int q_1), (0, .ref a_this)]) hx hb dX7_cycles_13 rfl hl (by decide) rfl (fun ls hl => ?_)
  obtain ⟨q_2, hq_2, hR⟩ := jbind hR
  try dsimp only at hR
  refine L14 jF 0 q_1 0 0 v_isMet _ _ hP hS _ (lv_sub hl [3, 2, 1, 0] rfl) _ hq_2 (fun H locs hP hS ls hl => ?_)
  refine lv_iconst (v := 0) hx hb dX7_cycles_32 (by decide) ?_
  refine lv_istore_n (lv' := [(3, .int 0), (0, .ref a_this), (1, .int q_1), (2, .int 0)]) hx hb dX7_cycles_33 rfl hl (by decide) rfl (fun ls hl => ?_)
  obtain ⟨q_5, hq_5, hR⟩ := jbind hR
  try dsimp only at hR
  refine L34 jF 0 q_1 0 0 q_2 _ _ hP hS _ (lv_sub hl [1, 2, 3, 0] rfl) _ hq_5 (fun H locs hP hS ls hl => ?_)
  refine lv_iload_n hx hb dX7_cycles_102 rfl (lv_at hl 0 rfl) ?_
  obtain rfl := (Option.some.inj hR)
  exact fin _ _ _ _ _ rfl hP hS dX7_cycles_103
def jf_Mo_apart_L11 (v_intervals : Int32) (v_above : Nat → Int32) (v_below : Nat → Int32) : Nat → Int32 → Int32 → Int32 → Option (Int32 ⊕ Unit)
  | 0, _, _, _ => none
  | n + 1, z1, z2, z3 =>
    if v_intervals ≤ z3 then (some (.inr ())) else (if jin z3 6 = true then (jlet (z1 ||| (1 <<< ((v_above z3.toNatClampNeg) &&& 31))) (fun y1_1 => if jin z3 6 = true then (jlet (z2 ||| (1 <<< ((v_below z3.toNatClampNeg) &&& 31))) (fun y2_1 => if y1_1 = y2_1 then (some (.inl z3)) else ((jf_Mo_apart_L11 v_intervals v_above v_below n) y1_1 y2_1 (z3 + 1)))) else none)) else none)
def jf_Mo_apart (v_thrown : Int32) (v_intervals : Int32) (v_above : Nat → Int32) (v_below : Nat → Int32) : Option (Int32 × Int32) :=
  Option.bind (jf_Mo_apart_L11 v_intervals v_above v_below jF 0 0 0) (fun q_1 => jsum (fun o_1 => some (o_1 + 1, 0)) (fun o_2 => some (0, 0)) q_1)
abbrev jr_Mo_apart : Room := { frames := 0, cells := 0, slots := 0, locals := 0 }
set_option maxRecDepth 100000 in
set_option maxHeartbeats 4000000 in
theorem jc_Mo_apart (l : Launch) (g : jG) (a_this a_this_isBlock a_this_isSeen a_this_lampX a_this_lampY a_this_right a_this_up a_this_keptRight a_this_keptUp a_this_name a_this_part a_this_codes a_this_above a_this_below a_this_length a_this_isMet : Nat) (v_thrown : Int32) (v_isBounce : Int32) (v_lamps : Int32) (v_squares : Int32) (v_intervals : Int32) (v_isBlock : Nat → Int32) (v_isSeen : Nat → Int32) (v_lampX : Nat → Int32) (v_lampY : Nat → Int32) (v_right : Nat → Int32) (v_up : Nat → Int32) (v_keptRight : Nat → Int32) (v_keptUp : Nat → Int32) (v_name : Nat → Int32) (v_part : Nat → Int32) (v_codes : Nat → Int32) (v_above : Nat → Int32) (v_below : Nat → Int32) (v_length : Nat → Int32) (v_isMet : Nat → Int32) (R : Int32 × Int32) (hR : jf_Mo_apart v_thrown v_intervals v_above v_below = some R) (sz : Nat) : Met l yX7_apart wsX7_apart jr_Mo_apart (jPw g [.ref a_this] (jw_Mo g a_this a_this_isBlock a_this_isSeen a_this_lampX a_this_lampY a_this_right a_this_up a_this_keptRight a_this_keptUp a_this_name a_this_part a_this_codes a_this_above a_this_below a_this_length a_this_isMet v_thrown v_isBounce v_lamps v_squares v_intervals v_isBlock v_isSeen v_lampX v_lampY v_right v_up v_keptRight v_keptUp v_name v_part v_codes v_above v_below v_length v_isMet) sz) (jQi g R.1 (jw_Mo g a_this a_this_isBlock a_this_isSeen a_this_lampX a_this_lampY a_this_right a_this_up a_this_keptRight a_this_keptUp a_this_name a_this_part a_this_codes a_this_above a_this_below a_this_length a_this_isMet R.2 v_isBounce v_lamps v_squares v_intervals v_isBlock v_isSeen v_lampX v_lampY v_right v_up v_keptRight v_keptUp v_name v_part v_codes v_above v_below v_length v_isMet) (va_A (jw_Mo g a_this a_this_isBlock a_this_isSeen a_this_lampX a_this_lampY a_this_right a_this_up a_this_keptRight a_this_keptUp a_this_name a_this_part a_this_codes a_this_above a_this_below a_this_length a_this_isMet v_thrown v_isBounce v_lamps v_squares v_intervals v_isBlock v_isSeen v_lampX v_lampY v_right v_up v_keptRight v_keptUp v_name v_part v_codes v_above v_below v_length v_isMet) sz)) 0 0 (va_A (jw_Mo g a_this a_this_isBlock a_this_isSeen a_this_lampX a_this_lampY a_this_right a_this_up a_this_keptRight a_this_keptUp a_this_name a_this_part a_this_codes a_this_above a_this_below a_this_length a_this_isMet v_thrown v_isBounce v_lamps v_squares v_intervals v_isBlock v_isSeen v_lampX v_lampY v_right v_up v_keptRight v_keptUp v_name v_part v_codes v_above v_below v_length v_isMet) sz) := by
  refine jm_wi (cc := cX7_apart) (maxL := 4) (by decide +kernel) rfl (Nat.le_of_ble_eq_true rfl) ?_
  intro p e s m below meth c A Q hx hb hml hown hts hK hP hD hA hS fin ls hl
  have hl : lv_has ls 4 [(0, .ref a_this)] := hl
  have hown : s.vm.findClass RX7 = some m.cls := hown
  have w_X7 : ∀ w ∈ u_ws RX7 TX7 20, w ∈ wsX7_apart := by decide +kernel
  have w_f60 := hts (.fieldLink RX7 60 "BilliardryModel" "thrown" "I") (by decide +kernel)
  have w_f214 := hts (.fieldLink RX7 214 "BilliardryModel" "intervals" "I") (by decide +kernel)
  have w_f48 := hts (.fieldLink RX7 48 "BilliardryModel" "above" "[I") (by decide +kernel)
  have w_f51 := hts (.fieldLink RX7 51 "BilliardryModel" "below" "[I") (by decide +kernel)
  have L11 : ∀ (n : Nat) (v_thrown : Int32) (z1 : Int32) (z2 : Int32) (z3 : Int32) (H : Heap) (locs : List Loc), va_P g.1 vwCl (jw_Mo g a_this a_this_isBlock a_this_isSeen a_this_lampX a_this_lampY a_this_right a_this_up a_this_keptRight a_this_keptUp a_this_name a_this_part a_this_codes a_this_above a_this_below a_this_length a_this_isMet v_thrown v_isBounce v_lamps v_squares v_intervals v_isBlock v_isSeen v_lampX v_lampY v_right v_up v_keptRight v_keptUp v_name v_part v_codes v_above v_below v_length v_isMet) H → va_S A s.heap H locs → ∀ (ls : Array Slot), lv_has ls 4 [(0, .ref a_this), (1, .int z1), (2, .int z2), (3, .int z3)] → ∀ q, jf_Mo_apart_L11 v_intervals v_above v_below n z1 z2 z3 = some q → ((∀ o, q = .inl o → ∀ (H : Heap) (locs : List Loc), va_P g.1 vwCl (jw_Mo g a_this a_this_isBlock a_this_isSeen a_this_lampX a_this_lampY a_this_right a_this_up a_this_keptRight a_this_keptUp a_this_name a_this_part a_this_codes a_this_above a_this_below a_this_length a_this_isMet v_thrown v_isBounce v_lamps v_squares v_intervals v_isBlock v_isSeen v_lampX v_lampY v_right v_up v_keptRight v_keptUp v_name v_part v_codes v_above v_below v_length v_isMet) H → va_S A s.heap H locs → ∀ ls : Array Slot, lv_has ls 4 [(3, .int o)] → W p l e jr_Mo_apart s m ([.ref a_this] : List Value).toArray below meth c H locs 0 0 Q (F0 m 46 ls [])) ∧ (∀ o, q = .inr o → ∀ (H : Heap) (locs : List Loc), va_P g.1 vwCl (jw_Mo g a_this a_this_isBlock a_this_isSeen a_this_lampX a_this_lampY a_this_right a_this_up a_this_keptRight a_this_keptUp a_this_name a_this_part a_this_codes a_this_above a_this_below a_this_length a_this_isMet v_thrown v_isBounce v_lamps v_squares v_intervals v_isBlock v_isSeen v_lampX v_lampY v_right v_up v_keptRight v_keptUp v_name v_part v_codes v_above v_below v_length v_isMet) H → va_S A s.heap H locs → ∀ ls : Array Slot, lv_has ls 4 [] → W p l e jr_Mo_apart s m ([.ref a_this] : List Value).toArray below meth c H locs 0 0 Q (F0 m 56 ls []))) → W p l e jr_Mo_apart s m ([.ref a_this] : List Value).toArray below meth c H locs 0 0 Q (F0 m 11 ls []) := by
    intro n v_thrown
    induction n with
    | zero =>
      intro z1 z2 z3 H locs hP hS ls hl q hR k
      cases hR
    | succ n ih =>
      intro z1 z2 z3 H locs hP hS ls hl q hR k
      rw [jf_Mo_apart_L11] at hR
      refine lv_iload_n hx hb dX7_apart_11 rfl (lv_at hl 3 rfl) ?_
      refine lv_aload_n hx hb dX7_apart_12 rfl (lv_at hl 0 rfl) ?_
      refine va_get (D := g.1) (ci := 7) (v := .int v_intervals) (C := RX7) (T := TX7) (N := 20) hx hb hts w_X7 hown hK.1 hP 0 rfl rfl 15 (by decide) w_f214 (fun _ h9 => h9) rfl dX7_apart_13 ?_
      refine lv_icmp_ge (tgt := 56) hx hb dX7_apart_16 (by decide) (fun c_1 => ?_) (fun c_1 => ?_)
      · replace hR := Eq.trans (Eq.symm (if_pos c_1)) hR
        cases hR
        exact k.2 _ rfl _ _ hP hS _ (lv_sub hl [] rfl)
      · replace hR := Eq.trans (Eq.symm (if_neg c_1)) hR
        refine lv_iload_n hx hb dX7_apart_19 rfl (lv_at hl 1 rfl) ?_
        refine lv_iconst (v := 1) hx hb dX7_apart_20 (by decide) ?_
        refine lv_aload_n hx hb dX7_apart_21 rfl (lv_at hl 0 rfl) ?_
        refine va_get (D := g.1) (ci := 7) (v := .ref a_this_above) (C := RX7) (T := TX7) (N := 20) hx hb hts w_X7 hown hK.1 hP 0 rfl rfl 16 (by decide) w_f48 (fun _ h9 => h9) rfl dX7_apart_22 ?_
        refine lv_iload_n hx hb dX7_apart_25 rfl (lv_at hl 3 rfl) ?_
        by_cases c_2 : jin z3 6 = true
        case neg => replace hR := Eq.trans (Eq.symm (if_neg c_2)) hR; cases hR
        replace hR := Eq.trans (Eq.symm (if_pos c_2)) hR
        refine va_iald hx hb hK.1 hP 12 0 rfl rfl (jin_in c_2) dX7_apart_26 ?_
        refine lv_ishl hx hb dX7_apart_27 ?_
        refine lv_ior hx hb dX7_apart_28 ?_
        refine jlet_i hR (fun y1_1 hR => ?_)
        try dsimp only at hR
        refine lv_istore_n (lv' := [(1, .int y1_1), (0, .ref a_this), (2, .int z2), (3, .int z3)]) hx hb dX7_apart_29 rfl hl (by decide) rfl (fun ls hl => ?_)
        refine lv_iload_n hx hb dX7_apart_30 rfl (lv_at hl 2 rfl) ?_
        refine lv_iconst (v := 1) hx hb dX7_apart_31 (by decide) ?_
        refine lv_aload_n hx hb dX7_apart_32 rfl (lv_at hl 1 rfl) ?_
        refine va_get (D := g.1) (ci := 7) (v := .ref a_this_below) (C := RX7) (T := TX7) (N := 20) hx hb hts w_X7 hown hK.1 hP 0 rfl rfl 17 (by decide) w_f51 (fun _ h9 => h9) rfl dX7_apart_33 ?_
        refine lv_iload_n hx hb dX7_apart_36 rfl (lv_at hl 3 rfl) ?_
        by_cases c_3 : jin z3 6 = true
        case neg => replace hR := Eq.trans (Eq.symm (if_neg c_3)) hR; cases hR
        replace hR := Eq.trans (Eq.symm (if_pos c_3)) hR
        refine va_iald hx hb hK.1 hP 13 0 rfl rfl (jin_in c_3) dX7_apart_37 ?_
        refine lv_ishl hx hb dX7_apart_38 ?_
        refine lv_ior hx hb dX7_apart_39 ?_
        refine jlet_i hR (fun y2_1 hR => ?_)
        try dsimp only at hR
        refine lv_istore_n (lv' := [(2, .int y2_1), (1, .int y1_1), (0, .ref a_this), (3, .int z3)]) hx hb dX7_apart_40 rfl hl (by decide) rfl (fun ls hl => ?_)
        refine lv_iload_n hx hb dX7_apart_41 rfl (lv_at hl 1 rfl) ?_
        refine lv_iload_n hx hb dX7_apart_42 rfl (lv_at hl 0 rfl) ?_
        refine lv_icmp_ne (tgt := 50) hx hb dX7_apart_43 (by decide) (fun c_4 => ?_) (fun c_4 => ?_)
        · replace hR := Eq.trans (Eq.symm (if_neg c_4)) hR
          refine lv_iinc (v := z3 + 1) (lv' := [(3, .int (z3 + 1)), (2, .int y2_1), (1, .int y1_1), (0, .ref a_this)]) hx hb dX7_apart_50 hl (k := 3) rfl (by first | rfl | decide) (by decide) rfl (fun ls hl => ?_)
          refine lv_goto (tgt := 11) hx hb dX7_apart_53 (by decide) ?_
          exact ih y1_1 y2_1 (z3 + 1) _ _ hP hS _ (lv_sub hl [3, 2, 1, 0] rfl) _ hR k
        · replace hR := Eq.trans (Eq.symm (if_pos c_4)) hR
          cases hR
          exact k.1 _ rfl _ _ hP hS _ (lv_sub hl [3] rfl)
  rw [jf_Mo_apart] at hR
  refine lv_aload_n hx hb dX7_apart_0 rfl (lv_at hl 0 rfl) ?_
  refine lv_iconst (v := 0) hx hb dX7_apart_1 (by decide) ?_
  refine va_put (D := g.1) (ci := 7) (v := .int 0) (ty := .int) (C := RX7) (T := TX7) (N := 20) hx hb hts w_X7 tyX7 tyX7_ok nmX7 hown hK.1 hP (jD_to hD rfl) hS 0 rfl rfl 0 (by decide) w_f60 (fun _ h9 => h9) rfl (by decide +kernel) rfl rfl (Nat.le_of_ble_eq_true rfl) dX7_apart_2 (fun H locs hP _ hS => ?_)
  have hP : va_P g.1 vwCl (jw_Mo g a_this a_this_isBlock a_this_isSeen a_this_lampX a_this_lampY a_this_right a_this_up a_this_keptRight a_this_keptUp a_this_name a_this_part a_this_codes a_this_above a_this_below a_this_length a_this_isMet 0 v_isBounce v_lamps v_squares v_intervals v_isBlock v_isSeen v_lampX v_lampY v_right v_up v_keptRight v_keptUp v_name v_part v_codes v_above v_below v_length v_isMet) H := hP
  refine lv_iconst (v := 0) hx hb dX7_apart_5 (by decide) ?_
  refine lv_istore_n (lv' := [(1, .int 0), (0, .ref a_this)]) hx hb dX7_apart_6 rfl hl (by decide) rfl (fun ls hl => ?_)
  refine lv_iconst (v := 0) hx hb dX7_apart_7 (by decide) ?_
  refine lv_istore_n (lv' := [(2, .int 0), (1, .int 0), (0, .ref a_this)]) hx hb dX7_apart_8 rfl hl (by decide) rfl (fun ls hl => ?_)
  refine lv_iconst (v := 0) hx hb dX7_apart_9 (by decide) ?_
  refine lv_istore_n (lv' := [(3, .int 0), (2, .int 0), (1, .int 0), (0, .ref a_this)]) hx hb dX7_apart_10 rfl hl (by decide) rfl (fun ls hl => ?_)
  obtain ⟨q_1, hq_1, hR⟩ := jbind hR
  refine L11 jF 0 0 0 0 _ _ hP hS _ (lv_sub hl [3, 2, 1, 0] rfl) _ hq_1 ⟨fun o_1 ho H locs hP hS ls hl => ?_, fun o_2 ho H locs hP hS ls hl => ?_⟩
  · rw [ho] at hR
    try dsimp only [jsum] at hR
    refine lv_iload_n hx hb dX7_apart_46 rfl (lv_at hl 0 rfl) ?_
    refine lv_iconst (v := 1) hx hb dX7_apart_47 (by decide) ?_
    refine lv_iadd hx hb dX7_apart_48 ?_
    obtain rfl := (Option.some.inj hR)
    exact fin _ _ _ _ _ rfl hP hS dX7_apart_49
  · rw [ho] at hR
    try dsimp only [jsum] at hR
    refine lv_iconst (v := 0) hx hb dX7_apart_56 (by decide) ?_
    obtain rfl := (Option.some.inj hR)
    exact fin _ _ _ _ _ rfl hP hS dX7_apart_57
