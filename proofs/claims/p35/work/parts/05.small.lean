/-! walks laid by wip/gen/gen.py: jf_.. what a method answers, jc_.. its contract -/
abbrev jw_Ma (g : jG) (a_this a_this_bits : Nat) (v_bits : Nat → Int64) : va_W := [(a_this, .inr (3, [.ref a_this_bits])), (a_this_bits, .inl (g.2.2.1, 8, .inr (.inl v_bits)))]
def jf_Ma_clear_L2 : Nat → Int32 → (Nat → Int64) → Option (Nat → Int64)
  | 0, _, _ => none
  | n + 1, z1, v_bits =>
    if 8 ≤ z1 then (some v_bits) else (if jin z1 8 = true then ((jf_Ma_clear_L2 n) (z1 + 1) (vp_updL v_bits z1.toNatClampNeg 0)) else none)
def jf_Ma_clear (v_bits : Nat → Int64) : Option (Nat → Int64) :=
  Option.bind (jf_Ma_clear_L2 jF 0 v_bits) (fun q_1 => some q_1)
abbrev jr_Ma_clear : Room := { frames := 0, cells := 0, slots := 0, locals := 0 }
set_option maxRecDepth 100000 in
set_option maxHeartbeats 4000000 in
theorem jc_Ma_clear (l : Launch) (g : jG) (a_this a_this_bits : Nat) (v_bits : Nat → Int64) (R : (Nat → Int64)) (hR : jf_Ma_clear v_bits = some R) (sz : Nat) : Met l yX3_clear wsX3_clear jr_Ma_clear (jPw g [.ref a_this] (jw_Ma g a_this a_this_bits v_bits) sz) (jQv g (jw_Ma g a_this a_this_bits R) (va_A (jw_Ma g a_this a_this_bits v_bits) sz)) 0 0 (va_A (jw_Ma g a_this a_this_bits v_bits) sz) := by
  refine jm_wv (cc := cX3_clear) (maxL := 2) (by decide +kernel) rfl (Nat.le_of_ble_eq_true rfl) ?_
  intro p e s m below meth c A Q hx hb hml hown hts hK hP hD hA hS fin ls hl
  have hl : lv_has ls 2 [(0, .ref a_this)] := hl
  have hown : s.vm.findClass RX3 = some m.cls := hown
  have w_X3 : ∀ w ∈ u_ws RX3 TX3 1, w ∈ wsX3_clear := by decide +kernel
  have w_f9 := hts (.fieldLink RX3 9 "Billiardry$Marks" "bits" "[J") (by decide +kernel)
  have L2 : ∀ (n : Nat) (z1 : Int32) (v_bits : Nat → Int64) (H : Heap) (locs : List Loc), va_P g.1 vwCl (jw_Ma g a_this a_this_bits v_bits) H → va_S A s.heap H locs → ∀ (ls : Array Slot), lv_has ls 2 [(0, .ref a_this), (1, .int z1)] → ∀ q, jf_Ma_clear_L2 n z1 v_bits = some q → (∀ (H : Heap) (locs : List Loc), va_P g.1 vwCl (jw_Ma g a_this a_this_bits q) H → va_S A s.heap H locs → ∀ ls : Array Slot, lv_has ls 2 [] → W p l e jr_Ma_clear s m ([.ref a_this] : List Value).toArray below meth c H locs 0 0 Q (F0 m 24 ls [])) → W p l e jr_Ma_clear s m ([.ref a_this] : List Value).toArray below meth c H locs 0 0 Q (F0 m 2 ls []) := by
    intro n
    induction n with
    | zero =>
      intro z1 v_bits H locs hP hS ls hl q hR k
      cases hR
    | succ n ih =>
      intro z1 v_bits H locs hP hS ls hl q hR k
      rw [jf_Ma_clear_L2] at hR
      refine lv_iload_n hx hb dX3_clear_2 rfl (lv_at hl 1 rfl) ?_
      refine lv_aload_n hx hb dX3_clear_3 rfl (lv_at hl 0 rfl) ?_
      refine va_get (D := g.1) (ci := 3) (v := .ref a_this_bits) (C := RX3) (T := TX3) (N := 1) hx hb hts w_X3 hown hK.1 hP 0 rfl rfl 0 (by decide) w_f9 (fun _ h9 => h9) rfl dX3_clear_4 ?_
      refine va_alen (v := 8) hx hb hK.1 hP 1 1 rfl rfl rfl dX3_clear_7 ?_
      refine lv_icmp_ge (tgt := 24) hx hb dX3_clear_8 (by decide) (fun c_1 => ?_) (fun c_1 => ?_)
      · replace hR := Eq.trans (Eq.symm (if_pos c_1)) hR
        cases hR
        exact k _ _ hP hS _ (lv_sub hl [] rfl)
      · replace hR := Eq.trans (Eq.symm (if_neg c_1)) hR
        refine lv_aload_n hx hb dX3_clear_11 rfl (lv_at hl 0 rfl) ?_
        refine va_get (D := g.1) (ci := 3) (v := .ref a_this_bits) (C := RX3) (T := TX3) (N := 1) hx hb hts w_X3 hown hK.1 hP 0 rfl rfl 0 (by decide) w_f9 (fun _ h9 => h9) rfl dX3_clear_12 ?_
        refine lv_iload_n hx hb dX3_clear_15 rfl (lv_at hl 1 rfl) ?_
        refine lv_lconst (v := 0) hx hb dX3_clear_16 (by decide) ?_
        by_cases c_2 : jin z1 8 = true
        case neg => replace hR := Eq.trans (Eq.symm (if_neg c_2)) hR; cases hR
        replace hR := Eq.trans (Eq.symm (if_pos c_2)) hR
        refine va_last hx hb hK.1 hP (jD_to hD rfl) hS 1 1 rfl rfl (jin_in c_2) dX3_clear_17 (fun H locs hP _ hS => ?_)
        have hP : va_P g.1 vwCl (jw_Ma g a_this a_this_bits (vp_updL v_bits z1.toNatClampNeg 0)) H := hP
        refine lv_iinc (v := z1 + 1) (lv' := [(1, .int (z1 + 1)), (0, .ref a_this)]) hx hb dX3_clear_18 hl (k := 1) rfl (by first | rfl | decide) (by decide) rfl (fun ls hl => ?_)
        refine lv_goto (tgt := 2) hx hb dX3_clear_21 (by decide) ?_
        exact ih (z1 + 1) (vp_updL v_bits z1.toNatClampNeg 0) _ _ hP hS _ (lv_sub hl [1, 0] rfl) _ hR k
  rw [jf_Ma_clear] at hR
  refine lv_iconst (v := 0) hx hb dX3_clear_0 (by decide) ?_
  refine lv_istore_n (lv' := [(1, .int 0), (0, .ref a_this)]) hx hb dX3_clear_1 rfl hl (by decide) rfl (fun ls hl => ?_)
  obtain ⟨q_1, hq_1, hR⟩ := jbind hR
  try dsimp only at hR
  refine L2 jF 0 v_bits _ _ hP hS _ (lv_sub hl [1, 0] rfl) _ hq_1 (fun H locs hP hS ls hl => ?_)
  obtain rfl := (Option.some.inj hR)
  exact fin _ _ _ _ hP hS dX3_clear_24
def jf_Ma_has (v_bits : Nat → Int64) (x1 : Int32) : Option Int32 :=
  if x1 < 0 then (some 0) else (if 512 ≤ x1 then (some 0) else (if jin (x1 / 64) 8 = true then (if lg_cmp ((jlushr (v_bits (x1 / 64).toNatClampNeg) (x1 - x1 / 64 * 64)) &&& 1) 0 = 0 then (some 0) else (some 1)) else none))
abbrev jr_Ma_has : Room := { frames := 0, cells := 0, slots := 0, locals := 0 }
set_option maxRecDepth 100000 in
set_option maxHeartbeats 4000000 in
theorem jc_Ma_has (l : Launch) (g : jG) (a_this a_this_bits : Nat) (v_bits : Nat → Int64) (x1 : Int32) (R : Int32) (hR : jf_Ma_has v_bits x1 = some R) : Met l yX3_has wsX3_has jr_Ma_has (jPr g [.ref a_this, .int x1] (jw_Ma g a_this a_this_bits v_bits)) (vp_Si (fun r => r = R)) 0 0 (fun _ => False) := by
  refine jm_rz (cc := cX3_has) (maxL := 2) (by decide +kernel) rfl (Nat.le_of_ble_eq_true rfl) ?_
  intro p e s m below meth c Q hx hb hml hown hts hK hP fin ls hl
  have hl : lv_has ls 2 [(0, .ref a_this), (1, .int x1)] := hl
  have hown : s.vm.findClass RX3 = some m.cls := hown
  have w_X3 : ∀ w ∈ u_ws RX3 TX3 1, w ∈ wsX3_has := by decide +kernel
  have w_f9 := hts (.fieldLink RX3 9 "Billiardry$Marks" "bits" "[J") (by decide +kernel)
  rw [jf_Ma_has] at hR
  refine lv_iload_n hx hb dX3_has_0 rfl (lv_at hl 1 rfl) ?_
  refine lv_if_lt (tgt := 36) hx hb dX3_has_1 (by decide) (fun c_1 => ?_) (fun c_1 => ?_)
  · replace hR := Eq.trans (Eq.symm (if_pos c_1)) hR
    refine lv_iconst (v := 0) hx hb dX3_has_36 (by decide) ?_
    exact fin _ _ _ (Eq.trans (by decide) (Option.some.inj hR)) dX3_has_37
  · replace hR := Eq.trans (Eq.symm (if_neg c_1)) hR
    refine lv_iload_n hx hb dX3_has_4 rfl (lv_at hl 1 rfl) ?_
    refine lv_sipush (v := 512) hx hb dX3_has_5 (by decide) ?_
    refine lv_icmp_ge (tgt := 36) hx hb dX3_has_8 (by decide) (fun c_2 => ?_) (fun c_2 => ?_)
    · replace hR := Eq.trans (Eq.symm (if_pos c_2)) hR
      refine lv_iconst (v := 0) hx hb dX3_has_36 (by decide) ?_
      exact fin _ _ _ (Eq.trans (by decide) (Option.some.inj hR)) dX3_has_37
    · replace hR := Eq.trans (Eq.symm (if_neg c_2)) hR
      refine lv_aload_n hx hb dX3_has_11 rfl (lv_at hl 0 rfl) ?_
      refine va_get (D := g.1) (ci := 3) (v := .ref a_this_bits) (C := RX3) (T := TX3) (N := 1) hx hb hts w_X3 hown hK.1 hP 0 rfl rfl 0 (by decide) w_f9 (fun _ h9 => h9) rfl dX3_has_12 ?_
      refine lv_iload_n hx hb dX3_has_15 rfl (lv_at hl 1 rfl) ?_
      refine lv_bipush (v := 64) hx hb dX3_has_16 (by decide) ?_
      refine lv_idiv hx hb dX3_has_18 (by decide) ?_
      by_cases c_3 : jin (x1 / 64) 8 = true
      case neg => replace hR := Eq.trans (Eq.symm (if_neg c_3)) hR; cases hR
      replace hR := Eq.trans (Eq.symm (if_pos c_3)) hR
      refine va_lald hx hb hK.1 hP 1 1 rfl rfl (jin_in c_3) dX3_has_19 ?_
      refine lv_iload_n hx hb dX3_has_20 rfl (lv_at hl 1 rfl) ?_
      refine lv_bipush (v := 64) hx hb dX3_has_21 (by decide) ?_
      refine lv_irem hx hb dX3_has_23 (by decide) ?_
      refine lv_lushr (v := jlushr (v_bits (x1 / 64).toNatClampNeg) (x1 - x1 / 64 * 64)) hx hb dX3_has_24 rfl ?_
      refine lv_lconst (v := 1) hx hb dX3_has_25 (by decide) ?_
      refine lv_land hx hb dX3_has_26 ?_
      refine lv_lconst (v := 0) hx hb dX3_has_27 (by decide) ?_
      refine W.lcmp hx hb dX3_has_28 ?_
      refine lv_if_eq (tgt := 36) hx hb dX3_has_29 (by decide) (fun c_4 => ?_) (fun c_4 => ?_)
      · replace hR := Eq.trans (Eq.symm (if_pos c_4)) hR
        refine lv_iconst (v := 0) hx hb dX3_has_36 (by decide) ?_
        exact fin _ _ _ (Eq.trans (by decide) (Option.some.inj hR)) dX3_has_37
      · replace hR := Eq.trans (Eq.symm (if_neg c_4)) hR
        refine lv_iconst (v := 1) hx hb dX3_has_32 (by decide) ?_
        refine lv_goto (tgt := 37) hx hb dX3_has_33 (by decide) ?_
        exact fin _ _ _ (Eq.trans (by decide) (Option.some.inj hR)) dX3_has_37
def jf_Ma_add (v_bits : Nat → Int64) (x1 : Int32) : Option (Nat → Int64) :=
  if x1 < 0 then (some v_bits) else (if 512 ≤ x1 then (some v_bits) else (if jin (x1 / 64) 8 = true then (if jin (x1 / 64) 8 = true then (some (vp_updL v_bits (x1 / 64).toNatClampNeg ((v_bits (x1 / 64).toNatClampNeg) ||| (jlshl 1 (x1 - x1 / 64 * 64))))) else none) else none))
abbrev jr_Ma_add : Room := { frames := 0, cells := 0, slots := 0, locals := 0 }
set_option maxRecDepth 100000 in
set_option maxHeartbeats 4000000 in
theorem jc_Ma_add (l : Launch) (g : jG) (a_this a_this_bits : Nat) (v_bits : Nat → Int64) (x1 : Int32) (R : (Nat → Int64)) (hR : jf_Ma_add v_bits x1 = some R) (sz : Nat) : Met l yX3_add wsX3_add jr_Ma_add (jPw g [.ref a_this, .int x1] (jw_Ma g a_this a_this_bits v_bits) sz) (jQv g (jw_Ma g a_this a_this_bits R) (va_A (jw_Ma g a_this a_this_bits v_bits) sz)) 0 0 (va_A (jw_Ma g a_this a_this_bits v_bits) sz) := by
  refine jm_wv (cc := cX3_add) (maxL := 2) (by decide +kernel) rfl (Nat.le_of_ble_eq_true rfl) ?_
  intro p e s m below meth c A Q hx hb hml hown hts hK hP hD hA hS fin ls hl
  have hl : lv_has ls 2 [(0, .ref a_this), (1, .int x1)] := hl
  have hown : s.vm.findClass RX3 = some m.cls := hown
  have w_X3 : ∀ w ∈ u_ws RX3 TX3 1, w ∈ wsX3_add := by decide +kernel
  have w_f9 := hts (.fieldLink RX3 9 "Billiardry$Marks" "bits" "[J") (by decide +kernel)
  rw [jf_Ma_add] at hR
  refine lv_iload_n hx hb dX3_add_0 rfl (lv_at hl 1 rfl) ?_
  refine lv_if_lt (tgt := 29) hx hb dX3_add_1 (by decide) (fun c_1 => ?_) (fun c_1 => ?_)
  · replace hR := Eq.trans (Eq.symm (if_pos c_1)) hR
    obtain rfl := (Option.some.inj hR)
    exact fin _ _ _ _ hP hS dX3_add_29
  · replace hR := Eq.trans (Eq.symm (if_neg c_1)) hR
    refine lv_iload_n hx hb dX3_add_4 rfl (lv_at hl 1 rfl) ?_
    refine lv_sipush (v := 512) hx hb dX3_add_5 (by decide) ?_
    refine lv_icmp_ge (tgt := 29) hx hb dX3_add_8 (by decide) (fun c_2 => ?_) (fun c_2 => ?_)
    · replace hR := Eq.trans (Eq.symm (if_pos c_2)) hR
      obtain rfl := (Option.some.inj hR)
      exact fin _ _ _ _ hP hS dX3_add_29
    · replace hR := Eq.trans (Eq.symm (if_neg c_2)) hR
      refine lv_aload_n hx hb dX3_add_11 rfl (lv_at hl 0 rfl) ?_
      refine va_get (D := g.1) (ci := 3) (v := .ref a_this_bits) (C := RX3) (T := TX3) (N := 1) hx hb hts w_X3 hown hK.1 hP 0 rfl rfl 0 (by decide) w_f9 (fun _ h9 => h9) rfl dX3_add_12 ?_
      refine lv_iload_n hx hb dX3_add_15 rfl (lv_at hl 1 rfl) ?_
      refine lv_bipush (v := 64) hx hb dX3_add_16 (by decide) ?_
      refine lv_idiv hx hb dX3_add_18 (by decide) ?_
      refine lv_dup2_11 hx hb dX3_add_19 rfl rfl ?_
      by_cases c_3 : jin (x1 / 64) 8 = true
      case neg => replace hR := Eq.trans (Eq.symm (if_neg c_3)) hR; cases hR
      replace hR := Eq.trans (Eq.symm (if_pos c_3)) hR
      refine va_lald hx hb hK.1 hP 1 1 rfl rfl (jin_in c_3) dX3_add_20 ?_
      refine lv_lconst (v := 1) hx hb dX3_add_21 (by decide) ?_
      refine lv_iload_n hx hb dX3_add_22 rfl (lv_at hl 1 rfl) ?_
      refine lv_bipush (v := 64) hx hb dX3_add_23 (by decide) ?_
      refine lv_irem hx hb dX3_add_25 (by decide) ?_
      refine lv_lshl (v := jlshl 1 (x1 - x1 / 64 * 64)) hx hb dX3_add_26 rfl ?_
      refine lv_lor hx hb dX3_add_27 ?_
      by_cases c_4 : jin (x1 / 64) 8 = true
      case neg => replace hR := Eq.trans (Eq.symm (if_neg c_4)) hR; cases hR
      replace hR := Eq.trans (Eq.symm (if_pos c_4)) hR
      refine va_last hx hb hK.1 hP (jD_to hD rfl) hS 1 1 rfl rfl (jin_in c_4) dX3_add_28 (fun H locs hP _ hS => ?_)
      have hP : va_P g.1 vwCl (jw_Ma g a_this a_this_bits (vp_updL v_bits (x1 / 64).toNatClampNeg ((v_bits (x1 / 64).toNatClampNeg) ||| (jlshl 1 (x1 - x1 / 64 * 64))))) H := hP
      obtain rfl := (Option.some.inj hR)
      exact fin _ _ _ _ hP hS dX3_add_29
def jf_In_bitCount (x0 : Int32) : Int32 :=
  jlet (x0 - ((jush x0 1) &&& 1431655765)) (fun y0_1 => jlet ((y0_1 &&& 858993459) + ((jush y0_1 2) &&& 858993459)) (fun y0_2 => jlet ((y0_2 + (jush y0_2 4)) &&& 252645135) (fun y0_3 => jlet (y0_3 + (jush y0_3 8)) (fun y0_4 => jlet (y0_4 + (jush y0_4 16)) (fun y0_5 => y0_5 &&& 63)))))
abbrev jr_In_bitCount : Room := { frames := 0, cells := 0, slots := 0, locals := 0 }
set_option maxRecDepth 100000 in
set_option maxHeartbeats 4000000 in
theorem jc_In_bitCount (l : Launch) (g : jG) (x0 : Int32) (R : Int32) (hR : jf_In_bitCount x0 = R) : Met l yJ6_bitCount_0f7a4 wsJ6_bitCount_0f7a4 jr_In_bitCount (jPr g [.int x0] ([])) (vp_Si (fun r => r = R)) 0 0 (fun _ => False) := by
  refine jm_ri (cc := cJ6_bitCount_0f7a4) (maxL := 1) (by decide +kernel) rfl (Nat.le_of_ble_eq_true rfl) ?_
  intro p e s m below meth c Q hx hb hml hown hts hK hP fin ls hl
  have hl : lv_has ls 1 [(0, .int x0)] := hl
  have hown : s.vm.findClass RJ6 = some m.cls := hown
  rw [jf_In_bitCount] at hR
  refine lv_iload_n hx hb dJ6_bitCount_0f7a4_0 rfl (lv_at hl 0 rfl) ?_
  refine lv_iload_n hx hb dJ6_bitCount_0f7a4_1 rfl (lv_at hl 0 rfl) ?_
  refine lv_iconst (v := 1) hx hb dJ6_bitCount_0f7a4_2 (by decide) ?_
  refine lv_iushr (v := jush x0 1) hx hb dJ6_bitCount_0f7a4_3 rfl ?_
  refine lv_ldcw (v := 1431655765) hx hb hown (hts (.constant RJ6 265 (1431655765)) (by decide +kernel)) dJ6_bitCount_0f7a4_4 ?_
  refine lv_iand hx hb dJ6_bitCount_0f7a4_7 ?_
  refine lv_isub hx hb dJ6_bitCount_0f7a4_8 ?_
  refine jlet_i hR (fun y0_1 hR => ?_)
  try dsimp only at hR
  refine lv_istore_n (lv' := [(0, .int y0_1)]) hx hb dJ6_bitCount_0f7a4_9 rfl hl (by decide) rfl (fun ls hl => ?_)
  refine lv_iload_n hx hb dJ6_bitCount_0f7a4_10 rfl (lv_at hl 0 rfl) ?_
  refine lv_ldcw (v := 858993459) hx hb hown (hts (.constant RJ6 266 (858993459)) (by decide +kernel)) dJ6_bitCount_0f7a4_11 ?_
  refine lv_iand hx hb dJ6_bitCount_0f7a4_14 ?_
  refine lv_iload_n hx hb dJ6_bitCount_0f7a4_15 rfl (lv_at hl 0 rfl) ?_
  refine lv_iconst (v := 2) hx hb dJ6_bitCount_0f7a4_16 (by decide) ?_
  refine lv_iushr (v := jush y0_1 2) hx hb dJ6_bitCount_0f7a4_17 rfl ?_
  refine lv_ldcw (v := 858993459) hx hb hown (hts (.constant RJ6 266 (858993459)) (by decide +kernel)) dJ6_bitCount_0f7a4_18 ?_
  refine lv_iand hx hb dJ6_bitCount_0f7a4_21 ?_
  refine lv_iadd hx hb dJ6_bitCount_0f7a4_22 ?_
  refine jlet_i hR (fun y0_2 hR => ?_)
  try dsimp only at hR
  refine lv_istore_n (lv' := [(0, .int y0_2)]) hx hb dJ6_bitCount_0f7a4_23 rfl hl (by decide) rfl (fun ls hl => ?_)
  refine lv_iload_n hx hb dJ6_bitCount_0f7a4_24 rfl (lv_at hl 0 rfl) ?_
  refine lv_iload_n hx hb dJ6_bitCount_0f7a4_25 rfl (lv_at hl 0 rfl) ?_
  refine lv_iconst (v := 4) hx hb dJ6_bitCount_0f7a4_26 (by decide) ?_
  refine lv_iushr (v := jush y0_2 4) hx hb dJ6_bitCount_0f7a4_27 rfl ?_
  refine lv_iadd hx hb dJ6_bitCount_0f7a4_28 ?_
  refine lv_ldcw (v := 252645135) hx hb hown (hts (.constant RJ6 267 (252645135)) (by decide +kernel)) dJ6_bitCount_0f7a4_29 ?_
  refine lv_iand hx hb dJ6_bitCount_0f7a4_32 ?_
  refine jlet_i hR (fun y0_3 hR => ?_)
  try dsimp only at hR
  refine lv_istore_n (lv' := [(0, .int y0_3)]) hx hb dJ6_bitCount_0f7a4_33 rfl hl (by decide) rfl (fun ls hl => ?_)
  refine lv_iload_n hx hb dJ6_bitCount_0f7a4_34 rfl (lv_at hl 0 rfl) ?_
  refine lv_iload_n hx hb dJ6_bitCount_0f7a4_35 rfl (lv_at hl 0 rfl) ?_
  refine lv_bipush (v := 8) hx hb dJ6_bitCount_0f7a4_36 (by decide) ?_
  refine lv_iushr (v := jush y0_3 8) hx hb dJ6_bitCount_0f7a4_38 rfl ?_
  refine lv_iadd hx hb dJ6_bitCount_0f7a4_39 ?_
  refine jlet_i hR (fun y0_4 hR => ?_)
  try dsimp only at hR
  refine lv_istore_n (lv' := [(0, .int y0_4)]) hx hb dJ6_bitCount_0f7a4_40 rfl hl (by decide) rfl (fun ls hl => ?_)
  refine lv_iload_n hx hb dJ6_bitCount_0f7a4_41 rfl (lv_at hl 0 rfl) ?_
  refine lv_iload_n hx hb dJ6_bitCount_0f7a4_42 rfl (lv_at hl 0 rfl) ?_
  refine lv_bipush (v := 16) hx hb dJ6_bitCount_0f7a4_43 (by decide) ?_
  refine lv_iushr (v := jush y0_4 16) hx hb dJ6_bitCount_0f7a4_45 rfl ?_
  refine lv_iadd hx hb dJ6_bitCount_0f7a4_46 ?_
  refine jlet_i hR (fun y0_5 hR => ?_)
  try dsimp only at hR
  refine lv_istore_n (lv' := [(0, .int y0_5)]) hx hb dJ6_bitCount_0f7a4_47 rfl hl (by decide) rfl (fun ls hl => ?_)
  refine lv_iload_n hx hb dJ6_bitCount_0f7a4_48 rfl (lv_at hl 0 rfl) ?_
  refine lv_bipush (v := 63) hx hb dJ6_bitCount_0f7a4_49 (by decide) ?_
  refine lv_iand hx hb dJ6_bitCount_0f7a4_51 ?_
  exact fin _ _ _ hR dJ6_bitCount_0f7a4_52
def jf_In_compare (x0 : Int32) (x1 : Int32) : Int32 :=
  if x1 ≤ x0 then (if x0 = x1 then 0 else 1) else (-1)
abbrev jr_In_compare : Room := { frames := 0, cells := 0, slots := 0, locals := 0 }
set_option maxRecDepth 100000 in
set_option maxHeartbeats 4000000 in
theorem jc_In_compare (l : Launch) (g : jG) (x0 : Int32) (x1 : Int32) (R : Int32) (hR : jf_In_compare x0 x1 = R) : Met l yJ6_compare_7cf53 wsJ6_compare_7cf53 jr_In_compare (jPr g [.int x0, .int x1] ([])) (vp_Si (fun r => r = R)) 0 0 (fun _ => False) := by
  refine jm_ri (cc := cJ6_compare_7cf53) (maxL := 2) (by decide +kernel) rfl (Nat.le_of_ble_eq_true rfl) ?_
  intro p e s m below meth c Q hx hb hml hown hts hK hP fin ls hl
  have hl : lv_has ls 2 [(0, .int x0), (1, .int x1)] := hl
  have hown : s.vm.findClass RJ6 = some m.cls := hown
  rw [jf_In_compare] at hR
  refine lv_iload_n hx hb dJ6_compare_7cf53_0 rfl (lv_at hl 0 rfl) ?_
  refine lv_iload_n hx hb dJ6_compare_7cf53_1 rfl (lv_at hl 1 rfl) ?_
  refine lv_icmp_ge (tgt := 9) hx hb dJ6_compare_7cf53_2 (by decide) (fun c_1 => ?_) (fun c_1 => ?_)
  · replace hR := Eq.trans (Eq.symm (if_pos c_1)) hR
    refine lv_iload_n hx hb dJ6_compare_7cf53_9 rfl (lv_at hl 0 rfl) ?_
    refine lv_iload_n hx hb dJ6_compare_7cf53_10 rfl (lv_at hl 1 rfl) ?_
    refine lv_icmp_ne (tgt := 18) hx hb dJ6_compare_7cf53_11 (by decide) (fun c_2 => ?_) (fun c_2 => ?_)
    · replace hR := Eq.trans (Eq.symm (if_neg c_2)) hR
      refine lv_iconst (v := 1) hx hb dJ6_compare_7cf53_18 (by decide) ?_
      exact fin _ _ _ hR dJ6_compare_7cf53_19
    · replace hR := Eq.trans (Eq.symm (if_pos c_2)) hR
      refine lv_iconst (v := 0) hx hb dJ6_compare_7cf53_14 (by decide) ?_
      refine lv_goto (tgt := 19) hx hb dJ6_compare_7cf53_15 (by decide) ?_
      exact fin _ _ _ hR dJ6_compare_7cf53_19
  · replace hR := Eq.trans (Eq.symm (if_neg c_1)) hR
    refine lv_iconst (v := (-1)) hx hb dJ6_compare_7cf53_5 (by decide) ?_
    refine lv_goto (tgt := 19) hx hb dJ6_compare_7cf53_6 (by decide) ?_
    exact fin _ _ _ hR dJ6_compare_7cf53_19
def jf_Lo_bitCount (x0 : Int64) : Int32 :=
  jlet (x0 - ((jlushr x0 1) &&& 6148914691236517205)) (fun y0_1 => jlet ((y0_1 &&& 3689348814741910323) + ((jlushr y0_1 2) &&& 3689348814741910323)) (fun y0_2 => jlet ((y0_2 + (jlushr y0_2 4)) &&& 1085102592571150095) (fun y0_3 => jlet (y0_3 + (jlushr y0_3 8)) (fun y0_4 => jlet (y0_4 + (jlushr y0_4 16)) (fun y0_5 => jlet (y0_5 + (jlushr y0_5 32)) (fun y0_6 => y0_6.toInt32 &&& 127))))))
abbrev jr_Lo_bitCount : Room := { frames := 0, cells := 0, slots := 0, locals := 0 }
set_option maxRecDepth 100000 in
set_option maxHeartbeats 4000000 in
theorem jc_Lo_bitCount (l : Launch) (g : jG) (x0 : Int64) (R : Int32) (hR : jf_Lo_bitCount x0 = R) : Met l yJ13_bitCount_95d88 wsJ13_bitCount_95d88 jr_Lo_bitCount (jPr g [.long x0] ([])) (vp_Si (fun r => r = R)) 0 0 (fun _ => False) := by
  refine jm_ri (cc := cJ13_bitCount_95d88) (maxL := 2) (by decide +kernel) rfl (Nat.le_of_ble_eq_true rfl) ?_
  intro p e s m below meth c Q hx hb hml hown hts hK hP fin ls hl
  have hl : lv_has ls 2 [(0, .long x0)] := hl
  have hown : s.vm.findClass RJ13 = some m.cls := hown
  rw [jf_Lo_bitCount] at hR
  refine lv_lload_n hx hb dJ13_bitCount_95d88_0 rfl (lv_at hl 0 rfl) ?_
  refine lv_lload_n hx hb dJ13_bitCount_95d88_1 rfl (lv_at hl 0 rfl) ?_
  refine lv_iconst (v := 1) hx hb dJ13_bitCount_95d88_2 (by decide) ?_
  refine lv_lushr (v := jlushr x0 1) hx hb dJ13_bitCount_95d88_3 rfl ?_
  refine lv_ldc2 (v := 6148914691236517205) hx hb hown (hts (.constantLong RJ13 314 (6148914691236517205)) (by decide +kernel)) dJ13_bitCount_95d88_4 ?_
  refine lv_land hx hb dJ13_bitCount_95d88_7 ?_
  refine lv_lsub hx hb dJ13_bitCount_95d88_8 ?_
  refine jlet_l hR (fun y0_1 hR => ?_)
  try dsimp only at hR
  refine lv_lstore_n (lv' := [(0, .long y0_1)]) hx hb dJ13_bitCount_95d88_9 rfl hl (by decide) rfl (fun ls hl => ?_)
  refine lv_lload_n hx hb dJ13_bitCount_95d88_10 rfl (lv_at hl 0 rfl) ?_
  refine lv_ldc2 (v := 3689348814741910323) hx hb hown (hts (.constantLong RJ13 316 (3689348814741910323)) (by decide +kernel)) dJ13_bitCount_95d88_11 ?_
  refine lv_land hx hb dJ13_bitCount_95d88_14 ?_
  refine lv_lload_n hx hb dJ13_bitCount_95d88_15 rfl (lv_at hl 0 rfl) ?_
  refine lv_iconst (v := 2) hx hb dJ13_bitCount_95d88_16 (by decide) ?_
  refine lv_lushr (v := jlushr y0_1 2) hx hb dJ13_bitCount_95d88_17 rfl ?_
  refine lv_ldc2 (v := 3689348814741910323) hx hb hown (hts (.constantLong RJ13 316 (3689348814741910323)) (by decide +kernel)) dJ13_bitCount_95d88_18 ?_
  refine lv_land hx hb dJ13_bitCount_95d88_21 ?_
  refine lv_ladd hx hb dJ13_bitCount_95d88_22 ?_
  refine jlet_l hR (fun y0_2 hR => ?_)
  try dsimp only at hR
  refine lv_lstore_n (lv' := [(0, .long y0_2)]) hx hb dJ13_bitCount_95d88_23 rfl hl (by decide) rfl (fun ls hl => ?_)
  refine lv_lload_n hx hb dJ13_bitCount_95d88_24 rfl (lv_at hl 0 rfl) ?_
  refine lv_lload_n hx hb dJ13_bitCount_95d88_25 rfl (lv_at hl 0 rfl) ?_
  refine lv_iconst (v := 4) hx hb dJ13_bitCount_95d88_26 (by decide) ?_
  refine lv_lushr (v := jlushr y0_2 4) hx hb dJ13_bitCount_95d88_27 rfl ?_
  refine lv_ladd hx hb dJ13_bitCount_95d88_28 ?_
  refine lv_ldc2 (v := 1085102592571150095) hx hb hown (hts (.constantLong RJ13 318 (1085102592571150095)) (by decide +kernel)) dJ13_bitCount_95d88_29 ?_
  refine lv_land hx hb dJ13_bitCount_95d88_32 ?_
  refine jlet_l hR (fun y0_3 hR => ?_)
  try dsimp only at hR
  refine lv_lstore_n (lv' := [(0, .long y0_3)]) hx hb dJ13_bitCount_95d88_33 rfl hl (by decide) rfl (fun ls hl => ?_)
  refine lv_lload_n hx hb dJ13_bitCount_95d88_34 rfl (lv_at hl 0 rfl) ?_
  refine lv_lload_n hx hb dJ13_bitCount_95d88_35 rfl (lv_at hl 0 rfl) ?_
  refine lv_bipush (v := 8) hx hb dJ13_bitCount_95d88_36 (by decide) ?_
  refine lv_lushr (v := jlushr y0_3 8) hx hb dJ13_bitCount_95d88_38 rfl ?_
  refine lv_ladd hx hb dJ13_bitCount_95d88_39 ?_
  refine jlet_l hR (fun y0_4 hR => ?_)
  try dsimp only at hR
  refine lv_lstore_n (lv' := [(0, .long y0_4)]) hx hb dJ13_bitCount_95d88_40 rfl hl (by decide) rfl (fun ls hl => ?_)
  refine lv_lload_n hx hb dJ13_bitCount_95d88_41 rfl (lv_at hl 0 rfl) ?_
  refine lv_lload_n hx hb dJ13_bitCount_95d88_42 rfl (lv_at hl 0 rfl) ?_
  refine lv_bipush (v := 16) hx hb dJ13_bitCount_95d88_43 (by decide) ?_
  refine lv_lushr (v := jlushr y0_4 16) hx hb dJ13_bitCount_95d88_45 rfl ?_
  refine lv_ladd hx hb dJ13_bitCount_95d88_46 ?_
  refine jlet_l hR (fun y0_5 hR => ?_)
  try dsimp only at hR
  refine lv_lstore_n (lv' := [(0, .long y0_5)]) hx hb dJ13_bitCount_95d88_47 rfl hl (by decide) rfl (fun ls hl => ?_)
  refine lv_lload_n hx hb dJ13_bitCount_95d88_48 rfl (lv_at hl 0 rfl) ?_
  refine lv_lload_n hx hb dJ13_bitCount_95d88_49 rfl (lv_at hl 0 rfl) ?_
  refine lv_bipush (v := 32) hx hb dJ13_bitCount_95d88_50 (by decide) ?_
  refine lv_lushr (v := jlushr y0_5 32) hx hb dJ13_bitCount_95d88_52 rfl ?_
  refine lv_ladd hx hb dJ13_bitCount_95d88_53 ?_
  refine jlet_l hR (fun y0_6 hR => ?_)
  try dsimp only at hR
  refine lv_lstore_n (lv' := [(0, .long y0_6)]) hx hb dJ13_bitCount_95d88_54 rfl hl (by decide) rfl (fun ls hl => ?_)
  refine lv_lload_n hx hb dJ13_bitCount_95d88_55 rfl (lv_at hl 0 rfl) ?_
  refine lv_l2i (v := y0_6.toInt32) hx hb dJ13_bitCount_95d88_56 rfl ?_
  refine lv_bipush (v := 127) hx hb dJ13_bitCount_95d88_57 (by decide) ?_
  refine lv_iand hx hb dJ13_bitCount_95d88_59 ?_
  exact fin _ _ _ hR dJ13_bitCount_95d88_60
def jf_Bi_exchangeIn (n0 : Nat) (v_r0 : Nat → Int32) (x1 : Int32) (x2 : Int32) : (Nat → Int32) :=
  jlet (jat n0 v_r0 x1) (fun y3_1 => jlet (jput n0 v_r0 x1 (jat n0 v_r0 x2)) (fun q_1 => jlet (jput n0 q_1 x2 y3_1) (fun q_2 => q_2)))
abbrev jr_Bi_exchangeIn : Room := { frames := 1, cells := 0, slots := 0, locals := 22 }
set_option maxRecDepth 100000 in
set_option maxHeartbeats 4000000 in
theorem jc_Bi_exchangeIn (l : Launch) (g : jG) (a_r0 : Nat) (n0 : Nat) (h_n0 : n0 < 2147483648) (v_r0 : Nat → Int32) (x1 : Int32) (x2 : Int32) (R : (Nat → Int32)) (hR : jf_Bi_exchangeIn n0 v_r0 x1 x2 = R) (sz : Nat) : Met l yX6_exchangeIn wsX6_exchangeIn jr_Bi_exchangeIn (jPw g [.ref a_r0, .int x1, .int x2] (jw_arI g a_r0 n0 v_r0) sz) (jQv g (jw_arI g a_r0 n0 R) (va_A (jw_arI g a_r0 n0 v_r0) sz)) 0 0 (va_A (jw_arI g a_r0 n0 v_r0) sz) := by
  refine jm_wv (cc := cX6_exchangeIn) (maxL := 4) (by decide +kernel) rfl (Nat.le_of_ble_eq_true rfl) ?_
  intro p e s m below meth c A Q hx hb hml hown hts hK hP hD hA hS fin ls hl
  have hl : lv_has ls 4 [(0, .ref a_r0), (1, .int x1), (2, .int x2)] := hl
  have hown : s.vm.findClass RX6 = some m.cls := hown
  rw [jf_Bi_exchangeIn] at hR
  refine lv_aload_n hx hb dX6_exchangeIn_0 rfl (lv_at hl 0 rfl) ?_
  refine lv_iload_n hx hb dX6_exchangeIn_1 rfl (lv_at hl 1 rfl) ?_
  refine jcall_ri (va_runS (As := [.ref a_r0, .int x1]) (rest := []) ⟨hx, hb, hml, hown, hts⟩ (jc_Bi_at_t l g a_r0 n0 h_n0 v_r0 x1 _ rfl) (va_cwS 2 hts gX6_exchangeIn_X6_at rfl rfl rfl (by decide +kernel) ⟨Nat.le_of_ble_eq_true rfl, Nat.le_of_ble_eq_true rfl⟩) (jpr_s hK hP) rfl rfl hl.1 rfl (lv_room (Nat.le_of_ble_eq_true rfl)) dX6_exchangeIn_2 ⟨Nat.zero_le _, Nat.zero_le _⟩) ?_
  refine jlet_i hR (fun y3_1 hR => ?_)
  try dsimp only at hR
  refine lv_istore_n (lv' := [(3, .int y3_1), (0, .ref a_r0), (1, .int x1), (2, .int x2)]) hx hb dX6_exchangeIn_5 rfl hl (by decide) rfl (fun ls hl => ?_)
  refine lv_aload_n hx hb dX6_exchangeIn_6 rfl (lv_at hl 1 rfl) ?_
  refine lv_iload_n hx hb dX6_exchangeIn_7 rfl (lv_at hl 2 rfl) ?_
  refine lv_aload_n hx hb dX6_exchangeIn_8 rfl (lv_at hl 1 rfl) ?_
  refine lv_iload_n hx hb dX6_exchangeIn_9 rfl (lv_at hl 3 rfl) ?_
  refine jcall_ri (va_runS (As := [.ref a_r0, .int x2]) (rest := [.int x1, .ref a_r0]) ⟨hx, hb, hml, hown, hts⟩ (jc_Bi_at_t l g a_r0 n0 h_n0 v_r0 x2 _ rfl) (va_cwS 2 hts gX6_exchangeIn_X6_at rfl rfl rfl (by decide +kernel) ⟨Nat.le_of_ble_eq_true rfl, Nat.le_of_ble_eq_true rfl⟩) (jpr_s hK hP) rfl rfl hl.1 rfl (lv_room (Nat.le_of_ble_eq_true rfl)) dX6_exchangeIn_10 ⟨Nat.zero_le _, Nat.zero_le _⟩) ?_
  obtain ⟨q_1, hq_1, hR⟩ := jlet_b hR
  try dsimp only at hR
  refine jcall_wv (ws' := jw_arI g a_r0 n0 q_1) (va_runS (As := [.ref a_r0, .int x1, .int (jat n0 v_r0 x2)]) (rest := []) ⟨hx, hb, hml, hown, hts⟩ (jc_Bi_put_t l g a_r0 n0 h_n0 v_r0 x1 (jat n0 v_r0 x2) _ hq_1 _) (va_cwS 3 hts gX6_exchangeIn_X6_put rfl rfl rfl (by decide +kernel) ⟨Nat.le_of_ble_eq_true rfl, Nat.le_of_ble_eq_true rfl⟩) (jpw_s hK hP (jD_to hD rfl)) rfl rfl hl.1 rfl (lv_room (Nat.le_of_ble_eq_true rfl)) dX6_exchangeIn_13 ⟨Nat.zero_le _, Nat.zero_le _⟩) hP (jD_to hD rfl) hS hA [0] [] [0] rfl (by decide) rfl (fun H locs hP hS => ?_)
  refine lv_aload_n hx hb dX6_exchangeIn_16 rfl (lv_at hl 1 rfl) ?_
  refine lv_iload_n hx hb dX6_exchangeIn_17 rfl (lv_at hl 3 rfl) ?_
  refine lv_iload_n hx hb dX6_exchangeIn_18 rfl (lv_at hl 0 rfl) ?_
  obtain ⟨q_2, hq_2, hR⟩ := jlet_b hR
  try dsimp only at hR
  refine jcall_wv (ws' := jw_arI g a_r0 n0 q_2) (va_runS (As := [.ref a_r0, .int x2, .int y3_1]) (rest := []) ⟨hx, hb, hml, hown, hts⟩ (jc_Bi_put_t l g a_r0 n0 h_n0 q_1 x2 y3_1 _ hq_2 _) (va_cwS 3 hts gX6_exchangeIn_X6_put rfl rfl rfl (by decide +kernel) ⟨Nat.le_of_ble_eq_true rfl, Nat.le_of_ble_eq_true rfl⟩) (jpw_s hK hP (jD_to hD rfl)) rfl rfl hl.1 rfl (lv_room (Nat.le_of_ble_eq_true rfl)) dX6_exchangeIn_19 ⟨Nat.zero_le _, Nat.zero_le _⟩) hP (jD_to hD rfl) hS hA [0] [] [0] rfl (by decide) rfl (fun H locs hP hS => ?_)
  subst hR
  exact fin _ _ _ _ hP hS dX6_exchangeIn_22
def jf_Bi_placeOf_L2 (n0 : Nat) (v_r0 : Nat → Int32) (z1 : Int32) (z2 : Int32) : Nat → Int32 → Option (Int32 ⊕ Unit)
  | 0, _ => none
  | n + 1, z3 =>
    if z1 ≤ z3 then (some (.inr ())) else (if (jat n0 v_r0 z3) = z2 then (some (.inl z3)) else ((jf_Bi_placeOf_L2 n0 v_r0 z1 z2 n) (z3 + 1)))
def jf_Bi_placeOf (n0 : Nat) (v_r0 : Nat → Int32) (x1 : Int32) (x2 : Int32) : Option Int32 :=
  Option.bind (jf_Bi_placeOf_L2 n0 v_r0 x1 x2 jF 0) (fun q_1 => jsum (fun o_1 => some o_1) (fun o_2 => some 0) q_1)
abbrev jr_Bi_placeOf : Room := { frames := 1, cells := 0, slots := 0, locals := 21 }
set_option maxRecDepth 100000 in
set_option maxHeartbeats 4000000 in
theorem jc_Bi_placeOf (l : Launch) (g : jG) (a_r0 : Nat) (n0 : Nat) (h_n0 : n0 < 2147483648) (v_r0 : Nat → Int32) (x1 : Int32) (x2 : Int32) (R : Int32) (hR : jf_Bi_placeOf n0 v_r0 x1 x2 = some R) : Met l yX6_placeOf wsX6_placeOf jr_Bi_placeOf (jPr g [.ref a_r0, .int x1, .int x2] (jw_arI g a_r0 n0 v_r0)) (vp_Si (fun r => r = R)) 0 0 (fun _ => False) := by
  refine jm_ri (cc := cX6_placeOf) (maxL := 4) (by decide +kernel) rfl (Nat.le_of_ble_eq_true rfl) ?_
  intro p e s m below meth c Q hx hb hml hown hts hK hP fin ls hl
  have hl : lv_has ls 4 [(0, .ref a_r0), (1, .int x1), (2, .int x2)] := hl
  have hown : s.vm.findClass RX6 = some m.cls := hown
  have L2 : ∀ (n : Nat) (z1 : Int32) (z2 : Int32) (z3 : Int32) (ls : Array Slot), lv_has ls 4 [(0, .ref a_r0), (1, .int z1), (2, .int z2), (3, .int z3)] → ∀ q, jf_Bi_placeOf_L2 n0 v_r0 z1 z2 n z3 = some q → ((∀ o, q = .inl o → ∀ ls : Array Slot, lv_has ls 4 [(3, .int o)] → W p l e jr_Bi_placeOf s m ([.ref a_r0, .int x1, .int x2] : List Value).toArray below meth c s.heap [] 0 0 Q (F0 m 16 ls [])) ∧ (∀ o, q = .inr o → ∀ ls : Array Slot, lv_has ls 4 [] → W p l e jr_Bi_placeOf s m ([.ref a_r0, .int x1, .int x2] : List Value).toArray below meth c s.heap [] 0 0 Q (F0 m 24 ls []))) → W p l e jr_Bi_placeOf s m ([.ref a_r0, .int x1, .int x2] : List Value).toArray below meth c s.heap [] 0 0 Q (F0 m 2 ls []) := by
    intro n z1 z2
    induction n with
    | zero =>
      intro z3 ls hl q hR k
      cases hR
    | succ n ih =>
      intro z3 ls hl q hR k
      rw [jf_Bi_placeOf_L2] at hR
      refine lv_iload_n hx hb dX6_placeOf_2 rfl (lv_at hl 3 rfl) ?_
      refine lv_iload_n hx hb dX6_placeOf_3 rfl (lv_at hl 1 rfl) ?_
      refine lv_icmp_ge (tgt := 24) hx hb dX6_placeOf_4 (by decide) (fun c_1 => ?_) (fun c_1 => ?_)
      · replace hR := Eq.trans (Eq.symm (if_pos c_1)) hR
        cases hR
        exact k.2 _ rfl _ (lv_sub hl [] rfl)
      · replace hR := Eq.trans (Eq.symm (if_neg c_1)) hR
        refine lv_aload_n hx hb dX6_placeOf_7 rfl (lv_at hl 0 rfl) ?_
        refine lv_iload_n hx hb dX6_placeOf_8 rfl (lv_at hl 3 rfl) ?_
        refine jcall_ri (va_runS (As := [.ref a_r0, .int z3]) (rest := []) ⟨hx, hb, hml, hown, hts⟩ (jc_Bi_at_t l g a_r0 n0 h_n0 v_r0 z3 _ rfl) (va_cwS 2 hts gX6_placeOf_X6_at rfl rfl rfl (by decide +kernel) ⟨Nat.le_of_ble_eq_true rfl, Nat.le_of_ble_eq_true rfl⟩) (jpr_s hK hP) rfl rfl hl.1 rfl (lv_room (Nat.le_of_ble_eq_true rfl)) dX6_placeOf_9 ⟨Nat.zero_le _, Nat.zero_le _⟩) ?_
        refine lv_iload_n hx hb dX6_placeOf_12 rfl (lv_at hl 2 rfl) ?_
        refine lv_icmp_ne (tgt := 18) hx hb dX6_placeOf_13 (by decide) (fun c_2 => ?_) (fun c_2 => ?_)
        · replace hR := Eq.trans (Eq.symm (if_neg c_2)) hR
          refine lv_iinc (v := z3 + 1) (lv' := [(3, .int (z3 + 1)), (0, .ref a_r0), (1, .int z1), (2, .int z2)]) hx hb dX6_placeOf_18 hl (k := 3) rfl (by first | rfl | decide) (by decide) rfl (fun ls hl => ?_)
          refine lv_goto (tgt := 2) hx hb dX6_placeOf_21 (by decide) ?_
          exact ih (z3 + 1) _ (lv_sub hl [1, 2, 3, 0] rfl) _ hR k
        · replace hR := Eq.trans (Eq.symm (if_pos c_2)) hR
          cases hR
          exact k.1 _ rfl _ (lv_sub hl [3] rfl)
  rw [jf_Bi_placeOf] at hR
  refine lv_iconst (v := 0) hx hb dX6_placeOf_0 (by decide) ?_
  refine lv_istore_n (lv' := [(3, .int 0), (0, .ref a_r0), (1, .int x1), (2, .int x2)]) hx hb dX6_placeOf_1 rfl hl (by decide) rfl (fun ls hl => ?_)
  obtain ⟨q_1, hq_1, hR⟩ := jbind hR
  refine L2 jF x1 x2 0 _ (lv_sub hl [1, 2, 3, 0] rfl) _ hq_1 ⟨fun o_1 ho ls hl => ?_, fun o_2 ho ls hl => ?_⟩
  · rw [ho] at hR
    try dsimp only [jsum] at hR
    refine lv_iload_n hx hb dX6_placeOf_16 rfl (lv_at hl 0 rfl) ?_
    exact fin _ _ _ (Option.some.inj hR) dX6_placeOf_17
  · rw [ho] at hR
    try dsimp only [jsum] at hR
    refine lv_iconst (v := 0) hx hb dX6_placeOf_24 (by decide) ?_
    exact fin _ _ _ (Option.some.inj hR) dX6_placeOf_25
/-! marks: plain functions -/
theorem jin_64 {x : Int32} (h0 : ¬ x < 0) (h1 : ¬ 512 ≤ x) : jin (x / 64) 8 = true := by
  obtain ⟨j, hj, rfl⟩ := nI_of h0
  have h2 : j < 512 := by
    rcases Nat.lt_or_ge j 512 with q | q
    · exact q
    · exact absurd ((nI_leI (by decide) hj).mpr q) h1
  have e : nI j / 64 = nI (j / 64) := pk_div hj (by decide) (by decide)
  rw [e]
  exact decide_eq_true (nI_in (by omega) (by decide))
def jhas (f : Nat → Int64) (x : Int32) : Int32 := if x < 0 then 0 else if 512 ≤ x then 0 else if lg_cmp ((jlushr (f (x / 64).toNatClampNeg) (x - x / 64 * 64)) &&& 1) 0 = 0 then 0 else 1
def jadd (f : Nat → Int64) (x : Int32) : Nat → Int64 := if x < 0 then f else if 512 ≤ x then f else vp_updL f (x / 64).toNatClampNeg ((f (x / 64).toNatClampNeg) ||| (jlshl 1 (x - x / 64 * 64)))
def jclr (f : Nat → Int64) : Nat → Int64 := vp_updL (vp_updL (vp_updL (vp_updL (vp_updL (vp_updL (vp_updL (vp_updL f 0 0) 1 0) 2 0) 3 0) 4 0) 5 0) 6 0) 7 0
theorem jf_Ma_has_eq (f : Nat → Int64) (x : Int32) : jf_Ma_has f x = some (jhas f x) := by
  unfold jf_Ma_has jhas
  by_cases h0 : x < 0
  · simp only [if_pos h0]
  · by_cases h1 : 512 ≤ x
    · simp only [if_neg h0, if_pos h1]
    · simp only [if_neg h0, if_neg h1, if_pos (jin_64 h0 h1)]
      split <;> rfl
theorem jf_Ma_add_eq (f : Nat → Int64) (x : Int32) : jf_Ma_add f x = some (jadd f x) := by
  unfold jf_Ma_add jadd
  by_cases h0 : x < 0
  · simp only [if_pos h0]
  · by_cases h1 : 512 ≤ x
    · simp only [if_neg h0, if_pos h1]
    · simp only [if_neg h0, if_neg h1, if_pos (jin_64 h0 h1)]
theorem jclr_step (n : Nat) (k : Nat) (hk : k < 8) (f : Nat → Int64) : jf_Ma_clear_L2 (n + 1) (nI k) f = jf_Ma_clear_L2 n (nI (k + 1)) (vp_updL f k 0) := by
  rw [jf_Ma_clear_L2]
  have h1 : ¬ (8 : Int32) ≤ nI k := nI_ge (b := 8) hk (by decide)
  have h2 : jin (nI k) 8 = true := decide_eq_true (nI_in hk (by decide))
  simp only [if_neg h1, if_pos h2]
  rw [nI_clamp (by omega), nI_1]
theorem jf_Ma_clear_eq (f : Nat → Int64) : jf_Ma_clear f = some (jclr f) := by
  unfold jf_Ma_clear jclr
  have e : jF = 8589934583 + 1 + 1 + 1 + 1 + 1 + 1 + 1 + 1 + 1 := rfl
  have h0 : (0 : Int32) = nI 0 := rfl
  rw [e, h0, jclr_step _ 0 (by decide), jclr_step _ 1 (by decide), jclr_step _ 2 (by decide), jclr_step _ 3 (by decide), jclr_step _ 4 (by decide), jclr_step _ 5 (by decide), jclr_step _ 6 (by decide), jclr_step _ 7 (by decide), jf_Ma_clear_L2]
  have h8 : (8 : Int32) ≤ nI (7 + 1) := by decide
  simp only [if_pos h8]
  rfl
theorem jc_Ma_has_t (l : Launch) (g : jG) (a_this a_this_bits : Nat) (v_bits : Nat → Int64) (x1 : Int32) (R : Int32) (hR : jhas v_bits x1 = R) : Met l yX3_has wsX3_has jr_Ma_has (jPr g [.ref a_this, .int x1] (jw_Ma g a_this a_this_bits v_bits)) (vp_Si (fun r => r = R)) 0 0 (fun _ => False) := jc_Ma_has l g a_this a_this_bits v_bits x1 R (by rw [jf_Ma_has_eq, hR])
theorem jc_Ma_add_t (l : Launch) (g : jG) (a_this a_this_bits : Nat) (v_bits : Nat → Int64) (x1 : Int32) (R : (Nat → Int64)) (hR : jadd v_bits x1 = R) (sz : Nat) : Met l yX3_add wsX3_add jr_Ma_add (jPw g [.ref a_this, .int x1] (jw_Ma g a_this a_this_bits v_bits) sz) (jQv g (jw_Ma g a_this a_this_bits R) (va_A (jw_Ma g a_this a_this_bits v_bits) sz)) 0 0 (va_A (jw_Ma g a_this a_this_bits v_bits) sz) := jc_Ma_add l g a_this a_this_bits v_bits x1 R (by rw [jf_Ma_add_eq, hR]) sz
theorem jc_Ma_clear_t (l : Launch) (g : jG) (a_this a_this_bits : Nat) (v_bits : Nat → Int64) (R : (Nat → Int64)) (hR : jclr v_bits = R) (sz : Nat) : Met l yX3_clear wsX3_clear jr_Ma_clear (jPw g [.ref a_this] (jw_Ma g a_this a_this_bits v_bits) sz) (jQv g (jw_Ma g a_this a_this_bits R) (va_A (jw_Ma g a_this a_this_bits v_bits) sz)) 0 0 (va_A (jw_Ma g a_this a_this_bits v_bits) sz) := jc_Ma_clear l g a_this a_this_bits v_bits R (by rw [jf_Ma_clear_eq, hR]) sz
