/-! the law of p35, walks laid by wip/gen/gen.py: jf_.. what a method answers, jc_.. its contract -/
def jf_Lw_low (x0 : Int32) (x1 : Int32) : Option Int32 :=
  if x1 = 0 then none else some ((jush x0 1) - (jush x0 1) / x1 * x1)
abbrev jr_Lw_low : Room := { frames := 0, cells := 0, slots := 0, locals := 0 }
set_option maxRecDepth 100000 in
set_option maxHeartbeats 4000000 in
theorem jc_Lw_low (l : Launch) (g : jG) (x0 : Int32) (x1 : Int32) (R : Int32) (hR : jf_Lw_low x0 x1 = some R) : Met l yL_low wsL_low jr_Lw_low (jPr g [.int x0, .int x1] ([])) (vp_Si (fun r => r = R)) 0 0 (fun _ => False) := by
  refine jm_ri (cc := cL_low) (maxL := 2) (by decide +kernel) rfl (Nat.le_of_ble_eq_true rfl) ?_
  intro p e s m below meth c Q hx hb hml hown hts hK hP fin ls hl
  have hl : lv_has ls 2 [(0, .int x0), (1, .int x1)] := hl
  have hown : s.vm.findClass RL = some m.cls := hown
  rw [jf_Lw_low] at hR
  refine lv_iload_n hx hb dL_low_0 rfl (lv_at hl 0 rfl) ?_
  refine lv_iconst (v := 1) hx hb dL_low_1 (by decide) ?_
  refine lv_iushr (v := jush x0 1) hx hb dL_low_2 rfl ?_
  refine lv_iload_n hx hb dL_low_3 rfl (lv_at hl 1 rfl) ?_
  by_cases c_1 : x1 = 0
  · replace hR := Eq.trans (Eq.symm (if_pos c_1)) hR
    cases hR
  replace hR := Eq.trans (Eq.symm (if_neg c_1)) hR
  refine lv_irem hx hb dL_low_4 c_1 ?_
  exact fin _ _ _ (Option.some.inj hR) dL_low_5
def jf_Lw_isFloor (x0 : Int32) (x1 : Int32) (x2 : Int64) : Int32 :=
  if x0 < 0 then 0 else (if x1 < 0 then 0 else (if 8 ≤ x0 then 0 else (if 8 ≤ x1 then 0 else (if lg_cmp ((jlshr x2 ((8 * x1) + x0)) &&& 1) 0 = 0 then 1 else 0))))
abbrev jr_Lw_isFloor : Room := { frames := 0, cells := 0, slots := 0, locals := 0 }
set_option maxRecDepth 100000 in
set_option maxHeartbeats 4000000 in
theorem jc_Lw_isFloor (l : Launch) (g : jG) (x0 : Int32) (x1 : Int32) (x2 : Int64) (R : Int32) (hR : jf_Lw_isFloor x0 x1 x2 = R) : Met l yL_isFloor wsL_isFloor jr_Lw_isFloor (jPr g [.int x0, .int x1, .long x2] ([])) (vp_Si (fun r => r = R)) 0 0 (fun _ => False) := by
  refine jm_rz (cc := cL_isFloor) (maxL := 4) (by decide +kernel) rfl (Nat.le_of_ble_eq_true rfl) ?_
  intro p e s m below meth c Q hx hb hml hown hts hK hP fin ls hl
  have hl : lv_has ls 4 [(0, .int x0), (1, .int x1), (2, .long x2)] := hl
  have hown : s.vm.findClass RL = some m.cls := hown
  rw [jf_Lw_isFloor] at hR
  refine lv_iload_n hx hb dL_isFloor_0 rfl (lv_at hl 0 rfl) ?_
  refine lv_if_lt (tgt := 39) hx hb dL_isFloor_1 (by decide) (fun c_1 => ?_) (fun c_1 => ?_)
  · replace hR := Eq.trans (Eq.symm (if_pos c_1)) hR
    refine lv_iconst (v := 0) hx hb dL_isFloor_39 (by decide) ?_
    exact fin _ _ _ (Eq.trans (by decide) hR) dL_isFloor_40
  · replace hR := Eq.trans (Eq.symm (if_neg c_1)) hR
    refine lv_iload_n hx hb dL_isFloor_4 rfl (lv_at hl 1 rfl) ?_
    refine lv_if_lt (tgt := 39) hx hb dL_isFloor_5 (by decide) (fun c_2 => ?_) (fun c_2 => ?_)
    · replace hR := Eq.trans (Eq.symm (if_pos c_2)) hR
      refine lv_iconst (v := 0) hx hb dL_isFloor_39 (by decide) ?_
      exact fin _ _ _ (Eq.trans (by decide) hR) dL_isFloor_40
    · replace hR := Eq.trans (Eq.symm (if_neg c_2)) hR
      refine lv_iload_n hx hb dL_isFloor_8 rfl (lv_at hl 0 rfl) ?_
      refine lv_bipush (v := 8) hx hb dL_isFloor_9 (by decide) ?_
      refine lv_icmp_ge (tgt := 39) hx hb dL_isFloor_11 (by decide) (fun c_3 => ?_) (fun c_3 => ?_)
      · replace hR := Eq.trans (Eq.symm (if_pos c_3)) hR
        refine lv_iconst (v := 0) hx hb dL_isFloor_39 (by decide) ?_
        exact fin _ _ _ (Eq.trans (by decide) hR) dL_isFloor_40
      · replace hR := Eq.trans (Eq.symm (if_neg c_3)) hR
        refine lv_iload_n hx hb dL_isFloor_14 rfl (lv_at hl 1 rfl) ?_
        refine lv_bipush (v := 8) hx hb dL_isFloor_15 (by decide) ?_
        refine lv_icmp_ge (tgt := 39) hx hb dL_isFloor_17 (by decide) (fun c_4 => ?_) (fun c_4 => ?_)
        · replace hR := Eq.trans (Eq.symm (if_pos c_4)) hR
          refine lv_iconst (v := 0) hx hb dL_isFloor_39 (by decide) ?_
          exact fin _ _ _ (Eq.trans (by decide) hR) dL_isFloor_40
        · replace hR := Eq.trans (Eq.symm (if_neg c_4)) hR
          refine lv_lload_n hx hb dL_isFloor_20 rfl (lv_at hl 2 rfl) ?_
          refine lv_bipush (v := 8) hx hb dL_isFloor_21 (by decide) ?_
          refine lv_iload_n hx hb dL_isFloor_23 rfl (lv_at hl 1 rfl) ?_
          refine lv_imul hx hb dL_isFloor_24 ?_
          refine lv_iload_n hx hb dL_isFloor_25 rfl (lv_at hl 0 rfl) ?_
          refine lv_iadd hx hb dL_isFloor_26 ?_
          refine lv_lshr (v := jlshr x2 ((8 * x1) + x0)) hx hb dL_isFloor_27 rfl ?_
          refine lv_lconst (v := 1) hx hb dL_isFloor_28 (by decide) ?_
          refine lv_land hx hb dL_isFloor_29 ?_
          refine lv_lconst (v := 0) hx hb dL_isFloor_30 (by decide) ?_
          refine W.lcmp hx hb dL_isFloor_31 ?_
          refine lv_if_ne (tgt := 39) hx hb dL_isFloor_32 (by decide) (fun c_5 => ?_) (fun c_5 => ?_)
          · replace hR := Eq.trans (Eq.symm (if_neg c_5)) hR
            refine lv_iconst (v := 0) hx hb dL_isFloor_39 (by decide) ?_
            exact fin _ _ _ (Eq.trans (by decide) hR) dL_isFloor_40
          · replace hR := Eq.trans (Eq.symm (if_pos c_5)) hR
            refine lv_iconst (v := 1) hx hb dL_isFloor_35 (by decide) ?_
            refine lv_goto (tgt := 40) hx hb dL_isFloor_36 (by decide) ?_
            exact fin _ _ _ (Eq.trans (by decide) hR) dL_isFloor_40
abbrev jw_ar6I (g : jG) (a_r1 : Nat) (v_r1 : Nat → Int32) : va_W := [(a_r1, .inl (g.2.1, 6, .inl v_r1))]
def jf_Lw_begins_b137 (v_r1 : Nat → Int32) (s1 : Int32) (s2 : Int32) : Option (Nat → Int32) :=
  if jin s1 6 = true then (if jin 4 6 = true then (if jin 5 6 = true then (some (upd (upd (upd v_r1 s1.toNatClampNeg s2) (4 : Int32).toNatClampNeg 0) (5 : Int32).toNatClampNeg 0)) else none) else none) else none
def jf_Lw_begins_b115 (v_r1 : Nat → Int32) (z2 : Int32) (z3 : Int32) (z4 : Int32) (s1 : Int32) (s2 : Int32) : Option (Nat → Int32) :=
  if jin s1 6 = true then (if z4 = 0 then (if z2 = 1 then (jf_Lw_begins_b137 (upd v_r1 s1.toNatClampNeg s2) 3 1) else (jf_Lw_begins_b137 (upd v_r1 s1.toNatClampNeg s2) 3 (-1))) else (jf_Lw_begins_b137 (upd v_r1 s1.toNatClampNeg s2) 3 z3)) else none
def jf_Lw_begins_b93 (v_r1 : Nat → Int32) (z2 : Int32) (z3 : Int32) (z4 : Int32) (s1 : Int32) (s2 : Int32) (s3 : Int32) : Option (Nat → Int32) :=
  if jin s1 6 = true then (if z4 = 0 then (jf_Lw_begins_b115 (upd v_r1 s1.toNatClampNeg (s2 + s3)) z2 z3 z4 2 z3) else (if z2 = 0 then (jf_Lw_begins_b115 (upd v_r1 s1.toNatClampNeg (s2 + s3)) z2 z3 z4 2 1) else (jf_Lw_begins_b115 (upd v_r1 s1.toNatClampNeg (s2 + s3)) z2 z3 z4 2 (-1)))) else none
def jf_Lw_begins_b62 (v_r1 : Nat → Int32) (z0 : Int32) (z2 : Int32) (z3 : Int32) (z4 : Int32) (s1 : Int32) (s2 : Int32) (s3 : Int32) : Option (Nat → Int32) :=
  if jin s1 6 = true then (if z2 = 1 then (jf_Lw_begins_b93 (upd v_r1 s1.toNatClampNeg (s2 + s3)) z2 z3 z4 1 ((2 : Int32) * ((z0 >>> (3 &&& 31)) &&& 7)) 0) else (if z2 = 3 then (jf_Lw_begins_b93 (upd v_r1 s1.toNatClampNeg (s2 + s3)) z2 z3 z4 1 ((2 : Int32) * ((z0 >>> (3 &&& 31)) &&& 7)) 2) else (jf_Lw_begins_b93 (upd v_r1 s1.toNatClampNeg (s2 + s3)) z2 z3 z4 1 ((2 : Int32) * ((z0 >>> (3 &&& 31)) &&& 7)) 1))) else none
def jf_Lw_begins_b34 (v_r1 : Nat → Int32) (z0 : Int32) (z2 : Int32) (z3 : Int32) (s0 : Int32) : Option (Nat → Int32) :=
  if z2 = 0 then (jf_Lw_begins_b62 v_r1 z0 z2 z3 s0 0 ((2 : Int32) * (z0 &&& 7)) 0) else (if z2 = 2 then (jf_Lw_begins_b62 v_r1 z0 z2 z3 s0 0 ((2 : Int32) * (z0 &&& 7)) 2) else (jf_Lw_begins_b62 v_r1 z0 z2 z3 s0 0 ((2 : Int32) * (z0 &&& 7)) 1))
def jf_Lw_begins_b29 (v_r1 : Nat → Int32) (z0 : Int32) (z2 : Int32) (z3 : Int32) : Option (Nat → Int32) :=
  jf_Lw_begins_b34 v_r1 z0 z2 z3 1
def jf_Lw_begins_b19 (v_r1 : Nat → Int32) (z0 : Int32) (z2 : Int32) (s0 : Int32) : Option (Nat → Int32) :=
  if z2 = 0 then (jf_Lw_begins_b29 v_r1 z0 z2 s0) else (if z2 = 2 then (jf_Lw_begins_b29 v_r1 z0 z2 s0) else (jf_Lw_begins_b34 v_r1 z0 z2 s0 0))
def jf_Lw_begins (v_r1 : Nat → Int32) (x0 : Int32) : Option (Nat → Int32) :=
  jlet ((x0 >>> (6 &&& 31)) &&& 3) (fun y2_1 => if x0 ≤ 255 then (jf_Lw_begins_b19 v_r1 x0 y2_1 (-1)) else (jf_Lw_begins_b19 v_r1 x0 y2_1 1))
abbrev jr_Lw_begins : Room := { frames := 0, cells := 0, slots := 0, locals := 0 }
set_option maxRecDepth 100000 in
set_option maxHeartbeats 4000000 in
theorem jc_Lw_begins (l : Launch) (g : jG) (a_r1 : Nat) (v_r1 : Nat → Int32) (x0 : Int32) (R : (Nat → Int32)) (hR : jf_Lw_begins v_r1 x0 = some R) (sz : Nat) : Met l yL_begins wsL_begins jr_Lw_begins (jPw g [.int x0, .ref a_r1] (jw_ar6I g a_r1 v_r1) sz) (jQv g (jw_ar6I g a_r1 R) (va_A (jw_ar6I g a_r1 v_r1) sz)) 0 0 (va_A (jw_ar6I g a_r1 v_r1) sz) := by
  refine jm_wv (cc := cL_begins) (maxL := 5) (by decide +kernel) rfl (Nat.le_of_ble_eq_true rfl) ?_
  intro p e s m below meth c A Q hx hb hml hown hts hK hP hD hA hS fin ls hl
  have hl : lv_has ls 5 [(0, .int x0), (1, .ref a_r1)] := hl
  have hown : s.vm.findClass RL = some m.cls := hown
  have J137 : ∀ (v_r1 : Nat → Int32) (s1 : Int32) (s2 : Int32) (H : Heap) (locs : List Loc), va_P g.1 vwCl (jw_ar6I g a_r1 v_r1) H → va_S A s.heap H locs → ∀ (ls : Array Slot), lv_has ls 5 [(1, .ref a_r1)] → jf_Lw_begins_b137 v_r1 s1 s2 = some R → W p l e jr_Lw_begins s m ([.int x0, .ref a_r1] : List Value).toArray below meth c H locs 0 0 Q (F0 m 137 ls [.int s2, .int s1, .ref a_r1]) := by
    intro v_r1 s1 s2 H locs hP hS ls hl hR
    rw [jf_Lw_begins_b137] at hR
    by_cases c_13 : jin s1 6 = true
    case neg => replace hR := Eq.trans (Eq.symm (if_neg c_13)) hR; cases hR
    replace hR := Eq.trans (Eq.symm (if_pos c_13)) hR
    refine va_iast hx hb hK.1 hP (jD_to hD rfl) hS 0 0 rfl rfl (jin_in c_13) dL_begins_137 (fun H locs hP _ hS => ?_)
    have hP : va_P g.1 vwCl (jw_ar6I g a_r1 (upd v_r1 s1.toNatClampNeg s2)) H := hP
    refine lv_aload_n hx hb dL_begins_138 rfl (lv_at hl 0 rfl) ?_
    refine lv_iconst (v := 4) hx hb dL_begins_139 (by decide) ?_
    refine lv_iconst (v := 0) hx hb dL_begins_140 (by decide) ?_
    by_cases c_14 : jin 4 6 = true
    case neg => replace hR := Eq.trans (Eq.symm (if_neg c_14)) hR; cases hR
    replace hR := Eq.trans (Eq.symm (if_pos c_14)) hR
    refine va_iast hx hb hK.1 hP (jD_to hD rfl) hS 0 0 rfl rfl (jin_in c_14) dL_begins_141 (fun H locs hP _ hS => ?_)
    have hP : va_P g.1 vwCl (jw_ar6I g a_r1 (upd (upd v_r1 s1.toNatClampNeg s2) (4 : Int32).toNatClampNeg 0)) H := hP
    refine lv_aload_n hx hb dL_begins_142 rfl (lv_at hl 0 rfl) ?_
    refine lv_iconst (v := 5) hx hb dL_begins_143 (by decide) ?_
    refine lv_iconst (v := 0) hx hb dL_begins_144 (by decide) ?_
    by_cases c_15 : jin 5 6 = true
    case neg => replace hR := Eq.trans (Eq.symm (if_neg c_15)) hR; cases hR
    replace hR := Eq.trans (Eq.symm (if_pos c_15)) hR
    refine va_iast hx hb hK.1 hP (jD_to hD rfl) hS 0 0 rfl rfl (jin_in c_15) dL_begins_145 (fun H locs hP _ hS => ?_)
    have hP : va_P g.1 vwCl (jw_ar6I g a_r1 (upd (upd (upd v_r1 s1.toNatClampNeg s2) (4 : Int32).toNatClampNeg 0) (5 : Int32).toNatClampNeg 0)) H := hP
    obtain rfl := (Option.some.inj hR)
    exact fin _ _ _ _ hP hS dL_begins_146
  have J115 : ∀ (v_r1 : Nat → Int32) (z2 : Int32) (z3 : Int32) (z4 : Int32) (s1 : Int32) (s2 : Int32) (H : Heap) (locs : List Loc), va_P g.1 vwCl (jw_ar6I g a_r1 v_r1) H → va_S A s.heap H locs → ∀ (ls : Array Slot), lv_has ls 5 [(1, .ref a_r1), (2, .int z2), (3, .int z3), (4, .int z4)] → jf_Lw_begins_b115 v_r1 z2 z3 z4 s1 s2 = some R → W p l e jr_Lw_begins s m ([.int x0, .ref a_r1] : List Value).toArray below meth c H locs 0 0 Q (F0 m 115 ls [.int s2, .int s1, .ref a_r1]) := by
    intro v_r1 z2 z3 z4 s1 s2 H locs hP hS ls hl hR
    rw [jf_Lw_begins_b115] at hR
    by_cases c_10 : jin s1 6 = true
    case neg => replace hR := Eq.trans (Eq.symm (if_neg c_10)) hR; cases hR
    replace hR := Eq.trans (Eq.symm (if_pos c_10)) hR
    refine va_iast hx hb hK.1 hP (jD_to hD rfl) hS 0 0 rfl rfl (jin_in c_10) dL_begins_115 (fun H locs hP _ hS => ?_)
    have hP : va_P g.1 vwCl (jw_ar6I g a_r1 (upd v_r1 s1.toNatClampNeg s2)) H := hP
    refine lv_aload_n hx hb dL_begins_116 rfl (lv_at hl 0 rfl) ?_
    refine lv_iconst (v := 3) hx hb dL_begins_117 (by decide) ?_
    refine lv_iload hx hb dL_begins_118 (lv_at hl 3 rfl) ?_
    refine lv_if_eq (tgt := 127) hx hb dL_begins_120 (by decide) (fun c_11 => ?_) (fun c_11 => ?_)
    · replace hR := Eq.trans (Eq.symm (if_pos c_11)) hR
      refine lv_iload_n hx hb dL_begins_127 rfl (lv_at hl 1 rfl) ?_
      refine lv_iconst (v := 1) hx hb dL_begins_128 (by decide) ?_
      refine lv_icmp_ne (tgt := 136) hx hb dL_begins_129 (by decide) (fun c_12 => ?_) (fun c_12 => ?_)
      · replace hR := Eq.trans (Eq.symm (if_neg c_12)) hR
        refine lv_iconst (v := (-1)) hx hb dL_begins_136 (by decide) ?_
        exact J137 (upd v_r1 s1.toNatClampNeg s2) 3 (-1) _ _ hP hS _ (lv_sub hl [0] rfl) hR
      · replace hR := Eq.trans (Eq.symm (if_pos c_12)) hR
        refine lv_iconst (v := 1) hx hb dL_begins_132 (by decide) ?_
        refine lv_goto (tgt := 137) hx hb dL_begins_133 (by decide) ?_
        exact J137 (upd v_r1 s1.toNatClampNeg s2) 3 1 _ _ hP hS _ (lv_sub hl [0] rfl) hR
    · replace hR := Eq.trans (Eq.symm (if_neg c_11)) hR
      refine lv_iload_n hx hb dL_begins_123 rfl (lv_at hl 2 rfl) ?_
      refine lv_goto (tgt := 137) hx hb dL_begins_124 (by decide) ?_
      exact J137 (upd v_r1 s1.toNatClampNeg s2) 3 z3 _ _ hP hS _ (lv_sub hl [0] rfl) hR
  have J93 : ∀ (v_r1 : Nat → Int32) (z2 : Int32) (z3 : Int32) (z4 : Int32) (s1 : Int32) (s2 : Int32) (s3 : Int32) (H : Heap) (locs : List Loc), va_P g.1 vwCl (jw_ar6I g a_r1 v_r1) H → va_S A s.heap H locs → ∀ (ls : Array Slot), lv_has ls 5 [(1, .ref a_r1), (2, .int z2), (3, .int z3), (4, .int z4)] → jf_Lw_begins_b93 v_r1 z2 z3 z4 s1 s2 s3 = some R → W p l e jr_Lw_begins s m ([.int x0, .ref a_r1] : List Value).toArray below meth c H locs 0 0 Q (F0 m 93 ls [.int s3, .int s2, .int s1, .ref a_r1]) := by
    intro v_r1 z2 z3 z4 s1 s2 s3 H locs hP hS ls hl hR
    rw [jf_Lw_begins_b93] at hR
    refine lv_iadd hx hb dL_begins_93 ?_
    by_cases c_8 : jin s1 6 = true
    case neg => replace hR := Eq.trans (Eq.symm (if_neg c_8)) hR; cases hR
    replace hR := Eq.trans (Eq.symm (if_pos c_8)) hR
    refine va_iast hx hb hK.1 hP (jD_to hD rfl) hS 0 0 rfl rfl (jin_in c_8) dL_begins_94 (fun H locs hP _ hS => ?_)
    have hP : va_P g.1 vwCl (jw_ar6I g a_r1 (upd v_r1 s1.toNatClampNeg (s2 + s3))) H := hP
    refine lv_aload_n hx hb dL_begins_95 rfl (lv_at hl 0 rfl) ?_
    refine lv_iconst (v := 2) hx hb dL_begins_96 (by decide) ?_
    refine lv_iload hx hb dL_begins_97 (lv_at hl 3 rfl) ?_
    refine lv_if_eq (tgt := 114) hx hb dL_begins_99 (by decide) (fun c_9 => ?_) (fun c_9 => ?_)
    · replace hR := Eq.trans (Eq.symm (if_pos c_9)) hR
      refine lv_iload_n hx hb dL_begins_114 rfl (lv_at hl 2 rfl) ?_
      exact J115 (upd v_r1 s1.toNatClampNeg (s2 + s3)) z2 z3 z4 2 z3 _ _ hP hS _ (lv_sub hl [0, 1, 2, 3] rfl) hR
    · replace hR := Eq.trans (Eq.symm (if_neg c_9)) hR
      refine lv_iload_n hx hb dL_begins_102 rfl (lv_at hl 1 rfl) ?_
      refine lv_if_ne (tgt := 110) hx hb dL_begins_103 (by decide) (fun c_16 => ?_) (fun c_16 => ?_)
      · replace hR := Eq.trans (Eq.symm (if_neg c_16)) hR
        refine lv_iconst (v := (-1)) hx hb dL_begins_110 (by decide) ?_
        refine lv_goto (tgt := 115) hx hb dL_begins_111 (by decide) ?_
        exact J115 (upd v_r1 s1.toNatClampNeg (s2 + s3)) z2 z3 z4 2 (-1) _ _ hP hS _ (lv_sub hl [0, 1, 2, 3] rfl) hR
      · replace hR := Eq.trans (Eq.symm (if_pos c_16)) hR
        refine lv_iconst (v := 1) hx hb dL_begins_106 (by decide) ?_
        refine lv_goto (tgt := 115) hx hb dL_begins_107 (by decide) ?_
        exact J115 (upd v_r1 s1.toNatClampNeg (s2 + s3)) z2 z3 z4 2 1 _ _ hP hS _ (lv_sub hl [0, 1, 2, 3] rfl) hR
  have J62 : ∀ (v_r1 : Nat → Int32) (z0 : Int32) (z2 : Int32) (z3 : Int32) (z4 : Int32) (s1 : Int32) (s2 : Int32) (s3 : Int32) (H : Heap) (locs : List Loc), va_P g.1 vwCl (jw_ar6I g a_r1 v_r1) H → va_S A s.heap H locs → ∀ (ls : Array Slot), lv_has ls 5 [(0, .int z0), (1, .ref a_r1), (2, .int z2), (3, .int z3), (4, .int z4)] → jf_Lw_begins_b62 v_r1 z0 z2 z3 z4 s1 s2 s3 = some R → W p l e jr_Lw_begins s m ([.int x0, .ref a_r1] : List Value).toArray below meth c H locs 0 0 Q (F0 m 62 ls [.int s3, .int s2, .int s1, .ref a_r1]) := by
    intro v_r1 z0 z2 z3 z4 s1 s2 s3 H locs hP hS ls hl hR
    rw [jf_Lw_begins_b62] at hR
    refine lv_iadd hx hb dL_begins_62 ?_
    by_cases c_5 : jin s1 6 = true
    case neg => replace hR := Eq.trans (Eq.symm (if_neg c_5)) hR; cases hR
    replace hR := Eq.trans (Eq.symm (if_pos c_5)) hR
    refine va_iast hx hb hK.1 hP (jD_to hD rfl) hS 0 0 rfl rfl (jin_in c_5) dL_begins_63 (fun H locs hP _ hS => ?_)
    have hP : va_P g.1 vwCl (jw_ar6I g a_r1 (upd v_r1 s1.toNatClampNeg (s2 + s3))) H := hP
    refine lv_aload_n hx hb dL_begins_64 rfl (lv_at hl 1 rfl) ?_
    refine lv_iconst (v := 1) hx hb dL_begins_65 (by decide) ?_
    refine lv_iconst (v := 2) hx hb dL_begins_66 (by decide) ?_
    refine lv_iload_n hx hb dL_begins_67 rfl (lv_at hl 0 rfl) ?_
    refine lv_iconst (v := 3) hx hb dL_begins_68 (by decide) ?_
    refine lv_ishr hx hb dL_begins_69 ?_
    refine lv_bipush (v := 7) hx hb dL_begins_70 (by decide) ?_
    refine lv_iand hx hb dL_begins_72 ?_
    refine lv_imul hx hb dL_begins_73 ?_
    refine lv_iload_n hx hb dL_begins_74 rfl (lv_at hl 2 rfl) ?_
    refine lv_iconst (v := 1) hx hb dL_begins_75 (by decide) ?_
    refine lv_icmp_ne (tgt := 83) hx hb dL_begins_76 (by decide) (fun c_6 => ?_) (fun c_6 => ?_)
    · replace hR := Eq.trans (Eq.symm (if_neg c_6)) hR
      refine lv_iload_n hx hb dL_begins_83 rfl (lv_at hl 2 rfl) ?_
      refine lv_iconst (v := 3) hx hb dL_begins_84 (by decide) ?_
      refine lv_icmp_ne (tgt := 92) hx hb dL_begins_85 (by decide) (fun c_7 => ?_) (fun c_7 => ?_)
      · replace hR := Eq.trans (Eq.symm (if_neg c_7)) hR
        refine lv_iconst (v := 1) hx hb dL_begins_92 (by decide) ?_
        exact J93 (upd v_r1 s1.toNatClampNeg (s2 + s3)) z2 z3 z4 1 ((2 : Int32) * ((z0 >>> (3 &&& 31)) &&& 7)) 1 _ _ hP hS _ (lv_sub hl [1, 2, 3, 4] rfl) hR
      · replace hR := Eq.trans (Eq.symm (if_pos c_7)) hR
        refine lv_iconst (v := 2) hx hb dL_begins_88 (by decide) ?_
        refine lv_goto (tgt := 93) hx hb dL_begins_89 (by decide) ?_
        exact J93 (upd v_r1 s1.toNatClampNeg (s2 + s3)) z2 z3 z4 1 ((2 : Int32) * ((z0 >>> (3 &&& 31)) &&& 7)) 2 _ _ hP hS _ (lv_sub hl [1, 2, 3, 4] rfl) hR
    · replace hR := Eq.trans (Eq.symm (if_pos c_6)) hR
      refine lv_iconst (v := 0) hx hb dL_begins_79 (by decide) ?_
      refine lv_goto (tgt := 93) hx hb dL_begins_80 (by decide) ?_
      exact J93 (upd v_r1 s1.toNatClampNeg (s2 + s3)) z2 z3 z4 1 ((2 : Int32) * ((z0 >>> (3 &&& 31)) &&& 7)) 0 _ _ hP hS _ (lv_sub hl [1, 2, 3, 4] rfl) hR
  have J34 : ∀ (v_r1 : Nat → Int32) (z0 : Int32) (z2 : Int32) (z3 : Int32) (s0 : Int32) (H : Heap) (locs : List Loc), va_P g.1 vwCl (jw_ar6I g a_r1 v_r1) H → va_S A s.heap H locs → ∀ (ls : Array Slot), lv_has ls 5 [(0, .int z0), (1, .ref a_r1), (2, .int z2), (3, .int z3)] → jf_Lw_begins_b34 v_r1 z0 z2 z3 s0 = some R → W p l e jr_Lw_begins s m ([.int x0, .ref a_r1] : List Value).toArray below meth c H locs 0 0 Q (F0 m 34 ls [.int s0]) := by
    intro v_r1 z0 z2 z3 s0 H locs hP hS ls hl hR
    rw [jf_Lw_begins_b34] at hR
    refine lv_istore (lv' := [(4, .int s0), (0, .int z0), (1, .ref a_r1), (2, .int z2), (3, .int z3)]) hx hb dL_begins_34 hl (by decide) rfl (fun ls hl => ?_)
    refine lv_aload_n hx hb dL_begins_36 rfl (lv_at hl 2 rfl) ?_
    refine lv_iconst (v := 0) hx hb dL_begins_37 (by decide) ?_
    refine lv_iconst (v := 2) hx hb dL_begins_38 (by decide) ?_
    refine lv_iload_n hx hb dL_begins_39 rfl (lv_at hl 1 rfl) ?_
    refine lv_bipush (v := 7) hx hb dL_begins_40 (by decide) ?_
    refine lv_iand hx hb dL_begins_42 ?_
    refine lv_imul hx hb dL_begins_43 ?_
    refine lv_iload_n hx hb dL_begins_44 rfl (lv_at hl 3 rfl) ?_
    refine lv_if_ne (tgt := 52) hx hb dL_begins_45 (by decide) (fun c_3 => ?_) (fun c_3 => ?_)
    · replace hR := Eq.trans (Eq.symm (if_neg c_3)) hR
      refine lv_iload_n hx hb dL_begins_52 rfl (lv_at hl 3 rfl) ?_
      refine lv_iconst (v := 2) hx hb dL_begins_53 (by decide) ?_
      refine lv_icmp_ne (tgt := 61) hx hb dL_begins_54 (by decide) (fun c_4 => ?_) (fun c_4 => ?_)
      · replace hR := Eq.trans (Eq.symm (if_neg c_4)) hR
        refine lv_iconst (v := 1) hx hb dL_begins_61 (by decide) ?_
        exact J62 v_r1 z0 z2 z3 s0 0 ((2 : Int32) * (z0 &&& 7)) 1 _ _ hP hS _ (lv_sub hl [1, 2, 3, 4, 0] rfl) hR
      · replace hR := Eq.trans (Eq.symm (if_pos c_4)) hR
        refine lv_iconst (v := 2) hx hb dL_begins_57 (by decide) ?_
        refine lv_goto (tgt := 62) hx hb dL_begins_58 (by decide) ?_
        exact J62 v_r1 z0 z2 z3 s0 0 ((2 : Int32) * (z0 &&& 7)) 2 _ _ hP hS _ (lv_sub hl [1, 2, 3, 4, 0] rfl) hR
    · replace hR := Eq.trans (Eq.symm (if_pos c_3)) hR
      refine lv_iconst (v := 0) hx hb dL_begins_48 (by decide) ?_
      refine lv_goto (tgt := 62) hx hb dL_begins_49 (by decide) ?_
      exact J62 v_r1 z0 z2 z3 s0 0 ((2 : Int32) * (z0 &&& 7)) 0 _ _ hP hS _ (lv_sub hl [1, 2, 3, 4, 0] rfl) hR
  have J29 : ∀ (v_r1 : Nat → Int32) (z0 : Int32) (z2 : Int32) (z3 : Int32) (H : Heap) (locs : List Loc), va_P g.1 vwCl (jw_ar6I g a_r1 v_r1) H → va_S A s.heap H locs → ∀ (ls : Array Slot), lv_has ls 5 [(0, .int z0), (1, .ref a_r1), (2, .int z2), (3, .int z3)] → jf_Lw_begins_b29 v_r1 z0 z2 z3 = some R → W p l e jr_Lw_begins s m ([.int x0, .ref a_r1] : List Value).toArray below meth c H locs 0 0 Q (F0 m 29 ls []) := by
    intro v_r1 z0 z2 z3 H locs hP hS ls hl hR
    rw [jf_Lw_begins_b29] at hR
    refine lv_iconst (v := 1) hx hb dL_begins_29 (by decide) ?_
    refine lv_goto (tgt := 34) hx hb dL_begins_30 (by decide) ?_
    exact J34 v_r1 z0 z2 z3 1 _ _ hP hS _ (lv_sub hl [0, 1, 2, 3] rfl) hR
  have J19 : ∀ (v_r1 : Nat → Int32) (z0 : Int32) (z2 : Int32) (s0 : Int32) (H : Heap) (locs : List Loc), va_P g.1 vwCl (jw_ar6I g a_r1 v_r1) H → va_S A s.heap H locs → ∀ (ls : Array Slot), lv_has ls 5 [(0, .int z0), (1, .ref a_r1), (2, .int z2)] → jf_Lw_begins_b19 v_r1 z0 z2 s0 = some R → W p l e jr_Lw_begins s m ([.int x0, .ref a_r1] : List Value).toArray below meth c H locs 0 0 Q (F0 m 19 ls [.int s0]) := by
    intro v_r1 z0 z2 s0 H locs hP hS ls hl hR
    rw [jf_Lw_begins_b19] at hR
    refine lv_istore_n (lv' := [(3, .int s0), (0, .int z0), (1, .ref a_r1), (2, .int z2)]) hx hb dL_begins_19 rfl hl (by decide) rfl (fun ls hl => ?_)
    refine lv_iload_n hx hb dL_begins_20 rfl (lv_at hl 3 rfl) ?_
    refine lv_if_eq (tgt := 29) hx hb dL_begins_21 (by decide) (fun c_2 => ?_) (fun c_2 => ?_)
    · replace hR := Eq.trans (Eq.symm (if_pos c_2)) hR
      exact J29 v_r1 z0 z2 s0 _ _ hP hS _ (lv_sub hl [1, 2, 3, 0] rfl) hR
    · replace hR := Eq.trans (Eq.symm (if_neg c_2)) hR
      refine lv_iload_n hx hb dL_begins_24 rfl (lv_at hl 3 rfl) ?_
      refine lv_iconst (v := 2) hx hb dL_begins_25 (by decide) ?_
      refine lv_icmp_ne (tgt := 33) hx hb dL_begins_26 (by decide) (fun c_17 => ?_) (fun c_17 => ?_)
      · replace hR := Eq.trans (Eq.symm (if_neg c_17)) hR
        refine lv_iconst (v := 0) hx hb dL_begins_33 (by decide) ?_
        exact J34 v_r1 z0 z2 s0 0 _ _ hP hS _ (lv_sub hl [1, 2, 3, 0] rfl) hR
      · replace hR := Eq.trans (Eq.symm (if_pos c_17)) hR
        exact J29 v_r1 z0 z2 s0 _ _ hP hS _ (lv_sub hl [1, 2, 3, 0] rfl) hR
  rw [jf_Lw_begins] at hR
  refine lv_iload_n hx hb dL_begins_0 rfl (lv_at hl 0 rfl) ?_
  refine lv_bipush (v := 6) hx hb dL_begins_1 (by decide) ?_
  refine lv_ishr hx hb dL_begins_3 ?_
  refine lv_iconst (v := 3) hx hb dL_begins_4 (by decide) ?_
  refine lv_iand hx hb dL_begins_5 ?_
  refine jlet_i hR (fun y2_1 hR => ?_)
  try dsimp only at hR
  refine lv_istore_n (lv' := [(2, .int y2_1), (0, .int x0), (1, .ref a_r1)]) hx hb dL_begins_6 rfl hl (by decide) rfl (fun ls hl => ?_)
  refine lv_iload_n hx hb dL_begins_7 rfl (lv_at hl 1 rfl) ?_
  refine lv_sipush (v := 255) hx hb dL_begins_8 (by decide) ?_
  refine lv_icmp_le (tgt := 18) hx hb dL_begins_11 (by decide) (fun c_1 => ?_) (fun c_1 => ?_)
  · replace hR := Eq.trans (Eq.symm (if_pos c_1)) hR
    refine lv_iconst (v := (-1)) hx hb dL_begins_18 (by decide) ?_
    exact J19 v_r1 x0 y2_1 (-1) _ _ hP hS _ (lv_sub hl [1, 2, 0] rfl) hR
  · replace hR := Eq.trans (Eq.symm (if_neg c_1)) hR
    refine lv_iconst (v := 1) hx hb dL_begins_14 (by decide) ?_
    refine lv_goto (tgt := 19) hx hb dL_begins_15 (by decide) ?_
    exact J19 v_r1 x0 y2_1 1 _ _ hP hS _ (lv_sub hl [1, 2, 0] rfl) hR
def jf_Lw_goes_b113 (v_r0 : Nat → Int32) : Option (Int32 × (Nat → Int32)) :=
  if jin 4 6 = true then (if jin 4 6 = true then (some (1, upd v_r0 (4 : Int32).toNatClampNeg ((v_r0 (4 : Int32).toNatClampNeg) + 1))) else none) else none
def jf_Lw_goes_b74 (v_r0 : Nat → Int32) (z1 : Int64) (s0 : Int32) (s1 : Int32) (s2 : Int32) : Option (Int32 × (Nat → Int32)) :=
  jlet (jf_Lw_isFloor s0 ((s1 + s2) >>> (1 &&& 31)) z1) (fun y3_1 => if y3_1 = 0 then (if jin 0 6 = true then (if (v_r0 (0 : Int32).toNatClampNeg) - (v_r0 (0 : Int32).toNatClampNeg) / 2 * 2 = 0 then (if jin 2 6 = true then (if jin 2 6 = true then (jf_Lw_goes_b113 (upd v_r0 (2 : Int32).toNatClampNeg (-(v_r0 (2 : Int32).toNatClampNeg)))) else none) else none) else (if jin 3 6 = true then (if jin 3 6 = true then (jf_Lw_goes_b113 (upd v_r0 (3 : Int32).toNatClampNeg (-(v_r0 (3 : Int32).toNatClampNeg)))) else none) else none)) else none) else (some (0, v_r0)))
def jf_Lw_goes_b73 (v_r0 : Nat → Int32) (z1 : Int64) (s0 : Int32) (s1 : Int32) : Option (Int32 × (Nat → Int32)) :=
  jf_Lw_goes_b74 v_r0 z1 s0 s1 0
def jf_Lw_goes_b48 (v_r0 : Nat → Int32) (z1 : Int64) (s0 : Int32) (s1 : Int32) : Option (Int32 × (Nat → Int32)) :=
  if jin 1 6 = true then (if jin 1 6 = true then (if (v_r0 (1 : Int32).toNatClampNeg) - (v_r0 (1 : Int32).toNatClampNeg) / 2 * 2 = 0 then (if jin 3 6 = true then (if 0 ≤ v_r0 (3 : Int32).toNatClampNeg then (jf_Lw_goes_b73 v_r0 z1 ((s0 + s1) >>> (1 &&& 31)) (v_r0 (1 : Int32).toNatClampNeg)) else (jf_Lw_goes_b74 v_r0 z1 ((s0 + s1) >>> (1 &&& 31)) (v_r0 (1 : Int32).toNatClampNeg) (-2))) else none) else (jf_Lw_goes_b73 v_r0 z1 ((s0 + s1) >>> (1 &&& 31)) (v_r0 (1 : Int32).toNatClampNeg))) else none) else none
def jf_Lw_goes_b47 (v_r0 : Nat → Int32) (z1 : Int64) (s0 : Int32) : Option (Int32 × (Nat → Int32)) :=
  jf_Lw_goes_b48 v_r0 z1 s0 0
def jf_Lw_goes (v_r0 : Nat → Int32) (x1 : Int64) : Option (Int32 × (Nat → Int32)) :=
  if jin 0 6 = true then (if jin 2 6 = true then (if jin 0 6 = true then (if jin 1 6 = true then (if jin 3 6 = true then (if jin 1 6 = true then (if jin 5 6 = true then (if jin 5 6 = true then (if jin 0 6 = true then (if jin 0 6 = true then (if ((upd (upd (upd v_r0 (0 : Int32).toNatClampNeg ((v_r0 (0 : Int32).toNatClampNeg) + (v_r0 (2 : Int32).toNatClampNeg))) (1 : Int32).toNatClampNeg (((upd v_r0 (0 : Int32).toNatClampNeg ((v_r0 (0 : Int32).toNatClampNeg) + (v_r0 (2 : Int32).toNatClampNeg))) (1 : Int32).toNatClampNeg) + ((upd v_r0 (0 : Int32).toNatClampNeg ((v_r0 (0 : Int32).toNatClampNeg) + (v_r0 (2 : Int32).toNatClampNeg))) (3 : Int32).toNatClampNeg))) (5 : Int32).toNatClampNeg (((upd (upd v_r0 (0 : Int32).toNatClampNeg ((v_r0 (0 : Int32).toNatClampNeg) + (v_r0 (2 : Int32).toNatClampNeg))) (1 : Int32).toNatClampNeg (((upd v_r0 (0 : Int32).toNatClampNeg ((v_r0 (0 : Int32).toNatClampNeg) + (v_r0 (2 : Int32).toNatClampNeg))) (1 : Int32).toNatClampNeg) + ((upd v_r0 (0 : Int32).toNatClampNeg ((v_r0 (0 : Int32).toNatClampNeg) + (v_r0 (2 : Int32).toNatClampNeg))) (3 : Int32).toNatClampNeg))) (5 : Int32).toNatClampNeg) + 1)) (0 : Int32).toNatClampNeg) - ((upd (upd (upd v_r0 (0 : Int32).toNatClampNeg ((v_r0 (0 : Int32).toNatClampNeg) + (v_r0 (2 : Int32).toNatClampNeg))) (1 : Int32).toNatClampNeg (((upd v_r0 (0 : Int32).toNatClampNeg ((v_r0 (0 : Int32).toNatClampNeg) + (v_r0 (2 : Int32).toNatClampNeg))) (1 : Int32).toNatClampNeg) + ((upd v_r0 (0 : Int32).toNatClampNeg ((v_r0 (0 : Int32).toNatClampNeg) + (v_r0 (2 : Int32).toNatClampNeg))) (3 : Int32).toNatClampNeg))) (5 : Int32).toNatClampNeg (((upd (upd v_r0 (0 : Int32).toNatClampNeg ((v_r0 (0 : Int32).toNatClampNeg) + (v_r0 (2 : Int32).toNatClampNeg))) (1 : Int32).toNatClampNeg (((upd v_r0 (0 : Int32).toNatClampNeg ((v_r0 (0 : Int32).toNatClampNeg) + (v_r0 (2 : Int32).toNatClampNeg))) (1 : Int32).toNatClampNeg) + ((upd v_r0 (0 : Int32).toNatClampNeg ((v_r0 (0 : Int32).toNatClampNeg) + (v_r0 (2 : Int32).toNatClampNeg))) (3 : Int32).toNatClampNeg))) (5 : Int32).toNatClampNeg) + 1)) (0 : Int32).toNatClampNeg) / 2 * 2 = 0 then (if jin 2 6 = true then (if 0 ≤ (upd (upd (upd v_r0 (0 : Int32).toNatClampNeg ((v_r0 (0 : Int32).toNatClampNeg) + (v_r0 (2 : Int32).toNatClampNeg))) (1 : Int32).toNatClampNeg (((upd v_r0 (0 : Int32).toNatClampNeg ((v_r0 (0 : Int32).toNatClampNeg) + (v_r0 (2 : Int32).toNatClampNeg))) (1 : Int32).toNatClampNeg) + ((upd v_r0 (0 : Int32).toNatClampNeg ((v_r0 (0 : Int32).toNatClampNeg) + (v_r0 (2 : Int32).toNatClampNeg))) (3 : Int32).toNatClampNeg))) (5 : Int32).toNatClampNeg (((upd (upd v_r0 (0 : Int32).toNatClampNeg ((v_r0 (0 : Int32).toNatClampNeg) + (v_r0 (2 : Int32).toNatClampNeg))) (1 : Int32).toNatClampNeg (((upd v_r0 (0 : Int32).toNatClampNeg ((v_r0 (0 : Int32).toNatClampNeg) + (v_r0 (2 : Int32).toNatClampNeg))) (1 : Int32).toNatClampNeg) + ((upd v_r0 (0 : Int32).toNatClampNeg ((v_r0 (0 : Int32).toNatClampNeg) + (v_r0 (2 : Int32).toNatClampNeg))) (3 : Int32).toNatClampNeg))) (5 : Int32).toNatClampNeg) + 1)) (2 : Int32).toNatClampNeg then (jf_Lw_goes_b47 (upd (upd (upd v_r0 (0 : Int32).toNatClampNeg ((v_r0 (0 : Int32).toNatClampNeg) + (v_r0 (2 : Int32).toNatClampNeg))) (1 : Int32).toNatClampNeg (((upd v_r0 (0 : Int32).toNatClampNeg ((v_r0 (0 : Int32).toNatClampNeg) + (v_r0 (2 : Int32).toNatClampNeg))) (1 : Int32).toNatClampNeg) + ((upd v_r0 (0 : Int32).toNatClampNeg ((v_r0 (0 : Int32).toNatClampNeg) + (v_r0 (2 : Int32).toNatClampNeg))) (3 : Int32).toNatClampNeg))) (5 : Int32).toNatClampNeg (((upd (upd v_r0 (0 : Int32).toNatClampNeg ((v_r0 (0 : Int32).toNatClampNeg) + (v_r0 (2 : Int32).toNatClampNeg))) (1 : Int32).toNatClampNeg (((upd v_r0 (0 : Int32).toNatClampNeg ((v_r0 (0 : Int32).toNatClampNeg) + (v_r0 (2 : Int32).toNatClampNeg))) (1 : Int32).toNatClampNeg) + ((upd v_r0 (0 : Int32).toNatClampNeg ((v_r0 (0 : Int32).toNatClampNeg) + (v_r0 (2 : Int32).toNatClampNeg))) (3 : Int32).toNatClampNeg))) (5 : Int32).toNatClampNeg) + 1)) x1 ((upd (upd (upd v_r0 (0 : Int32).toNatClampNeg ((v_r0 (0 : Int32).toNatClampNeg) + (v_r0 (2 : Int32).toNatClampNeg))) (1 : Int32).toNatClampNeg (((upd v_r0 (0 : Int32).toNatClampNeg ((v_r0 (0 : Int32).toNatClampNeg) + (v_r0 (2 : Int32).toNatClampNeg))) (1 : Int32).toNatClampNeg) + ((upd v_r0 (0 : Int32).toNatClampNeg ((v_r0 (0 : Int32).toNatClampNeg) + (v_r0 (2 : Int32).toNatClampNeg))) (3 : Int32).toNatClampNeg))) (5 : Int32).toNatClampNeg (((upd (upd v_r0 (0 : Int32).toNatClampNeg ((v_r0 (0 : Int32).toNatClampNeg) + (v_r0 (2 : Int32).toNatClampNeg))) (1 : Int32).toNatClampNeg (((upd v_r0 (0 : Int32).toNatClampNeg ((v_r0 (0 : Int32).toNatClampNeg) + (v_r0 (2 : Int32).toNatClampNeg))) (1 : Int32).toNatClampNeg) + ((upd v_r0 (0 : Int32).toNatClampNeg ((v_r0 (0 : Int32).toNatClampNeg) + (v_r0 (2 : Int32).toNatClampNeg))) (3 : Int32).toNatClampNeg))) (5 : Int32).toNatClampNeg) + 1)) (0 : Int32).toNatClampNeg)) else (jf_Lw_goes_b48 (upd (upd (upd v_r0 (0 : Int32).toNatClampNeg ((v_r0 (0 : Int32).toNatClampNeg) + (v_r0 (2 : Int32).toNatClampNeg))) (1 : Int32).toNatClampNeg (((upd v_r0 (0 : Int32).toNatClampNeg ((v_r0 (0 : Int32).toNatClampNeg) + (v_r0 (2 : Int32).toNatClampNeg))) (1 : Int32).toNatClampNeg) + ((upd v_r0 (0 : Int32).toNatClampNeg ((v_r0 (0 : Int32).toNatClampNeg) + (v_r0 (2 : Int32).toNatClampNeg))) (3 : Int32).toNatClampNeg))) (5 : Int32).toNatClampNeg (((upd (upd v_r0 (0 : Int32).toNatClampNeg ((v_r0 (0 : Int32).toNatClampNeg) + (v_r0 (2 : Int32).toNatClampNeg))) (1 : Int32).toNatClampNeg (((upd v_r0 (0 : Int32).toNatClampNeg ((v_r0 (0 : Int32).toNatClampNeg) + (v_r0 (2 : Int32).toNatClampNeg))) (1 : Int32).toNatClampNeg) + ((upd v_r0 (0 : Int32).toNatClampNeg ((v_r0 (0 : Int32).toNatClampNeg) + (v_r0 (2 : Int32).toNatClampNeg))) (3 : Int32).toNatClampNeg))) (5 : Int32).toNatClampNeg) + 1)) x1 ((upd (upd (upd v_r0 (0 : Int32).toNatClampNeg ((v_r0 (0 : Int32).toNatClampNeg) + (v_r0 (2 : Int32).toNatClampNeg))) (1 : Int32).toNatClampNeg (((upd v_r0 (0 : Int32).toNatClampNeg ((v_r0 (0 : Int32).toNatClampNeg) + (v_r0 (2 : Int32).toNatClampNeg))) (1 : Int32).toNatClampNeg) + ((upd v_r0 (0 : Int32).toNatClampNeg ((v_r0 (0 : Int32).toNatClampNeg) + (v_r0 (2 : Int32).toNatClampNeg))) (3 : Int32).toNatClampNeg))) (5 : Int32).toNatClampNeg (((upd (upd v_r0 (0 : Int32).toNatClampNeg ((v_r0 (0 : Int32).toNatClampNeg) + (v_r0 (2 : Int32).toNatClampNeg))) (1 : Int32).toNatClampNeg (((upd v_r0 (0 : Int32).toNatClampNeg ((v_r0 (0 : Int32).toNatClampNeg) + (v_r0 (2 : Int32).toNatClampNeg))) (1 : Int32).toNatClampNeg) + ((upd v_r0 (0 : Int32).toNatClampNeg ((v_r0 (0 : Int32).toNatClampNeg) + (v_r0 (2 : Int32).toNatClampNeg))) (3 : Int32).toNatClampNeg))) (5 : Int32).toNatClampNeg) + 1)) (0 : Int32).toNatClampNeg) (-2))) else none) else (jf_Lw_goes_b47 (upd (upd (upd v_r0 (0 : Int32).toNatClampNeg ((v_r0 (0 : Int32).toNatClampNeg) + (v_r0 (2 : Int32).toNatClampNeg))) (1 : Int32).toNatClampNeg (((upd v_r0 (0 : Int32).toNatClampNeg ((v_r0 (0 : Int32).toNatClampNeg) + (v_r0 (2 : Int32).toNatClampNeg))) (1 : Int32).toNatClampNeg) + ((upd v_r0 (0 : Int32).toNatClampNeg ((v_r0 (0 : Int32).toNatClampNeg) + (v_r0 (2 : Int32).toNatClampNeg))) (3 : Int32).toNatClampNeg))) (5 : Int32).toNatClampNeg (((upd (upd v_r0 (0 : Int32).toNatClampNeg ((v_r0 (0 : Int32).toNatClampNeg) + (v_r0 (2 : Int32).toNatClampNeg))) (1 : Int32).toNatClampNeg (((upd v_r0 (0 : Int32).toNatClampNeg ((v_r0 (0 : Int32).toNatClampNeg) + (v_r0 (2 : Int32).toNatClampNeg))) (1 : Int32).toNatClampNeg) + ((upd v_r0 (0 : Int32).toNatClampNeg ((v_r0 (0 : Int32).toNatClampNeg) + (v_r0 (2 : Int32).toNatClampNeg))) (3 : Int32).toNatClampNeg))) (5 : Int32).toNatClampNeg) + 1)) x1 ((upd (upd (upd v_r0 (0 : Int32).toNatClampNeg ((v_r0 (0 : Int32).toNatClampNeg) + (v_r0 (2 : Int32).toNatClampNeg))) (1 : Int32).toNatClampNeg (((upd v_r0 (0 : Int32).toNatClampNeg ((v_r0 (0 : Int32).toNatClampNeg) + (v_r0 (2 : Int32).toNatClampNeg))) (1 : Int32).toNatClampNeg) + ((upd v_r0 (0 : Int32).toNatClampNeg ((v_r0 (0 : Int32).toNatClampNeg) + (v_r0 (2 : Int32).toNatClampNeg))) (3 : Int32).toNatClampNeg))) (5 : Int32).toNatClampNeg (((upd (upd v_r0 (0 : Int32).toNatClampNeg ((v_r0 (0 : Int32).toNatClampNeg) + (v_r0 (2 : Int32).toNatClampNeg))) (1 : Int32).toNatClampNeg (((upd v_r0 (0 : Int32).toNatClampNeg ((v_r0 (0 : Int32).toNatClampNeg) + (v_r0 (2 : Int32).toNatClampNeg))) (1 : Int32).toNatClampNeg) + ((upd v_r0 (0 : Int32).toNatClampNeg ((v_r0 (0 : Int32).toNatClampNeg) + (v_r0 (2 : Int32).toNatClampNeg))) (3 : Int32).toNatClampNeg))) (5 : Int32).toNatClampNeg) + 1)) (0 : Int32).toNatClampNeg))) else none) else none) else none) else none) else none) else none) else none) else none) else none) else none
abbrev jr_Lw_goes : Room := { frames := 1, cells := 0, slots := 0, locals := 23 }
set_option maxRecDepth 100000 in
set_option maxHeartbeats 4000000 in
theorem jc_Lw_goes (l : Launch) (g : jG) (a_r0 : Nat) (v_r0 : Nat → Int32) (x1 : Int64) (R : Int32 × (Nat → Int32)) (hR : jf_Lw_goes v_r0 x1 = some R) (sz : Nat) : Met l yL_goes wsL_goes jr_Lw_goes (jPw g [.ref a_r0, .long x1] (jw_ar6I g a_r0 v_r0) sz) (jQi g R.1 (jw_ar6I g a_r0 R.2) (va_A (jw_ar6I g a_r0 v_r0) sz)) 0 0 (va_A (jw_ar6I g a_r0 v_r0) sz) := by
  refine jm_wz (cc := cL_goes) (maxL := 4) (by decide +kernel) rfl (Nat.le_of_ble_eq_true rfl) ?_
  intro p e s m below meth c A Q hx hb hml hown hts hK hP hD hA hS fin ls hl
  have hl : lv_has ls 4 [(0, .ref a_r0), (1, .long x1)] := hl
  have hown : s.vm.findClass RL = some m.cls := hown
  have J113 : ∀ (v_r0 : Nat → Int32) (H : Heap) (locs : List Loc), va_P g.1 vwCl (jw_ar6I g a_r0 v_r0) H → va_S A s.heap H locs → ∀ (ls : Array Slot), lv_has ls 4 [(0, .ref a_r0)] → jf_Lw_goes_b113 v_r0 = some R → W p l e jr_Lw_goes s m ([.ref a_r0, .long x1] : List Value).toArray below meth c H locs 0 0 Q (F0 m 113 ls []) := by
    intro v_r0 H locs hP hS ls hl hR
    rw [jf_Lw_goes_b113] at hR
    refine lv_aload_n hx hb dL_goes_113 rfl (lv_at hl 0 rfl) ?_
    refine lv_iconst (v := 4) hx hb dL_goes_114 (by decide) ?_
    refine lv_dup2_11 hx hb dL_goes_115 rfl rfl ?_
    by_cases c_20 : jin 4 6 = true
    case neg => replace hR := Eq.trans (Eq.symm (if_neg c_20)) hR; cases hR
    replace hR := Eq.trans (Eq.symm (if_pos c_20)) hR
    refine va_iald hx hb hK.1 hP 0 0 rfl rfl (jin_in c_20) dL_goes_116 ?_
    refine lv_iconst (v := 1) hx hb dL_goes_117 (by decide) ?_
    refine lv_iadd hx hb dL_goes_118 ?_
    by_cases c_21 : jin 4 6 = true
    case neg => replace hR := Eq.trans (Eq.symm (if_neg c_21)) hR; cases hR
    replace hR := Eq.trans (Eq.symm (if_pos c_21)) hR
    refine va_iast hx hb hK.1 hP (jD_to hD rfl) hS 0 0 rfl rfl (jin_in c_21) dL_goes_119 (fun H locs hP _ hS => ?_)
    have hP : va_P g.1 vwCl (jw_ar6I g a_r0 (upd v_r0 (4 : Int32).toNatClampNeg ((v_r0 (4 : Int32).toNatClampNeg) + 1))) H := hP
    refine lv_iconst (v := 1) hx hb dL_goes_120 (by decide) ?_
    obtain rfl := (Option.some.inj hR)
    exact fin _ _ _ _ _ (by first | rfl | decide) hP hS dL_goes_121
  have J74 : ∀ (v_r0 : Nat → Int32) (z1 : Int64) (s0 : Int32) (s1 : Int32) (s2 : Int32) (H : Heap) (locs : List Loc), va_P g.1 vwCl (jw_ar6I g a_r0 v_r0) H → va_S A s.heap H locs → ∀ (ls : Array Slot), lv_has ls 4 [(0, .ref a_r0), (1, .long z1)] → jf_Lw_goes_b74 v_r0 z1 s0 s1 s2 = some R → W p l e jr_Lw_goes s m ([.ref a_r0, .long x1] : List Value).toArray below meth c H locs 0 0 Q (F0 m 74 ls [.int s2, .int s1, .int s0]) := by
    intro v_r0 z1 s0 s1 s2 H locs hP hS ls hl hR
    rw [jf_Lw_goes_b74] at hR
    refine lv_iadd hx hb dL_goes_74 ?_
    refine lv_iconst (v := 1) hx hb dL_goes_75 (by decide) ?_
    refine lv_ishr hx hb dL_goes_76 ?_
    refine lv_lload_n hx hb dL_goes_77 rfl (lv_at hl 1 rfl) ?_
    refine jcall_ri (va_runS (As := [.int s0, .int ((s1 + s2) >>> (1 &&& 31)), .long z1]) (rest := []) ⟨hx, hb, hml, hown, hts⟩ (jc_Lw_isFloor l g  s0 ((s1 + s2) >>> (1 &&& 31)) z1 _ rfl) (va_cwS 3 hts gL_goes_L_isFloor rfl rfl rfl (by decide +kernel) ⟨Nat.le_of_ble_eq_true rfl, Nat.le_of_ble_eq_true rfl⟩) (jpr_s hK (hP.sub (ws' := []) [] rfl)) rfl rfl hl.1 rfl (lv_room (Nat.le_of_ble_eq_true rfl)) dL_goes_78 ⟨Nat.zero_le _, Nat.zero_le _⟩) ?_
    refine jlet_i hR (fun y3_1 hR => ?_)
    try dsimp only at hR
    refine lv_istore_n (lv' := [(3, .int y3_1), (0, .ref a_r0), (1, .long z1)]) hx hb dL_goes_81 rfl hl (by decide) rfl (fun ls hl => ?_)
    refine lv_iload_n hx hb dL_goes_82 rfl (lv_at hl 0 rfl) ?_
    refine lv_if_eq (tgt := 88) hx hb dL_goes_83 (by decide) (fun c_15 => ?_) (fun c_15 => ?_)
    · replace hR := Eq.trans (Eq.symm (if_pos c_15)) hR
      refine lv_aload_n hx hb dL_goes_88 rfl (lv_at hl 1 rfl) ?_
      refine lv_iconst (v := 0) hx hb dL_goes_89 (by decide) ?_
      by_cases c_16 : jin 0 6 = true
      case neg => replace hR := Eq.trans (Eq.symm (if_neg c_16)) hR; cases hR
      replace hR := Eq.trans (Eq.symm (if_pos c_16)) hR
      refine va_iald hx hb hK.1 hP 0 0 rfl rfl (jin_in c_16) dL_goes_90 ?_
      refine lv_iconst (v := 2) hx hb dL_goes_91 (by decide) ?_
      refine lv_irem hx hb dL_goes_92 (by decide) ?_
      refine lv_if_ne (tgt := 106) hx hb dL_goes_93 (by decide) (fun c_17 => ?_) (fun c_17 => ?_)
      · replace hR := Eq.trans (Eq.symm (if_neg c_17)) hR
        refine lv_aload_n hx hb dL_goes_106 rfl (lv_at hl 1 rfl) ?_
        refine lv_iconst (v := 3) hx hb dL_goes_107 (by decide) ?_
        refine lv_aload_n hx hb dL_goes_108 rfl (lv_at hl 1 rfl) ?_
        refine lv_iconst (v := 3) hx hb dL_goes_109 (by decide) ?_
        by_cases c_18 : jin 3 6 = true
        case neg => replace hR := Eq.trans (Eq.symm (if_neg c_18)) hR; cases hR
        replace hR := Eq.trans (Eq.symm (if_pos c_18)) hR
        refine va_iald hx hb hK.1 hP 0 0 rfl rfl (jin_in c_18) dL_goes_110 ?_
        refine lv_ineg hx hb dL_goes_111 ?_
        by_cases c_19 : jin 3 6 = true
        case neg => replace hR := Eq.trans (Eq.symm (if_neg c_19)) hR; cases hR
        replace hR := Eq.trans (Eq.symm (if_pos c_19)) hR
        refine va_iast hx hb hK.1 hP (jD_to hD rfl) hS 0 0 rfl rfl (jin_in c_19) dL_goes_112 (fun H locs hP _ hS => ?_)
        have hP : va_P g.1 vwCl (jw_ar6I g a_r0 (upd v_r0 (3 : Int32).toNatClampNeg (-(v_r0 (3 : Int32).toNatClampNeg)))) H := hP
        exact J113 (upd v_r0 (3 : Int32).toNatClampNeg (-(v_r0 (3 : Int32).toNatClampNeg))) _ _ hP hS _ (lv_sub hl [1] rfl) hR
      · replace hR := Eq.trans (Eq.symm (if_pos c_17)) hR
        refine lv_aload_n hx hb dL_goes_96 rfl (lv_at hl 1 rfl) ?_
        refine lv_iconst (v := 2) hx hb dL_goes_97 (by decide) ?_
        refine lv_aload_n hx hb dL_goes_98 rfl (lv_at hl 1 rfl) ?_
        refine lv_iconst (v := 2) hx hb dL_goes_99 (by decide) ?_
        by_cases c_22 : jin 2 6 = true
        case neg => replace hR := Eq.trans (Eq.symm (if_neg c_22)) hR; cases hR
        replace hR := Eq.trans (Eq.symm (if_pos c_22)) hR
        refine va_iald hx hb hK.1 hP 0 0 rfl rfl (jin_in c_22) dL_goes_100 ?_
        refine lv_ineg hx hb dL_goes_101 ?_
        by_cases c_23 : jin 2 6 = true
        case neg => replace hR := Eq.trans (Eq.symm (if_neg c_23)) hR; cases hR
        replace hR := Eq.trans (Eq.symm (if_pos c_23)) hR
        refine va_iast hx hb hK.1 hP (jD_to hD rfl) hS 0 0 rfl rfl (jin_in c_23) dL_goes_102 (fun H locs hP _ hS => ?_)
        have hP : va_P g.1 vwCl (jw_ar6I g a_r0 (upd v_r0 (2 : Int32).toNatClampNeg (-(v_r0 (2 : Int32).toNatClampNeg)))) H := hP
        refine lv_goto (tgt := 113) hx hb dL_goes_103 (by decide) ?_
        exact J113 (upd v_r0 (2 : Int32).toNatClampNeg (-(v_r0 (2 : Int32).toNatClampNeg))) _ _ hP hS _ (lv_sub hl [1] rfl) hR
    · replace hR := Eq.trans (Eq.symm (if_neg c_15)) hR
      refine lv_iconst (v := 0) hx hb dL_goes_86 (by decide) ?_
      obtain rfl := (Option.some.inj hR)
      exact fin _ _ _ _ _ (by first | rfl | decide) hP hS dL_goes_87
  have J73 : ∀ (v_r0 : Nat → Int32) (z1 : Int64) (s0 : Int32) (s1 : Int32) (H : Heap) (locs : List Loc), va_P g.1 vwCl (jw_ar6I g a_r0 v_r0) H → va_S A s.heap H locs → ∀ (ls : Array Slot), lv_has ls 4 [(0, .ref a_r0), (1, .long z1)] → jf_Lw_goes_b73 v_r0 z1 s0 s1 = some R → W p l e jr_Lw_goes s m ([.ref a_r0, .long x1] : List Value).toArray below meth c H locs 0 0 Q (F0 m 73 ls [.int s1, .int s0]) := by
    intro v_r0 z1 s0 s1 H locs hP hS ls hl hR
    rw [jf_Lw_goes_b73] at hR
    refine lv_iconst (v := 0) hx hb dL_goes_73 (by decide) ?_
    exact J74 v_r0 z1 s0 s1 0 _ _ hP hS _ (lv_sub hl [0, 1] rfl) hR
  have J48 : ∀ (v_r0 : Nat → Int32) (z1 : Int64) (s0 : Int32) (s1 : Int32) (H : Heap) (locs : List Loc), va_P g.1 vwCl (jw_ar6I g a_r0 v_r0) H → va_S A s.heap H locs → ∀ (ls : Array Slot), lv_has ls 4 [(0, .ref a_r0), (1, .long z1)] → jf_Lw_goes_b48 v_r0 z1 s0 s1 = some R → W p l e jr_Lw_goes s m ([.ref a_r0, .long x1] : List Value).toArray below meth c H locs 0 0 Q (F0 m 48 ls [.int s1, .int s0]) := by
    intro v_r0 z1 s0 s1 H locs hP hS ls hl hR
    rw [jf_Lw_goes_b48] at hR
    refine lv_iadd hx hb dL_goes_48 ?_
    refine lv_iconst (v := 1) hx hb dL_goes_49 (by decide) ?_
    refine lv_ishr hx hb dL_goes_50 ?_
    refine lv_aload_n hx hb dL_goes_51 rfl (lv_at hl 0 rfl) ?_
    refine lv_iconst (v := 1) hx hb dL_goes_52 (by decide) ?_
    by_cases c_12 : jin 1 6 = true
    case neg => replace hR := Eq.trans (Eq.symm (if_neg c_12)) hR; cases hR
    replace hR := Eq.trans (Eq.symm (if_pos c_12)) hR
    refine va_iald hx hb hK.1 hP 0 0 rfl rfl (jin_in c_12) dL_goes_53 ?_
    refine lv_aload_n hx hb dL_goes_54 rfl (lv_at hl 0 rfl) ?_
    refine lv_iconst (v := 1) hx hb dL_goes_55 (by decide) ?_
    by_cases c_13 : jin 1 6 = true
    case neg => replace hR := Eq.trans (Eq.symm (if_neg c_13)) hR; cases hR
    replace hR := Eq.trans (Eq.symm (if_pos c_13)) hR
    refine va_iald hx hb hK.1 hP 0 0 rfl rfl (jin_in c_13) dL_goes_56 ?_
    refine lv_iconst (v := 2) hx hb dL_goes_57 (by decide) ?_
    refine lv_irem hx hb dL_goes_58 (by decide) ?_
    refine lv_if_ne (tgt := 73) hx hb dL_goes_59 (by decide) (fun c_14 => ?_) (fun c_14 => ?_)
    · replace hR := Eq.trans (Eq.symm (if_neg c_14)) hR
      exact J73 v_r0 z1 ((s0 + s1) >>> (1 &&& 31)) (v_r0 (1 : Int32).toNatClampNeg) _ _ hP hS _ (lv_sub hl [0, 1] rfl) hR
    · replace hR := Eq.trans (Eq.symm (if_pos c_14)) hR
      refine lv_aload_n hx hb dL_goes_62 rfl (lv_at hl 0 rfl) ?_
      refine lv_iconst (v := 3) hx hb dL_goes_63 (by decide) ?_
      by_cases c_24 : jin 3 6 = true
      case neg => replace hR := Eq.trans (Eq.symm (if_neg c_24)) hR; cases hR
      replace hR := Eq.trans (Eq.symm (if_pos c_24)) hR
      refine va_iald hx hb hK.1 hP 0 0 rfl rfl (jin_in c_24) dL_goes_64 ?_
      refine lv_if_ge (tgt := 73) hx hb dL_goes_65 (by decide) (fun c_25 => ?_) (fun c_25 => ?_)
      · replace hR := Eq.trans (Eq.symm (if_pos c_25)) hR
        exact J73 v_r0 z1 ((s0 + s1) >>> (1 &&& 31)) (v_r0 (1 : Int32).toNatClampNeg) _ _ hP hS _ (lv_sub hl [0, 1] rfl) hR
      · replace hR := Eq.trans (Eq.symm (if_neg c_25)) hR
        refine lv_bipush (v := (-2)) hx hb dL_goes_68 (by decide) ?_
        refine lv_goto (tgt := 74) hx hb dL_goes_70 (by decide) ?_
        exact J74 v_r0 z1 ((s0 + s1) >>> (1 &&& 31)) (v_r0 (1 : Int32).toNatClampNeg) (-2) _ _ hP hS _ (lv_sub hl [0, 1] rfl) hR
  have J47 : ∀ (v_r0 : Nat → Int32) (z1 : Int64) (s0 : Int32) (H : Heap) (locs : List Loc), va_P g.1 vwCl (jw_ar6I g a_r0 v_r0) H → va_S A s.heap H locs → ∀ (ls : Array Slot), lv_has ls 4 [(0, .ref a_r0), (1, .long z1)] → jf_Lw_goes_b47 v_r0 z1 s0 = some R → W p l e jr_Lw_goes s m ([.ref a_r0, .long x1] : List Value).toArray below meth c H locs 0 0 Q (F0 m 47 ls [.int s0]) := by
    intro v_r0 z1 s0 H locs hP hS ls hl hR
    rw [jf_Lw_goes_b47] at hR
    refine lv_iconst (v := 0) hx hb dL_goes_47 (by decide) ?_
    exact J48 v_r0 z1 s0 0 _ _ hP hS _ (lv_sub hl [0, 1] rfl) hR
  rw [jf_Lw_goes] at hR
  refine lv_aload_n hx hb dL_goes_0 rfl (lv_at hl 0 rfl) ?_
  refine lv_iconst (v := 0) hx hb dL_goes_1 (by decide) ?_
  refine lv_dup2_11 hx hb dL_goes_2 rfl rfl ?_
  by_cases c_1 : jin 0 6 = true
  case neg => replace hR := Eq.trans (Eq.symm (if_neg c_1)) hR; cases hR
  replace hR := Eq.trans (Eq.symm (if_pos c_1)) hR
  refine va_iald hx hb hK.1 hP 0 0 rfl rfl (jin_in c_1) dL_goes_3 ?_
  refine lv_aload_n hx hb dL_goes_4 rfl (lv_at hl 0 rfl) ?_
  refine lv_iconst (v := 2) hx hb dL_goes_5 (by decide) ?_
  by_cases c_2 : jin 2 6 = true
  case neg => replace hR := Eq.trans (Eq.symm (if_neg c_2)) hR; cases hR
  replace hR := Eq.trans (Eq.symm (if_pos c_2)) hR
  refine va_iald hx hb hK.1 hP 0 0 rfl rfl (jin_in c_2) dL_goes_6 ?_
  refine lv_iadd hx hb dL_goes_7 ?_
  by_cases c_3 : jin 0 6 = true
  case neg => replace hR := Eq.trans (Eq.symm (if_neg c_3)) hR; cases hR
  replace hR := Eq.trans (Eq.symm (if_pos c_3)) hR
  refine va_iast hx hb hK.1 hP (jD_to hD rfl) hS 0 0 rfl rfl (jin_in c_3) dL_goes_8 (fun H locs hP _ hS => ?_)
  have hP : va_P g.1 vwCl (jw_ar6I g a_r0 (upd v_r0 (0 : Int32).toNatClampNeg ((v_r0 (0 : Int32).toNatClampNeg) + (v_r0 (2 : Int32).toNatClampNeg)))) H := hP
  refine lv_aload_n hx hb dL_goes_9 rfl (lv_at hl 0 rfl) ?_
  refine lv_iconst (v := 1) hx hb dL_goes_10 (by decide) ?_
  refine lv_dup2_11 hx hb dL_goes_11 rfl rfl ?_
  by_cases c_4 : jin 1 6 = true
  case neg => replace hR := Eq.trans (Eq.symm (if_neg c_4)) hR; cases hR
  replace hR := Eq.trans (Eq.symm (if_pos c_4)) hR
  refine va_iald hx hb hK.1 hP 0 0 rfl rfl (jin_in c_4) dL_goes_12 ?_
  refine lv_aload_n hx hb dL_goes_13 rfl (lv_at hl 0 rfl) ?_
  refine lv_iconst (v := 3) hx hb dL_goes_14 (by decide) ?_
  by_cases c_5 : jin 3 6 = true
  case neg => replace hR := Eq.trans (Eq.symm (if_neg c_5)) hR; cases hR
  replace hR := Eq.trans (Eq.symm (if_pos c_5)) hR
  refine va_iald hx hb hK.1 hP 0 0 rfl rfl (jin_in c_5) dL_goes_15 ?_
  refine lv_iadd hx hb dL_goes_16 ?_
  by_cases c_6 : jin 1 6 = true
  case neg => replace hR := Eq.trans (Eq.symm (if_neg c_6)) hR; cases hR
  replace hR := Eq.trans (Eq.symm (if_pos c_6)) hR
  refine va_iast hx hb hK.1 hP (jD_to hD rfl) hS 0 0 rfl rfl (jin_in c_6) dL_goes_17 (fun H locs hP _ hS => ?_)
  have hP : va_P g.1 vwCl (jw_ar6I g a_r0 (upd (upd v_r0 (0 : Int32).toNatClampNeg ((v_r0 (0 : Int32).toNatClampNeg) + (v_r0 (2 : Int32).toNatClampNeg))) (1 : Int32).toNatClampNeg (((upd v_r0 (0 : Int32).toNatClampNeg ((v_r0 (0 : Int32).toNatClampNeg) + (v_r0 (2 : Int32).toNatClampNeg))) (1 : Int32).toNatClampNeg) + ((upd v_r0 (0 : Int32).toNatClampNeg ((v_r0 (0 : Int32).toNatClampNeg) + (v_r0 (2 : Int32).toNatClampNeg))) (3 : Int32).toNatClampNeg)))) H := hP
  refine lv_aload_n hx hb dL_goes_18 rfl (lv_at hl 0 rfl) ?_
  refine lv_iconst (v := 5) hx hb dL_goes_19 (by decide) ?_
  refine lv_dup2_11 hx hb dL_goes_20 rfl rfl ?_
  by_cases c_7 : jin 5 6 = true
  case neg => replace hR := Eq.trans (Eq.symm (if_neg c_7)) hR; cases hR
  replace hR := Eq.trans (Eq.symm (if_pos c_7)) hR
  refine va_iald hx hb hK.1 hP 0 0 rfl rfl (jin_in c_7) dL_goes_21 ?_
  refine lv_iconst (v := 1) hx hb dL_goes_22 (by decide) ?_
  refine lv_iadd hx hb dL_goes_23 ?_
  by_cases c_8 : jin 5 6 = true
  case neg => replace hR := Eq.trans (Eq.symm (if_neg c_8)) hR; cases hR
  replace hR := Eq.trans (Eq.symm (if_pos c_8)) hR
  refine va_iast hx hb hK.1 hP (jD_to hD rfl) hS 0 0 rfl rfl (jin_in c_8) dL_goes_24 (fun H locs hP _ hS => ?_)
  have hP : va_P g.1 vwCl (jw_ar6I g a_r0 (upd (upd (upd v_r0 (0 : Int32).toNatClampNeg ((v_r0 (0 : Int32).toNatClampNeg) + (v_r0 (2 : Int32).toNatClampNeg))) (1 : Int32).toNatClampNeg (((upd v_r0 (0 : Int32).toNatClampNeg ((v_r0 (0 : Int32).toNatClampNeg) + (v_r0 (2 : Int32).toNatClampNeg))) (1 : Int32).toNatClampNeg) + ((upd v_r0 (0 : Int32).toNatClampNeg ((v_r0 (0 : Int32).toNatClampNeg) + (v_r0 (2 : Int32).toNatClampNeg))) (3 : Int32).toNatClampNeg))) (5 : Int32).toNatClampNeg (((upd (upd v_r0 (0 : Int32).toNatClampNeg ((v_r0 (0 : Int32).toNatClampNeg) + (v_r0 (2 : Int32).toNatClampNeg))) (1 : Int32).toNatClampNeg (((upd v_r0 (0 : Int32).toNatClampNeg ((v_r0 (0 : Int32).toNatClampNeg) + (v_r0 (2 : Int32).toNatClampNeg))) (1 : Int32).toNatClampNeg) + ((upd v_r0 (0 : Int32).toNatClampNeg ((v_r0 (0 : Int32).toNatClampNeg) + (v_r0 (2 : Int32).toNatClampNeg))) (3 : Int32).toNatClampNeg))) (5 : Int32).toNatClampNeg) + 1))) H := hP
  refine lv_aload_n hx hb dL_goes_25 rfl (lv_at hl 0 rfl) ?_
  refine lv_iconst (v := 0) hx hb dL_goes_26 (by decide) ?_
  by_cases c_9 : jin 0 6 = true
  case neg => replace hR := Eq.trans (Eq.symm (if_neg c_9)) hR; cases hR
  replace hR := Eq.trans (Eq.symm (if_pos c_9)) hR
  refine va_iald hx hb hK.1 hP 0 0 rfl rfl (jin_in c_9) dL_goes_27 ?_
  refine lv_aload_n hx hb dL_goes_28 rfl (lv_at hl 0 rfl) ?_
  refine lv_iconst (v := 0) hx hb dL_goes_29 (by decide) ?_
  by_cases c_10 : jin 0 6 = true
  case neg => replace hR := Eq.trans (Eq.symm (if_neg c_10)) hR; cases hR
  replace hR := Eq.trans (Eq.symm (if_pos c_10)) hR
  refine va_iald hx hb hK.1 hP 0 0 rfl rfl (jin_in c_10) dL_goes_30 ?_
  refine lv_iconst (v := 2) hx hb dL_goes_31 (by decide) ?_
  refine lv_irem hx hb dL_goes_32 (by decide) ?_
  refine lv_if_ne (tgt := 47) hx hb dL_goes_33 (by decide) (fun c_11 => ?_) (fun c_11 => ?_)
  · replace hR := Eq.trans (Eq.symm (if_neg c_11)) hR
    exact J47 (upd (upd (upd v_r0 (0 : Int32).toNatClampNeg ((v_r0 (0 : Int32).toNatClampNeg) + (v_r0 (2 : Int32).toNatClampNeg))) (1 : Int32).toNatClampNeg (((upd v_r0 (0 : Int32).toNatClampNeg ((v_r0 (0 : Int32).toNatClampNeg) + (v_r0 (2 : Int32).toNatClampNeg))) (1 : Int32).toNatClampNeg) + ((upd v_r0 (0 : Int32).toNatClampNeg ((v_r0 (0 : Int32).toNatClampNeg) + (v_r0 (2 : Int32).toNatClampNeg))) (3 : Int32).toNatClampNeg))) (5 : Int32).toNatClampNeg (((upd (upd v_r0 (0 : Int32).toNatClampNeg ((v_r0 (0 : Int32).toNatClampNeg) + (v_r0 (2 : Int32).toNatClampNeg))) (1 : Int32).toNatClampNeg (((upd v_r0 (0 : Int32).toNatClampNeg ((v_r0 (0 : Int32).toNatClampNeg) + (v_r0 (2 : Int32).toNatClampNeg))) (1 : Int32).toNatClampNeg) + ((upd v_r0 (0 : Int32).toNatClampNeg ((v_r0 (0 : Int32).toNatClampNeg) + (v_r0 (2 : Int32).toNatClampNeg))) (3 : Int32).toNatClampNeg))) (5 : Int32).toNatClampNeg) + 1)) x1 ((upd (upd (upd v_r0 (0 : Int32).toNatClampNeg ((v_r0 (0 : Int32).toNatClampNeg) + (v_r0 (2 : Int32).toNatClampNeg))) (1 : Int32).toNatClampNeg (((upd v_r0 (0 : Int32).toNatClampNeg ((v_r0 (0 : Int32).toNatClampNeg) + (v_r0 (2 : Int32).toNatClampNeg))) (1 : Int32).toNatClampNeg) + ((upd v_r0 (0 : Int32).toNatClampNeg ((v_r0 (0 : Int32).toNatClampNeg) + (v_r0 (2 : Int32).toNatClampNeg))) (3 : Int32).toNatClampNeg))) (5 : Int32).toNatClampNeg (((upd (upd v_r0 (0 : Int32).toNatClampNeg ((v_r0 (0 : Int32).toNatClampNeg) + (v_r0 (2 : Int32).toNatClampNeg))) (1 : Int32).toNatClampNeg (((upd v_r0 (0 : Int32).toNatClampNeg ((v_r0 (0 : Int32).toNatClampNeg) + (v_r0 (2 : Int32).toNatClampNeg))) (1 : Int32).toNatClampNeg) + ((upd v_r0 (0 : Int32).toNatClampNeg ((v_r0 (0 : Int32).toNatClampNeg) + (v_r0 (2 : Int32).toNatClampNeg))) (3 : Int32).toNatClampNeg))) (5 : Int32).toNatClampNeg) + 1)) (0 : Int32).toNatClampNeg) _ _ hP hS _ (lv_sub hl [0, 1] rfl) hR
  · replace hR := Eq.trans (Eq.symm (if_pos c_11)) hR
    refine lv_aload_n hx hb dL_goes_36 rfl (lv_at hl 0 rfl) ?_
    refine lv_iconst (v := 2) hx hb dL_goes_37 (by decide) ?_
    by_cases c_26 : jin 2 6 = true
    case neg => replace hR := Eq.trans (Eq.symm (if_neg c_26)) hR; cases hR
    replace hR := Eq.trans (Eq.symm (if_pos c_26)) hR
    refine va_iald hx hb hK.1 hP 0 0 rfl rfl (jin_in c_26) dL_goes_38 ?_
    refine lv_if_ge (tgt := 47) hx hb dL_goes_39 (by decide) (fun c_27 => ?_) (fun c_27 => ?_)
    · replace hR := Eq.trans (Eq.symm (if_pos c_27)) hR
      exact J47 (upd (upd (upd v_r0 (0 : Int32).toNatClampNeg ((v_r0 (0 : Int32).toNatClampNeg) + (v_r0 (2 : Int32).toNatClampNeg))) (1 : Int32).toNatClampNeg (((upd v_r0 (0 : Int32).toNatClampNeg ((v_r0 (0 : Int32).toNatClampNeg) + (v_r0 (2 : Int32).toNatClampNeg))) (1 : Int32).toNatClampNeg) + ((upd v_r0 (0 : Int32).toNatClampNeg ((v_r0 (0 : Int32).toNatClampNeg) + (v_r0 (2 : Int32).toNatClampNeg))) (3 : Int32).toNatClampNeg))) (5 : Int32).toNatClampNeg (((upd (upd v_r0 (0 : Int32).toNatClampNeg ((v_r0 (0 : Int32).toNatClampNeg) + (v_r0 (2 : Int32).toNatClampNeg))) (1 : Int32).toNatClampNeg (((upd v_r0 (0 : Int32).toNatClampNeg ((v_r0 (0 : Int32).toNatClampNeg) + (v_r0 (2 : Int32).toNatClampNeg))) (1 : Int32).toNatClampNeg) + ((upd v_r0 (0 : Int32).toNatClampNeg ((v_r0 (0 : Int32).toNatClampNeg) + (v_r0 (2 : Int32).toNatClampNeg))) (3 : Int32).toNatClampNeg))) (5 : Int32).toNatClampNeg) + 1)) x1 ((upd (upd (upd v_r0 (0 : Int32).toNatClampNeg ((v_r0 (0 : Int32).toNatClampNeg) + (v_r0 (2 : Int32).toNatClampNeg))) (1 : Int32).toNatClampNeg (((upd v_r0 (0 : Int32).toNatClampNeg ((v_r0 (0 : Int32).toNatClampNeg) + (v_r0 (2 : Int32).toNatClampNeg))) (1 : Int32).toNatClampNeg) + ((upd v_r0 (0 : Int32).toNatClampNeg ((v_r0 (0 : Int32).toNatClampNeg) + (v_r0 (2 : Int32).toNatClampNeg))) (3 : Int32).toNatClampNeg))) (5 : Int32).toNatClampNeg (((upd (upd v_r0 (0 : Int32).toNatClampNeg ((v_r0 (0 : Int32).toNatClampNeg) + (v_r0 (2 : Int32).toNatClampNeg))) (1 : Int32).toNatClampNeg (((upd v_r0 (0 : Int32).toNatClampNeg ((v_r0 (0 : Int32).toNatClampNeg) + (v_r0 (2 : Int32).toNatClampNeg))) (1 : Int32).toNatClampNeg) + ((upd v_r0 (0 : Int32).toNatClampNeg ((v_r0 (0 : Int32).toNatClampNeg) + (v_r0 (2 : Int32).toNatClampNeg))) (3 : Int32).toNatClampNeg))) (5 : Int32).toNatClampNeg) + 1)) (0 : Int32).toNatClampNeg) _ _ hP hS _ (lv_sub hl [0, 1] rfl) hR
    · replace hR := Eq.trans (Eq.symm (if_neg c_27)) hR
      refine lv_bipush (v := (-2)) hx hb dL_goes_42 (by decide) ?_
      refine lv_goto (tgt := 48) hx hb dL_goes_44 (by decide) ?_
      exact J48 (upd (upd (upd v_r0 (0 : Int32).toNatClampNeg ((v_r0 (0 : Int32).toNatClampNeg) + (v_r0 (2 : Int32).toNatClampNeg))) (1 : Int32).toNatClampNeg (((upd v_r0 (0 : Int32).toNatClampNeg ((v_r0 (0 : Int32).toNatClampNeg) + (v_r0 (2 : Int32).toNatClampNeg))) (1 : Int32).toNatClampNeg) + ((upd v_r0 (0 : Int32).toNatClampNeg ((v_r0 (0 : Int32).toNatClampNeg) + (v_r0 (2 : Int32).toNatClampNeg))) (3 : Int32).toNatClampNeg))) (5 : Int32).toNatClampNeg (((upd (upd v_r0 (0 : Int32).toNatClampNeg ((v_r0 (0 : Int32).toNatClampNeg) + (v_r0 (2 : Int32).toNatClampNeg))) (1 : Int32).toNatClampNeg (((upd v_r0 (0 : Int32).toNatClampNeg ((v_r0 (0 : Int32).toNatClampNeg) + (v_r0 (2 : Int32).toNatClampNeg))) (1 : Int32).toNatClampNeg) + ((upd v_r0 (0 : Int32).toNatClampNeg ((v_r0 (0 : Int32).toNatClampNeg) + (v_r0 (2 : Int32).toNatClampNeg))) (3 : Int32).toNatClampNeg))) (5 : Int32).toNatClampNeg) + 1)) x1 ((upd (upd (upd v_r0 (0 : Int32).toNatClampNeg ((v_r0 (0 : Int32).toNatClampNeg) + (v_r0 (2 : Int32).toNatClampNeg))) (1 : Int32).toNatClampNeg (((upd v_r0 (0 : Int32).toNatClampNeg ((v_r0 (0 : Int32).toNatClampNeg) + (v_r0 (2 : Int32).toNatClampNeg))) (1 : Int32).toNatClampNeg) + ((upd v_r0 (0 : Int32).toNatClampNeg ((v_r0 (0 : Int32).toNatClampNeg) + (v_r0 (2 : Int32).toNatClampNeg))) (3 : Int32).toNatClampNeg))) (5 : Int32).toNatClampNeg (((upd (upd v_r0 (0 : Int32).toNatClampNeg ((v_r0 (0 : Int32).toNatClampNeg) + (v_r0 (2 : Int32).toNatClampNeg))) (1 : Int32).toNatClampNeg (((upd v_r0 (0 : Int32).toNatClampNeg ((v_r0 (0 : Int32).toNatClampNeg) + (v_r0 (2 : Int32).toNatClampNeg))) (1 : Int32).toNatClampNeg) + ((upd v_r0 (0 : Int32).toNatClampNeg ((v_r0 (0 : Int32).toNatClampNeg) + (v_r0 (2 : Int32).toNatClampNeg))) (3 : Int32).toNatClampNeg))) (5 : Int32).toNatClampNeg) + 1)) (0 : Int32).toNatClampNeg) (-2) _ _ hP hS _ (lv_sub hl [0, 1] rfl) hR
def jf_Lw_stateAt_b132 (s0 : Int32) (s1 : Int32) : Option Int32 :=
  some (s0 + s1)
def jf_Lw_stateAt_b122 (s0 : Int32) (s1 : Int32) : Option Int32 :=
  if s1 ≤ 0 then (jf_Lw_stateAt_b132 s0 0) else (jf_Lw_stateAt_b132 s0 256)
def jf_Lw_stateAt_b95 (v_r0 : Nat → Int32) (z1 : Int32) (z2 : Int32) (z3 : Int32) (s0 : Int32) : Option Int32 :=
  if z1 = 0 then (if jin 2 6 = true then (jf_Lw_stateAt_b122 ((z2 + (8 * z3)) + (64 * s0)) (v_r0 (2 : Int32).toNatClampNeg)) else none) else (if jin 3 6 = true then (jf_Lw_stateAt_b122 ((z2 + (8 * z3)) + (64 * s0)) (v_r0 (3 : Int32).toNatClampNeg)) else none)
def jf_Lw_stateAt_b65 (v_r0 : Nat → Int32) (z1 : Int32) (z2 : Int32) (s0 : Int32) : Option Int32 :=
  if z1 = 0 then (if jin 3 6 = true then (if v_r0 (3 : Int32).toNatClampNeg ≤ 0 then (jf_Lw_stateAt_b95 v_r0 z1 z2 s0 3) else (jf_Lw_stateAt_b95 v_r0 z1 z2 s0 1)) else none) else (if jin 2 6 = true then (if v_r0 (2 : Int32).toNatClampNeg ≤ 0 then (jf_Lw_stateAt_b95 v_r0 z1 z2 s0 2) else (jf_Lw_stateAt_b95 v_r0 z1 z2 s0 0)) else none)
def jf_Lw_stateAt_b60 (v_r0 : Nat → Int32) (z1 : Int32) (z2 : Int32) : Option Int32 :=
  if jin 1 6 = true then (jf_Lw_stateAt_b65 v_r0 z1 z2 ((v_r0 (1 : Int32).toNatClampNeg) / 2)) else none
def jf_Lw_stateAt_b39 (v_r0 : Nat → Int32) (z1 : Int32) (s0 : Int32) : Option Int32 :=
  if z1 = 0 then (if jin 3 6 = true then (if 0 ≤ v_r0 (3 : Int32).toNatClampNeg then (jf_Lw_stateAt_b60 v_r0 z1 s0) else (if jin 1 6 = true then (jf_Lw_stateAt_b65 v_r0 z1 s0 (((v_r0 (1 : Int32).toNatClampNeg) / 2) - 1)) else none)) else none) else (jf_Lw_stateAt_b60 v_r0 z1 s0)
def jf_Lw_stateAt_b34 (v_r0 : Nat → Int32) (z1 : Int32) : Option Int32 :=
  if jin 0 6 = true then (jf_Lw_stateAt_b39 v_r0 z1 ((v_r0 (0 : Int32).toNatClampNeg) / 2)) else none
def jf_Lw_stateAt_b13 (v_r0 : Nat → Int32) (s0 : Int32) : Option Int32 :=
  if s0 = 0 then (jf_Lw_stateAt_b34 v_r0 s0) else (if jin 2 6 = true then (if 0 ≤ v_r0 (2 : Int32).toNatClampNeg then (jf_Lw_stateAt_b34 v_r0 s0) else (if jin 0 6 = true then (jf_Lw_stateAt_b39 v_r0 s0 (((v_r0 (0 : Int32).toNatClampNeg) / 2) - 1)) else none)) else none)
def jf_Lw_stateAt (v_r0 : Nat → Int32) : Option Int32 :=
  if jin 0 6 = true then (if (v_r0 (0 : Int32).toNatClampNeg) - (v_r0 (0 : Int32).toNatClampNeg) / 2 * 2 = 0 then (jf_Lw_stateAt_b13 v_r0 1) else (jf_Lw_stateAt_b13 v_r0 0)) else none
abbrev jr_Lw_stateAt : Room := { frames := 0, cells := 0, slots := 0, locals := 0 }
set_option maxRecDepth 100000 in
set_option maxHeartbeats 4000000 in
theorem jc_Lw_stateAt (l : Launch) (g : jG) (a_r0 : Nat) (v_r0 : Nat → Int32) (R : Int32) (hR : jf_Lw_stateAt v_r0 = some R) : Met l yL_stateAt wsL_stateAt jr_Lw_stateAt (jPr g [.ref a_r0] (jw_ar6I g a_r0 v_r0)) (vp_Si (fun r => r = R)) 0 0 (fun _ => False) := by
  refine jm_ri (cc := cL_stateAt) (maxL := 5) (by decide +kernel) rfl (Nat.le_of_ble_eq_true rfl) ?_
  intro p e s m below meth c Q hx hb hml hown hts hK hP fin ls hl
  have hl : lv_has ls 5 [(0, .ref a_r0)] := hl
  have hown : s.vm.findClass RL = some m.cls := hown
  have J132 : ∀ (s0 : Int32) (s1 : Int32) (ls : Array Slot), lv_has ls 5 [] → jf_Lw_stateAt_b132 s0 s1 = some R → W p l e jr_Lw_stateAt s m ([.ref a_r0] : List Value).toArray below meth c s.heap [] 0 0 Q (F0 m 132 ls [.int s1, .int s0]) := by
    intro s0 s1 ls hl hR
    rw [jf_Lw_stateAt_b132] at hR
    refine lv_iadd hx hb dL_stateAt_132 ?_
    exact fin _ _ _ (Option.some.inj hR) dL_stateAt_133
  have J122 : ∀ (s0 : Int32) (s1 : Int32) (ls : Array Slot), lv_has ls 5 [] → jf_Lw_stateAt_b122 s0 s1 = some R → W p l e jr_Lw_stateAt s m ([.ref a_r0] : List Value).toArray below meth c s.heap [] 0 0 Q (F0 m 122 ls [.int s1, .int s0]) := by
    intro s0 s1 ls hl hR
    rw [jf_Lw_stateAt_b122] at hR
    refine lv_if_le (tgt := 131) hx hb dL_stateAt_122 (by decide) (fun c_12 => ?_) (fun c_12 => ?_)
    · replace hR := Eq.trans (Eq.symm (if_pos c_12)) hR
      refine lv_iconst (v := 0) hx hb dL_stateAt_131 (by decide) ?_
      exact J132 s0 0 _ (lv_sub hl [] rfl) hR
    · replace hR := Eq.trans (Eq.symm (if_neg c_12)) hR
      refine lv_sipush (v := 256) hx hb dL_stateAt_125 (by decide) ?_
      refine lv_goto (tgt := 132) hx hb dL_stateAt_128 (by decide) ?_
      exact J132 s0 256 _ (lv_sub hl [] rfl) hR
  have J95 : ∀ (z1 : Int32) (z2 : Int32) (z3 : Int32) (s0 : Int32) (ls : Array Slot), lv_has ls 5 [(0, .ref a_r0), (1, .int z1), (2, .int z2), (3, .int z3)] → jf_Lw_stateAt_b95 v_r0 z1 z2 z3 s0 = some R → W p l e jr_Lw_stateAt s m ([.ref a_r0] : List Value).toArray below meth c s.heap [] 0 0 Q (F0 m 95 ls [.int s0]) := by
    intro z1 z2 z3 s0 ls hl hR
    rw [jf_Lw_stateAt_b95] at hR
    refine lv_istore (lv' := [(4, .int s0), (0, .ref a_r0), (1, .int z1), (2, .int z2), (3, .int z3)]) hx hb dL_stateAt_95 hl (by decide) rfl (fun ls hl => ?_)
    refine lv_iload_n hx hb dL_stateAt_97 rfl (lv_at hl 3 rfl) ?_
    refine lv_bipush (v := 8) hx hb dL_stateAt_98 (by decide) ?_
    refine lv_iload_n hx hb dL_stateAt_100 rfl (lv_at hl 4 rfl) ?_
    refine lv_imul hx hb dL_stateAt_101 ?_
    refine lv_iadd hx hb dL_stateAt_102 ?_
    refine lv_bipush (v := 64) hx hb dL_stateAt_103 (by decide) ?_
    refine lv_iload hx hb dL_stateAt_105 (lv_at hl 0 rfl) ?_
    refine lv_imul hx hb dL_stateAt_107 ?_
    refine lv_iadd hx hb dL_stateAt_108 ?_
    refine lv_iload_n hx hb dL_stateAt_109 rfl (lv_at hl 2 rfl) ?_
    refine lv_if_eq (tgt := 119) hx hb dL_stateAt_110 (by decide) (fun c_10 => ?_) (fun c_10 => ?_)
    · replace hR := Eq.trans (Eq.symm (if_pos c_10)) hR
      refine lv_aload_n hx hb dL_stateAt_119 rfl (lv_at hl 1 rfl) ?_
      refine lv_iconst (v := 2) hx hb dL_stateAt_120 (by decide) ?_
      by_cases c_11 : jin 2 6 = true
      case neg => replace hR := Eq.trans (Eq.symm (if_neg c_11)) hR; cases hR
      replace hR := Eq.trans (Eq.symm (if_pos c_11)) hR
      refine va_iald hx hb hK.1 hP 0 0 rfl rfl (jin_in c_11) dL_stateAt_121 ?_
      exact J122 ((z2 + (8 * z3)) + (64 * s0)) (v_r0 (2 : Int32).toNatClampNeg) _ (lv_sub hl [] rfl) hR
    · replace hR := Eq.trans (Eq.symm (if_neg c_10)) hR
      refine lv_aload_n hx hb dL_stateAt_113 rfl (lv_at hl 1 rfl) ?_
      refine lv_iconst (v := 3) hx hb dL_stateAt_114 (by decide) ?_
      by_cases c_13 : jin 3 6 = true
      case neg => replace hR := Eq.trans (Eq.symm (if_neg c_13)) hR; cases hR
      replace hR := Eq.trans (Eq.symm (if_pos c_13)) hR
      refine va_iald hx hb hK.1 hP 0 0 rfl rfl (jin_in c_13) dL_stateAt_115 ?_
      refine lv_goto (tgt := 122) hx hb dL_stateAt_116 (by decide) ?_
      exact J122 ((z2 + (8 * z3)) + (64 * s0)) (v_r0 (3 : Int32).toNatClampNeg) _ (lv_sub hl [] rfl) hR
  have J65 : ∀ (z1 : Int32) (z2 : Int32) (s0 : Int32) (ls : Array Slot), lv_has ls 5 [(0, .ref a_r0), (1, .int z1), (2, .int z2)] → jf_Lw_stateAt_b65 v_r0 z1 z2 s0 = some R → W p l e jr_Lw_stateAt s m ([.ref a_r0] : List Value).toArray below meth c s.heap [] 0 0 Q (F0 m 65 ls [.int s0]) := by
    intro z1 z2 s0 ls hl hR
    rw [jf_Lw_stateAt_b65] at hR
    refine lv_istore_n (lv' := [(3, .int s0), (0, .ref a_r0), (1, .int z1), (2, .int z2)]) hx hb dL_stateAt_65 rfl hl (by decide) rfl (fun ls hl => ?_)
    refine lv_iload_n hx hb dL_stateAt_66 rfl (lv_at hl 2 rfl) ?_
    refine lv_if_eq (tgt := 84) hx hb dL_stateAt_67 (by decide) (fun c_7 => ?_) (fun c_7 => ?_)
    · replace hR := Eq.trans (Eq.symm (if_pos c_7)) hR
      refine lv_aload_n hx hb dL_stateAt_84 rfl (lv_at hl 1 rfl) ?_
      refine lv_iconst (v := 3) hx hb dL_stateAt_85 (by decide) ?_
      by_cases c_8 : jin 3 6 = true
      case neg => replace hR := Eq.trans (Eq.symm (if_neg c_8)) hR; cases hR
      replace hR := Eq.trans (Eq.symm (if_pos c_8)) hR
      refine va_iald hx hb hK.1 hP 0 0 rfl rfl (jin_in c_8) dL_stateAt_86 ?_
      refine lv_if_le (tgt := 94) hx hb dL_stateAt_87 (by decide) (fun c_9 => ?_) (fun c_9 => ?_)
      · replace hR := Eq.trans (Eq.symm (if_pos c_9)) hR
        refine lv_iconst (v := 3) hx hb dL_stateAt_94 (by decide) ?_
        exact J95 z1 z2 s0 3 _ (lv_sub hl [1, 2, 3, 0] rfl) hR
      · replace hR := Eq.trans (Eq.symm (if_neg c_9)) hR
        refine lv_iconst (v := 1) hx hb dL_stateAt_90 (by decide) ?_
        refine lv_goto (tgt := 95) hx hb dL_stateAt_91 (by decide) ?_
        exact J95 z1 z2 s0 1 _ (lv_sub hl [1, 2, 3, 0] rfl) hR
    · replace hR := Eq.trans (Eq.symm (if_neg c_7)) hR
      refine lv_aload_n hx hb dL_stateAt_70 rfl (lv_at hl 1 rfl) ?_
      refine lv_iconst (v := 2) hx hb dL_stateAt_71 (by decide) ?_
      by_cases c_14 : jin 2 6 = true
      case neg => replace hR := Eq.trans (Eq.symm (if_neg c_14)) hR; cases hR
      replace hR := Eq.trans (Eq.symm (if_pos c_14)) hR
      refine va_iald hx hb hK.1 hP 0 0 rfl rfl (jin_in c_14) dL_stateAt_72 ?_
      refine lv_if_le (tgt := 80) hx hb dL_stateAt_73 (by decide) (fun c_15 => ?_) (fun c_15 => ?_)
      · replace hR := Eq.trans (Eq.symm (if_pos c_15)) hR
        refine lv_iconst (v := 2) hx hb dL_stateAt_80 (by decide) ?_
        refine lv_goto (tgt := 95) hx hb dL_stateAt_81 (by decide) ?_
        exact J95 z1 z2 s0 2 _ (lv_sub hl [1, 2, 3, 0] rfl) hR
      · replace hR := Eq.trans (Eq.symm (if_neg c_15)) hR
        refine lv_iconst (v := 0) hx hb dL_stateAt_76 (by decide) ?_
        refine lv_goto (tgt := 95) hx hb dL_stateAt_77 (by decide) ?_
        exact J95 z1 z2 s0 0 _ (lv_sub hl [1, 2, 3, 0] rfl) hR
  have J60 : ∀ (z1 : Int32) (z2 : Int32) (ls : Array Slot), lv_has ls 5 [(0, .ref a_r0), (1, .int z1), (2, .int z2)] → jf_Lw_stateAt_b60 v_r0 z1 z2 = some R → W p l e jr_Lw_stateAt s m ([.ref a_r0] : List Value).toArray below meth c s.heap [] 0 0 Q (F0 m 60 ls []) := by
    intro z1 z2 ls hl hR
    rw [jf_Lw_stateAt_b60] at hR
    refine lv_aload_n hx hb dL_stateAt_60 rfl (lv_at hl 0 rfl) ?_
    refine lv_iconst (v := 1) hx hb dL_stateAt_61 (by decide) ?_
    by_cases c_6 : jin 1 6 = true
    case neg => replace hR := Eq.trans (Eq.symm (if_neg c_6)) hR; cases hR
    replace hR := Eq.trans (Eq.symm (if_pos c_6)) hR
    refine va_iald hx hb hK.1 hP 0 0 rfl rfl (jin_in c_6) dL_stateAt_62 ?_
    refine lv_iconst (v := 2) hx hb dL_stateAt_63 (by decide) ?_
    refine lv_idiv hx hb dL_stateAt_64 (by decide) ?_
    exact J65 z1 z2 ((v_r0 (1 : Int32).toNatClampNeg) / 2) _ (lv_sub hl [0, 1, 2] rfl) hR
  have J39 : ∀ (z1 : Int32) (s0 : Int32) (ls : Array Slot), lv_has ls 5 [(0, .ref a_r0), (1, .int z1)] → jf_Lw_stateAt_b39 v_r0 z1 s0 = some R → W p l e jr_Lw_stateAt s m ([.ref a_r0] : List Value).toArray below meth c s.heap [] 0 0 Q (F0 m 39 ls [.int s0]) := by
    intro z1 s0 ls hl hR
    rw [jf_Lw_stateAt_b39] at hR
    refine lv_istore_n (lv' := [(2, .int s0), (0, .ref a_r0), (1, .int z1)]) hx hb dL_stateAt_39 rfl hl (by decide) rfl (fun ls hl => ?_)
    refine lv_iload_n hx hb dL_stateAt_40 rfl (lv_at hl 2 rfl) ?_
    refine lv_if_ne (tgt := 60) hx hb dL_stateAt_41 (by decide) (fun c_5 => ?_) (fun c_5 => ?_)
    · replace hR := Eq.trans (Eq.symm (if_neg c_5)) hR
      exact J60 z1 s0 _ (lv_sub hl [1, 2, 0] rfl) hR
    · replace hR := Eq.trans (Eq.symm (if_pos c_5)) hR
      refine lv_aload_n hx hb dL_stateAt_44 rfl (lv_at hl 1 rfl) ?_
      refine lv_iconst (v := 3) hx hb dL_stateAt_45 (by decide) ?_
      by_cases c_16 : jin 3 6 = true
      case neg => replace hR := Eq.trans (Eq.symm (if_neg c_16)) hR; cases hR
      replace hR := Eq.trans (Eq.symm (if_pos c_16)) hR
      refine va_iald hx hb hK.1 hP 0 0 rfl rfl (jin_in c_16) dL_stateAt_46 ?_
      refine lv_if_ge (tgt := 60) hx hb dL_stateAt_47 (by decide) (fun c_17 => ?_) (fun c_17 => ?_)
      · replace hR := Eq.trans (Eq.symm (if_pos c_17)) hR
        exact J60 z1 s0 _ (lv_sub hl [1, 2, 0] rfl) hR
      · replace hR := Eq.trans (Eq.symm (if_neg c_17)) hR
        refine lv_aload_n hx hb dL_stateAt_50 rfl (lv_at hl 1 rfl) ?_
        refine lv_iconst (v := 1) hx hb dL_stateAt_51 (by decide) ?_
        by_cases c_18 : jin 1 6 = true
        case neg => replace hR := Eq.trans (Eq.symm (if_neg c_18)) hR; cases hR
        replace hR := Eq.trans (Eq.symm (if_pos c_18)) hR
        refine va_iald hx hb hK.1 hP 0 0 rfl rfl (jin_in c_18) dL_stateAt_52 ?_
        refine lv_iconst (v := 2) hx hb dL_stateAt_53 (by decide) ?_
        refine lv_idiv hx hb dL_stateAt_54 (by decide) ?_
        refine lv_iconst (v := 1) hx hb dL_stateAt_55 (by decide) ?_
        refine lv_isub hx hb dL_stateAt_56 ?_
        refine lv_goto (tgt := 65) hx hb dL_stateAt_57 (by decide) ?_
        exact J65 z1 s0 (((v_r0 (1 : Int32).toNatClampNeg) / 2) - 1) _ (lv_sub hl [1, 2, 0] rfl) hR
  have J34 : ∀ (z1 : Int32) (ls : Array Slot), lv_has ls 5 [(0, .ref a_r0), (1, .int z1)] → jf_Lw_stateAt_b34 v_r0 z1 = some R → W p l e jr_Lw_stateAt s m ([.ref a_r0] : List Value).toArray below meth c s.heap [] 0 0 Q (F0 m 34 ls []) := by
    intro z1 ls hl hR
    rw [jf_Lw_stateAt_b34] at hR
    refine lv_aload_n hx hb dL_stateAt_34 rfl (lv_at hl 0 rfl) ?_
    refine lv_iconst (v := 0) hx hb dL_stateAt_35 (by decide) ?_
    by_cases c_4 : jin 0 6 = true
    case neg => replace hR := Eq.trans (Eq.symm (if_neg c_4)) hR; cases hR
    replace hR := Eq.trans (Eq.symm (if_pos c_4)) hR
    refine va_iald hx hb hK.1 hP 0 0 rfl rfl (jin_in c_4) dL_stateAt_36 ?_
    refine lv_iconst (v := 2) hx hb dL_stateAt_37 (by decide) ?_
    refine lv_idiv hx hb dL_stateAt_38 (by decide) ?_
    exact J39 z1 ((v_r0 (0 : Int32).toNatClampNeg) / 2) _ (lv_sub hl [0, 1] rfl) hR
  have J13 : ∀ (s0 : Int32) (ls : Array Slot), lv_has ls 5 [(0, .ref a_r0)] → jf_Lw_stateAt_b13 v_r0 s0 = some R → W p l e jr_Lw_stateAt s m ([.ref a_r0] : List Value).toArray below meth c s.heap [] 0 0 Q (F0 m 13 ls [.int s0]) := by
    intro s0 ls hl hR
    rw [jf_Lw_stateAt_b13] at hR
    refine lv_istore_n (lv' := [(1, .int s0), (0, .ref a_r0)]) hx hb dL_stateAt_13 rfl hl (by decide) rfl (fun ls hl => ?_)
    refine lv_iload_n hx hb dL_stateAt_14 rfl (lv_at hl 0 rfl) ?_
    refine lv_if_eq (tgt := 34) hx hb dL_stateAt_15 (by decide) (fun c_3 => ?_) (fun c_3 => ?_)
    · replace hR := Eq.trans (Eq.symm (if_pos c_3)) hR
      exact J34 s0 _ (lv_sub hl [1, 0] rfl) hR
    · replace hR := Eq.trans (Eq.symm (if_neg c_3)) hR
      refine lv_aload_n hx hb dL_stateAt_18 rfl (lv_at hl 1 rfl) ?_
      refine lv_iconst (v := 2) hx hb dL_stateAt_19 (by decide) ?_
      by_cases c_19 : jin 2 6 = true
      case neg => replace hR := Eq.trans (Eq.symm (if_neg c_19)) hR; cases hR
      replace hR := Eq.trans (Eq.symm (if_pos c_19)) hR
      refine va_iald hx hb hK.1 hP 0 0 rfl rfl (jin_in c_19) dL_stateAt_20 ?_
      refine lv_if_ge (tgt := 34) hx hb dL_stateAt_21 (by decide) (fun c_20 => ?_) (fun c_20 => ?_)
      · replace hR := Eq.trans (Eq.symm (if_pos c_20)) hR
        exact J34 s0 _ (lv_sub hl [1, 0] rfl) hR
      · replace hR := Eq.trans (Eq.symm (if_neg c_20)) hR
        refine lv_aload_n hx hb dL_stateAt_24 rfl (lv_at hl 1 rfl) ?_
        refine lv_iconst (v := 0) hx hb dL_stateAt_25 (by decide) ?_
        by_cases c_21 : jin 0 6 = true
        case neg => replace hR := Eq.trans (Eq.symm (if_neg c_21)) hR; cases hR
        replace hR := Eq.trans (Eq.symm (if_pos c_21)) hR
        refine va_iald hx hb hK.1 hP 0 0 rfl rfl (jin_in c_21) dL_stateAt_26 ?_
        refine lv_iconst (v := 2) hx hb dL_stateAt_27 (by decide) ?_
        refine lv_idiv hx hb dL_stateAt_28 (by decide) ?_
        refine lv_iconst (v := 1) hx hb dL_stateAt_29 (by decide) ?_
        refine lv_isub hx hb dL_stateAt_30 ?_
        refine lv_goto (tgt := 39) hx hb dL_stateAt_31 (by decide) ?_
        exact J39 s0 (((v_r0 (0 : Int32).toNatClampNeg) / 2) - 1) _ (lv_sub hl [1, 0] rfl) hR
  rw [jf_Lw_stateAt] at hR
  refine lv_aload_n hx hb dL_stateAt_0 rfl (lv_at hl 0 rfl) ?_
  refine lv_iconst (v := 0) hx hb dL_stateAt_1 (by decide) ?_
  by_cases c_1 : jin 0 6 = true
  case neg => replace hR := Eq.trans (Eq.symm (if_neg c_1)) hR; cases hR
  replace hR := Eq.trans (Eq.symm (if_pos c_1)) hR
  refine va_iald hx hb hK.1 hP 0 0 rfl rfl (jin_in c_1) dL_stateAt_2 ?_
  refine lv_iconst (v := 2) hx hb dL_stateAt_3 (by decide) ?_
  refine lv_irem hx hb dL_stateAt_4 (by decide) ?_
  refine lv_if_ne (tgt := 12) hx hb dL_stateAt_5 (by decide) (fun c_2 => ?_) (fun c_2 => ?_)
  · replace hR := Eq.trans (Eq.symm (if_neg c_2)) hR
    refine lv_iconst (v := 0) hx hb dL_stateAt_12 (by decide) ?_
    exact J13 0 _ (lv_sub hl [0] rfl) hR
  · replace hR := Eq.trans (Eq.symm (if_pos c_2)) hR
    refine lv_iconst (v := 1) hx hb dL_stateAt_8 (by decide) ?_
    refine lv_goto (tgt := 13) hx hb dL_stateAt_9 (by decide) ?_
    exact J13 1 _ (lv_sub hl [0] rfl) hR
def jf_Lw_isHidden_b97 (self : Int32 → Option (Unit ⊕ Unit)) (z0 : Int32) (z1 : Int32) (z2 : Int32) (z3 : Int64) (z5 : Int32) (z6 : Int32) : Option (Unit ⊕ Unit) :=
  self (z6 + 1)
def jf_Lw_isHidden_L46 (z0 : Int32) (z1 : Int32) (z2 : Int32) (z3 : Int64) (z5 : Int32) : Nat → Int32 → Option (Unit ⊕ Unit)
  | 0, _ => none
  | n + 1, z6 =>
    if z2 = 0 then none else if z1 / z2 < z6 then (some (.inr ())) else (if z5 < 0 then (jf_Lw_isHidden_b97 (jf_Lw_isHidden_L46 z0 z1 z2 z3 z5 n) z0 z1 z2 z3 z5 z6) else (if z6 < 0 then (jf_Lw_isHidden_b97 (jf_Lw_isHidden_L46 z0 z1 z2 z3 z5 n) z0 z1 z2 z3 z5 z6) else (if 8 ≤ z5 then (jf_Lw_isHidden_b97 (jf_Lw_isHidden_L46 z0 z1 z2 z3 z5 n) z0 z1 z2 z3 z5 z6) else (if 8 ≤ z6 then (jf_Lw_isHidden_b97 (jf_Lw_isHidden_L46 z0 z1 z2 z3 z5 n) z0 z1 z2 z3 z5 z6) else (if lg_cmp ((jlshr z3 ((8 * z6) + z5)) &&& 1) 1 = 0 then (some (.inl ())) else (jf_Lw_isHidden_b97 (jf_Lw_isHidden_L46 z0 z1 z2 z3 z5 n) z0 z1 z2 z3 z5 z6))))))
def jf_Lw_isHidden_b44 (self : Int32 → Option (Unit ⊕ Unit)) (z0 : Int32) (z1 : Int32) (z2 : Int32) (z3 : Int64) (z5 : Int32) (s0 : Int32) : Option (Unit ⊕ Unit) :=
  Option.bind (jf_Lw_isHidden_L46 z0 z1 z2 z3 z5 jF s0) (fun q_1 => jsum (fun o_1 => some (.inl ())) (fun o_2 => self (z5 + 1)) q_1)
def jf_Lw_isHidden_L19 (z0 : Int32) (z1 : Int32) (z2 : Int32) (z3 : Int64) : Nat → Int32 → Option (Unit ⊕ Unit)
  | 0, _ => none
  | n + 1, z5 =>
    if z2 = 0 then none else if z0 / z2 < z5 then (some (.inr ())) else (if z2 = 0 then none else if z1 - z1 / z2 * z2 = 0 then (if z2 = 0 then none else jf_Lw_isHidden_b44 (jf_Lw_isHidden_L19 z0 z1 z2 z3 n) z0 z1 z2 z3 z5 ((z1 / z2) - 1)) else (if z2 = 0 then none else jf_Lw_isHidden_b44 (jf_Lw_isHidden_L19 z0 z1 z2 z3 n) z0 z1 z2 z3 z5 (z1 / z2)))
def jf_Lw_isHidden_b17 (z0 : Int32) (z1 : Int32) (z2 : Int32) (z3 : Int64) (s0 : Int32) : Option Int32 :=
  Option.bind (jf_Lw_isHidden_L19 z0 z1 z2 z3 jF s0) (fun q_2 => jsum (fun o_3 => some 1) (fun o_4 => some 0) q_2)
def jf_Lw_isHidden (x0 : Int32) (x1 : Int32) (x2 : Int32) (x3 : Int64) : Option Int32 :=
  if x2 = 0 then none else if x0 - x0 / x2 * x2 = 0 then (if x2 = 0 then none else jf_Lw_isHidden_b17 x0 x1 x2 x3 ((x0 / x2) - 1)) else (if x2 = 0 then none else jf_Lw_isHidden_b17 x0 x1 x2 x3 (x0 / x2))
abbrev jr_Lw_isHidden : Room := { frames := 0, cells := 0, slots := 0, locals := 0 }
set_option maxRecDepth 100000 in
set_option maxHeartbeats 4000000 in
theorem jc_Lw_isHidden (l : Launch) (g : jG) (x0 : Int32) (x1 : Int32) (x2 : Int32) (x3 : Int64) (R : Int32) (hR : jf_Lw_isHidden x0 x1 x2 x3 = some R) : Met l yL_isHidden wsL_isHidden jr_Lw_isHidden (jPr g [.int x0, .int x1, .int x2, .long x3] ([])) (vp_Si (fun r => r = R)) 0 0 (fun _ => False) := by
  refine jm_rz (cc := cL_isHidden) (maxL := 7) (by decide +kernel) rfl (Nat.le_of_ble_eq_true rfl) ?_
  intro p e s m below meth c Q hx hb hml hown hts hK hP fin ls hl
  have hl : lv_has ls 7 [(0, .int x0), (1, .int x1), (2, .int x2), (3, .long x3)] := hl
  have hown : s.vm.findClass RL = some m.cls := hown
  have L19 : ∀ (n : Nat) (z0 : Int32) (z1 : Int32) (z2 : Int32) (z3 : Int64) (z5 : Int32) (ls : Array Slot), lv_has ls 7 [(0, .int z0), (1, .int z1), (2, .int z2), (3, .long z3), (5, .int z5)] → ∀ q, jf_Lw_isHidden_L19 z0 z1 z2 z3 n z5 = some q → ((∀ o, q = .inl o → ∀ ls : Array Slot, lv_has ls 7 [] → W p l e jr_Lw_isHidden s m ([.int x0, .int x1, .int x2, .long x3] : List Value).toArray below meth c s.heap [] 0 0 Q (F0 m 95 ls [])) ∧ (∀ o, q = .inr o → ∀ ls : Array Slot, lv_has ls 7 [] → W p l e jr_Lw_isHidden s m ([.int x0, .int x1, .int x2, .long x3] : List Value).toArray below meth c s.heap [] 0 0 Q (F0 m 109 ls []))) → W p l e jr_Lw_isHidden s m ([.int x0, .int x1, .int x2, .long x3] : List Value).toArray below meth c s.heap [] 0 0 Q (F0 m 19 ls []) := by
    intro n z0 z1 z2 z3
    induction n with
    | zero =>
      intro z5 ls hl q hR k
      cases hR
    | succ n ih =>
      have L46 : ∀ (n : Nat) (z0 : Int32) (z1 : Int32) (z2 : Int32) (z3 : Int64) (z5 : Int32) (z6 : Int32) (ls : Array Slot), lv_has ls 7 [(0, .int z0), (1, .int z1), (2, .int z2), (3, .long z3), (5, .int z5), (6, .int z6)] → ∀ q, jf_Lw_isHidden_L46 z0 z1 z2 z3 z5 n z6 = some q → ((∀ o, q = .inl o → ∀ ls : Array Slot, lv_has ls 7 [] → W p l e jr_Lw_isHidden s m ([.int x0, .int x1, .int x2, .long x3] : List Value).toArray below meth c s.heap [] 0 0 Q (F0 m 95 ls [])) ∧ (∀ o, q = .inr o → ∀ ls : Array Slot, lv_has ls 7 [(0, .int z0), (1, .int z1), (2, .int z2), (3, .long z3), (5, .int z5)] → W p l e jr_Lw_isHidden s m ([.int x0, .int x1, .int x2, .long x3] : List Value).toArray below meth c s.heap [] 0 0 Q (F0 m 103 ls []))) → W p l e jr_Lw_isHidden s m ([.int x0, .int x1, .int x2, .long x3] : List Value).toArray below meth c s.heap [] 0 0 Q (F0 m 46 ls []) := by
        intro n z0 z1 z2 z3 z5
        induction n with
        | zero =>
          intro z6 ls hl q hR k
          cases hR
        | succ n ih =>
          have J97 : ∀ (z6 : Int32) (ls : Array Slot), lv_has ls 7 [(0, .int z0), (1, .int z1), (2, .int z2), (3, .long z3), (5, .int z5), (6, .int z6)] → ∀ q, jf_Lw_isHidden_b97 (jf_Lw_isHidden_L46 z0 z1 z2 z3 z5 n) z0 z1 z2 z3 z5 z6 = some q → ((∀ o, q = .inl o → ∀ ls : Array Slot, lv_has ls 7 [] → W p l e jr_Lw_isHidden s m ([.int x0, .int x1, .int x2, .long x3] : List Value).toArray below meth c s.heap [] 0 0 Q (F0 m 95 ls [])) ∧ (∀ o, q = .inr o → ∀ ls : Array Slot, lv_has ls 7 [(0, .int z0), (1, .int z1), (2, .int z2), (3, .long z3), (5, .int z5)] → W p l e jr_Lw_isHidden s m ([.int x0, .int x1, .int x2, .long x3] : List Value).toArray below meth c s.heap [] 0 0 Q (F0 m 103 ls []))) → W p l e jr_Lw_isHidden s m ([.int x0, .int x1, .int x2, .long x3] : List Value).toArray below meth c s.heap [] 0 0 Q (F0 m 97 ls []) := by
            intro z6 ls hl q hR k
            rw [jf_Lw_isHidden_b97] at hR
            refine lv_iinc (v := z6 + 1) (lv' := [(6, .int (z6 + 1)), (0, .int z0), (1, .int z1), (2, .int z2), (3, .long z3), (5, .int z5)]) hx hb dL_isHidden_97 hl (k := 5) rfl (by first | rfl | decide) (by decide) rfl (fun ls hl => ?_)
            refine lv_goto (tgt := 46) hx hb dL_isHidden_100 (by decide) ?_
            exact ih (z6 + 1) _ (lv_sub hl [1, 2, 3, 4, 5, 0] rfl) _ hR k
          intro z6 ls hl q hR k
          rw [jf_Lw_isHidden_L46] at hR
          refine lv_iload hx hb dL_isHidden_46 (lv_at hl 5 rfl) ?_
          refine lv_iload_n hx hb dL_isHidden_48 rfl (lv_at hl 1 rfl) ?_
          refine lv_iload_n hx hb dL_isHidden_49 rfl (lv_at hl 2 rfl) ?_
          by_cases c_9 : z2 = 0
          · replace hR := Eq.trans (Eq.symm (if_pos c_9)) hR
            cases hR
          replace hR := Eq.trans (Eq.symm (if_neg c_9)) hR
          refine lv_idiv hx hb dL_isHidden_50 c_9 ?_
          refine lv_icmp_gt (tgt := 103) hx hb dL_isHidden_51 (by decide) (fun c_10 => ?_) (fun c_10 => ?_)
          · replace hR := Eq.trans (Eq.symm (if_pos c_10)) hR
            cases hR
            exact k.2 _ rfl _ (lv_sub hl [0, 1, 2, 3, 4] rfl)
          · replace hR := Eq.trans (Eq.symm (if_neg c_10)) hR
            refine lv_iload hx hb dL_isHidden_54 (lv_at hl 4 rfl) ?_
            refine lv_if_lt (tgt := 97) hx hb dL_isHidden_56 (by decide) (fun c_11 => ?_) (fun c_11 => ?_)
            · replace hR := Eq.trans (Eq.symm (if_pos c_11)) hR
              exact J97 z6 _ (lv_sub hl [0, 1, 2, 3, 4, 5] rfl) _ hR k
            · replace hR := Eq.trans (Eq.symm (if_neg c_11)) hR
              refine lv_iload hx hb dL_isHidden_59 (lv_at hl 5 rfl) ?_
              refine lv_if_lt (tgt := 97) hx hb dL_isHidden_61 (by decide) (fun c_12 => ?_) (fun c_12 => ?_)
              · replace hR := Eq.trans (Eq.symm (if_pos c_12)) hR
                exact J97 z6 _ (lv_sub hl [0, 1, 2, 3, 4, 5] rfl) _ hR k
              · replace hR := Eq.trans (Eq.symm (if_neg c_12)) hR
                refine lv_iload hx hb dL_isHidden_64 (lv_at hl 4 rfl) ?_
                refine lv_bipush (v := 8) hx hb dL_isHidden_66 (by decide) ?_
                refine lv_icmp_ge (tgt := 97) hx hb dL_isHidden_68 (by decide) (fun c_13 => ?_) (fun c_13 => ?_)
                · replace hR := Eq.trans (Eq.symm (if_pos c_13)) hR
                  exact J97 z6 _ (lv_sub hl [0, 1, 2, 3, 4, 5] rfl) _ hR k
                · replace hR := Eq.trans (Eq.symm (if_neg c_13)) hR
                  refine lv_iload hx hb dL_isHidden_71 (lv_at hl 5 rfl) ?_
                  refine lv_bipush (v := 8) hx hb dL_isHidden_73 (by decide) ?_
                  refine lv_icmp_ge (tgt := 97) hx hb dL_isHidden_75 (by decide) (fun c_14 => ?_) (fun c_14 => ?_)
                  · replace hR := Eq.trans (Eq.symm (if_pos c_14)) hR
                    exact J97 z6 _ (lv_sub hl [0, 1, 2, 3, 4, 5] rfl) _ hR k
                  · replace hR := Eq.trans (Eq.symm (if_neg c_14)) hR
                    refine lv_lload_n hx hb dL_isHidden_78 rfl (lv_at hl 3 rfl) ?_
                    refine lv_bipush (v := 8) hx hb dL_isHidden_79 (by decide) ?_
                    refine lv_iload hx hb dL_isHidden_81 (lv_at hl 5 rfl) ?_
                    refine lv_imul hx hb dL_isHidden_83 ?_
                    refine lv_iload hx hb dL_isHidden_84 (lv_at hl 4 rfl) ?_
                    refine lv_iadd hx hb dL_isHidden_86 ?_
                    refine lv_lshr (v := jlshr z3 ((8 * z6) + z5)) hx hb dL_isHidden_87 rfl ?_
                    refine lv_lconst (v := 1) hx hb dL_isHidden_88 (by decide) ?_
                    refine lv_land hx hb dL_isHidden_89 ?_
                    refine lv_lconst (v := 1) hx hb dL_isHidden_90 (by decide) ?_
                    refine W.lcmp hx hb dL_isHidden_91 ?_
                    refine lv_if_ne (tgt := 97) hx hb dL_isHidden_92 (by decide) (fun c_15 => ?_) (fun c_15 => ?_)
                    · replace hR := Eq.trans (Eq.symm (if_neg c_15)) hR
                      exact J97 z6 _ (lv_sub hl [0, 1, 2, 3, 4, 5] rfl) _ hR k
                    · replace hR := Eq.trans (Eq.symm (if_pos c_15)) hR
                      cases hR
                      exact k.1 _ rfl _ (lv_sub hl [] rfl)
      have J44 : ∀ (z5 : Int32) (s0 : Int32) (ls : Array Slot), lv_has ls 7 [(0, .int z0), (1, .int z1), (2, .int z2), (3, .long z3), (5, .int z5)] → ∀ q, jf_Lw_isHidden_b44 (jf_Lw_isHidden_L19 z0 z1 z2 z3 n) z0 z1 z2 z3 z5 s0 = some q → ((∀ o, q = .inl o → ∀ ls : Array Slot, lv_has ls 7 [] → W p l e jr_Lw_isHidden s m ([.int x0, .int x1, .int x2, .long x3] : List Value).toArray below meth c s.heap [] 0 0 Q (F0 m 95 ls [])) ∧ (∀ o, q = .inr o → ∀ ls : Array Slot, lv_has ls 7 [] → W p l e jr_Lw_isHidden s m ([.int x0, .int x1, .int x2, .long x3] : List Value).toArray below meth c s.heap [] 0 0 Q (F0 m 109 ls []))) → W p l e jr_Lw_isHidden s m ([.int x0, .int x1, .int x2, .long x3] : List Value).toArray below meth c s.heap [] 0 0 Q (F0 m 44 ls [.int s0]) := by
        intro z5 s0 ls hl q hR k
        rw [jf_Lw_isHidden_b44] at hR
        refine lv_istore (lv' := [(6, .int s0), (0, .int z0), (1, .int z1), (2, .int z2), (3, .long z3), (5, .int z5)]) hx hb dL_isHidden_44 hl (by decide) rfl (fun ls hl => ?_)
        obtain ⟨q_1, hq_1, hR⟩ := jbind hR
        refine L46 jF z0 z1 z2 z3 z5 s0 _ (lv_sub hl [1, 2, 3, 4, 5, 0] rfl) _ hq_1 ⟨fun o_1 ho ls hl => ?_, fun o_2 ho ls hl => ?_⟩
        · rw [ho] at hR
          try dsimp only [jsum] at hR
          cases hR
          exact k.1 _ rfl _ (lv_sub hl [] rfl)
        · rw [ho] at hR
          try dsimp only [jsum] at hR
          refine lv_iinc (v := z5 + 1) (lv' := [(5, .int (z5 + 1)), (0, .int z0), (1, .int z1), (2, .int z2), (3, .long z3)]) hx hb dL_isHidden_103 hl (k := 4) rfl (by first | rfl | decide) (by decide) rfl (fun ls hl => ?_)
          refine lv_goto (tgt := 19) hx hb dL_isHidden_106 (by decide) ?_
          exact ih (z5 + 1) _ (lv_sub hl [1, 2, 3, 4, 0] rfl) _ hR k
      intro z5 ls hl q hR k
      rw [jf_Lw_isHidden_L19] at hR
      refine lv_iload hx hb dL_isHidden_19 (lv_at hl 4 rfl) ?_
      refine lv_iload_n hx hb dL_isHidden_21 rfl (lv_at hl 0 rfl) ?_
      refine lv_iload_n hx hb dL_isHidden_22 rfl (lv_at hl 2 rfl) ?_
      by_cases c_4 : z2 = 0
      · replace hR := Eq.trans (Eq.symm (if_pos c_4)) hR
        cases hR
      replace hR := Eq.trans (Eq.symm (if_neg c_4)) hR
      refine lv_idiv hx hb dL_isHidden_23 c_4 ?_
      refine lv_icmp_gt (tgt := 109) hx hb dL_isHidden_24 (by decide) (fun c_5 => ?_) (fun c_5 => ?_)
      · replace hR := Eq.trans (Eq.symm (if_pos c_5)) hR
        cases hR
        exact k.2 _ rfl _ (lv_sub hl [] rfl)
      · replace hR := Eq.trans (Eq.symm (if_neg c_5)) hR
        refine lv_iload_n hx hb dL_isHidden_27 rfl (lv_at hl 1 rfl) ?_
        refine lv_iload_n hx hb dL_isHidden_28 rfl (lv_at hl 2 rfl) ?_
        by_cases c_6 : z2 = 0
        · replace hR := Eq.trans (Eq.symm (if_pos c_6)) hR
          cases hR
        replace hR := Eq.trans (Eq.symm (if_neg c_6)) hR
        refine lv_irem hx hb dL_isHidden_29 c_6 ?_
        refine lv_if_ne (tgt := 41) hx hb dL_isHidden_30 (by decide) (fun c_7 => ?_) (fun c_7 => ?_)
        · replace hR := Eq.trans (Eq.symm (if_neg c_7)) hR
          refine lv_iload_n hx hb dL_isHidden_41 rfl (lv_at hl 1 rfl) ?_
          refine lv_iload_n hx hb dL_isHidden_42 rfl (lv_at hl 2 rfl) ?_
          by_cases c_8 : z2 = 0
          · replace hR := Eq.trans (Eq.symm (if_pos c_8)) hR
            cases hR
          replace hR := Eq.trans (Eq.symm (if_neg c_8)) hR
          refine lv_idiv hx hb dL_isHidden_43 c_8 ?_
          exact J44 z5 (z1 / z2) _ (lv_sub hl [0, 1, 2, 3, 4] rfl) _ hR k
        · replace hR := Eq.trans (Eq.symm (if_pos c_7)) hR
          refine lv_iload_n hx hb dL_isHidden_33 rfl (lv_at hl 1 rfl) ?_
          refine lv_iload_n hx hb dL_isHidden_34 rfl (lv_at hl 2 rfl) ?_
          by_cases c_16 : z2 = 0
          · replace hR := Eq.trans (Eq.symm (if_pos c_16)) hR
            cases hR
          replace hR := Eq.trans (Eq.symm (if_neg c_16)) hR
          refine lv_idiv hx hb dL_isHidden_35 c_16 ?_
          refine lv_iconst (v := 1) hx hb dL_isHidden_36 (by decide) ?_
          refine lv_isub hx hb dL_isHidden_37 ?_
          refine lv_goto (tgt := 44) hx hb dL_isHidden_38 (by decide) ?_
          exact J44 z5 ((z1 / z2) - 1) _ (lv_sub hl [0, 1, 2, 3, 4] rfl) _ hR k
  have J17 : ∀ (z0 : Int32) (z1 : Int32) (z2 : Int32) (z3 : Int64) (s0 : Int32) (ls : Array Slot), lv_has ls 7 [(0, .int z0), (1, .int z1), (2, .int z2), (3, .long z3)] → jf_Lw_isHidden_b17 z0 z1 z2 z3 s0 = some R → W p l e jr_Lw_isHidden s m ([.int x0, .int x1, .int x2, .long x3] : List Value).toArray below meth c s.heap [] 0 0 Q (F0 m 17 ls [.int s0]) := by
    intro z0 z1 z2 z3 s0 ls hl hR
    rw [jf_Lw_isHidden_b17] at hR
    refine lv_istore (lv' := [(5, .int s0), (0, .int z0), (1, .int z1), (2, .int z2), (3, .long z3)]) hx hb dL_isHidden_17 hl (by decide) rfl (fun ls hl => ?_)
    obtain ⟨q_2, hq_2, hR⟩ := jbind hR
    refine L19 jF z0 z1 z2 z3 s0 _ (lv_sub hl [1, 2, 3, 4, 0] rfl) _ hq_2 ⟨fun o_3 ho ls hl => ?_, fun o_4 ho ls hl => ?_⟩
    · rw [ho] at hR
      try dsimp only [jsum] at hR
      refine lv_iconst (v := 1) hx hb dL_isHidden_95 (by decide) ?_
      exact fin _ _ _ (Eq.trans (by decide) (Option.some.inj hR)) dL_isHidden_96
    · rw [ho] at hR
      try dsimp only [jsum] at hR
      refine lv_iconst (v := 0) hx hb dL_isHidden_109 (by decide) ?_
      exact fin _ _ _ (Eq.trans (by decide) (Option.some.inj hR)) dL_isHidden_110
  rw [jf_Lw_isHidden] at hR
  refine lv_iload_n hx hb dL_isHidden_0 rfl (lv_at hl 0 rfl) ?_
  refine lv_iload_n hx hb dL_isHidden_1 rfl (lv_at hl 2 rfl) ?_
  by_cases c_1 : x2 = 0
  · replace hR := Eq.trans (Eq.symm (if_pos c_1)) hR
    cases hR
  replace hR := Eq.trans (Eq.symm (if_neg c_1)) hR
  refine lv_irem hx hb dL_isHidden_2 c_1 ?_
  refine lv_if_ne (tgt := 14) hx hb dL_isHidden_3 (by decide) (fun c_2 => ?_) (fun c_2 => ?_)
  · replace hR := Eq.trans (Eq.symm (if_neg c_2)) hR
    refine lv_iload_n hx hb dL_isHidden_14 rfl (lv_at hl 0 rfl) ?_
    refine lv_iload_n hx hb dL_isHidden_15 rfl (lv_at hl 2 rfl) ?_
    by_cases c_3 : x2 = 0
    · replace hR := Eq.trans (Eq.symm (if_pos c_3)) hR
      cases hR
    replace hR := Eq.trans (Eq.symm (if_neg c_3)) hR
    refine lv_idiv hx hb dL_isHidden_16 c_3 ?_
    exact J17 x0 x1 x2 x3 (x0 / x2) _ (lv_sub hl [0, 1, 2, 3] rfl) hR
  · replace hR := Eq.trans (Eq.symm (if_pos c_2)) hR
    refine lv_iload_n hx hb dL_isHidden_6 rfl (lv_at hl 0 rfl) ?_
    refine lv_iload_n hx hb dL_isHidden_7 rfl (lv_at hl 2 rfl) ?_
    by_cases c_17 : x2 = 0
    · replace hR := Eq.trans (Eq.symm (if_pos c_17)) hR
      cases hR
    replace hR := Eq.trans (Eq.symm (if_neg c_17)) hR
    refine lv_idiv hx hb dL_isHidden_8 c_17 ?_
    refine lv_iconst (v := 1) hx hb dL_isHidden_9 (by decide) ?_
    refine lv_isub hx hb dL_isHidden_10 ?_
    refine lv_goto (tgt := 17) hx hb dL_isHidden_11 (by decide) ?_
    exact J17 x0 x1 x2 x3 ((x0 / x2) - 1) _ (lv_sub hl [0, 1, 2, 3] rfl) hR
def jf_Lw_isSight_b112 (self : Int32 → Option (Unit ⊕ Unit)) (z0 : Int32) (z1 : Int32) (z4 : Int64) (z6 : Int32) (z7 : Int32) (z8 : Int32) (z9 : Int32) (z10 : Int32) (z11 : Int32) (s0 : Int32) (s1 : Int32) : Option (Unit ⊕ Unit) :=
  Option.bind (jf_Lw_isHidden ((s0 + s1) * z8) z11 (2 * z8) z4) (fun q_1 => if q_1 = 0 then (self (z10 + 2)) else (some (.inl ())))
def jf_Lw_isSight_L69 (z0 : Int32) (z1 : Int32) (z4 : Int64) (z6 : Int32) (z7 : Int32) (z8 : Int32) (z9 : Int32) : Nat → Int32 → Option (Unit ⊕ Unit)
  | 0, _ => none
  | n + 1, z10 =>
    if z8 ≤ z10 then (some (.inr ())) else (jlet ((((2 * z1) + 1) * z8) + ((2 * z7) * z10)) (fun y11_1 => if 0 ≤ z6 then (jf_Lw_isSight_b112 (jf_Lw_isSight_L69 z0 z1 z4 z6 z7 z8 z9 n) z0 z1 z4 z6 z7 z8 z9 z10 y11_1 ((2 * z0) + 1) z10) else (jf_Lw_isSight_b112 (jf_Lw_isSight_L69 z0 z1 z4 z6 z7 z8 z9 n) z0 z1 z4 z6 z7 z8 z9 z10 y11_1 ((2 * z0) + 1) (-z10))))
def jf_Lw_isSight_b186 (self : Int32 → Option (Unit ⊕ Unit)) (z0 : Int32) (z1 : Int32) (z4 : Int64) (z6 : Int32) (z7 : Int32) (z9 : Int32) (z10 : Int32) (s0 : Int32) (s1 : Int32) (s2 : Int32) : Option (Unit ⊕ Unit) :=
  Option.bind (jf_Lw_isHidden s0 ((s1 + s2) * z9) (2 * z9) z4) (fun q_3 => if q_3 = 0 then (self (z10 + 2)) else (some (.inl ())))
def jf_Lw_isSight_L141 (z0 : Int32) (z1 : Int32) (z4 : Int64) (z6 : Int32) (z7 : Int32) (z9 : Int32) : Nat → Int32 → Option (Unit ⊕ Unit)
  | 0, _ => none
  | n + 1, z10 =>
    if z9 ≤ z10 then (some (.inr ())) else (jlet ((((2 * z0) + 1) * z9) + ((2 * z6) * z10)) (fun y11_2 => if 0 ≤ z7 then (jf_Lw_isSight_b186 (jf_Lw_isSight_L141 z0 z1 z4 z6 z7 z9 n) z0 z1 z4 z6 z7 z9 z10 y11_2 ((2 * z1) + 1) z10) else (jf_Lw_isSight_b186 (jf_Lw_isSight_L141 z0 z1 z4 z6 z7 z9 n) z0 z1 z4 z6 z7 z9 z10 y11_2 ((2 * z1) + 1) (-z10))))
def jf_Lw_isSight_b63 (z0 : Int32) (z1 : Int32) (z4 : Int64) (z6 : Int32) (z7 : Int32) (z8 : Int32) (s0 : Int32) (s1 : Int32) : Option Int32 :=
  jlet (s0 * s1) (fun y9_1 => Option.bind (jf_Lw_isSight_L69 z0 z1 z4 z6 z7 z8 y9_1 jF 1) (fun q_2 => jsum (fun o_1 => some 0) (fun o_2 => Option.bind (jf_Lw_isSight_L141 z0 z1 z4 z6 z7 y9_1 jF 1) (fun q_4 => jsum (fun o_3 => some 0) (fun o_4 => some 1) q_4)) q_2))
def jf_Lw_isSight_b46 (z0 : Int32) (z1 : Int32) (z4 : Int64) (z6 : Int32) (z7 : Int32) (s0 : Int32) (s1 : Int32) : Option Int32 :=
  jlet (s0 * s1) (fun y8_1 => if 0 ≤ z7 then (jf_Lw_isSight_b63 z0 z1 z4 z6 z7 y8_1 2 z7) else (jf_Lw_isSight_b63 z0 z1 z4 z6 z7 y8_1 2 (-z7)))
def jf_Lw_isSight (x0 : Int32) (x1 : Int32) (x2 : Int32) (x3 : Int32) (x4 : Int64) : Option Int32 :=
  if (jf_Lw_isFloor x0 x1 x4) = 0 then (some 0) else (if (jf_Lw_isFloor x2 x3 x4) = 0 then (some 0) else (jlet (x2 - x0) (fun y6_1 => jlet (x3 - x1) (fun y7_1 => if 0 ≤ y6_1 then (jf_Lw_isSight_b46 x0 x1 x4 y6_1 y7_1 2 y6_1) else (jf_Lw_isSight_b46 x0 x1 x4 y6_1 y7_1 2 (-y6_1))))))
abbrev jr_Lw_isSight : Room := { frames := 1, cells := 0, slots := 0, locals := 26 }
set_option maxRecDepth 100000 in
set_option maxHeartbeats 4000000 in
theorem jc_Lw_isSight (l : Launch) (g : jG) (x0 : Int32) (x1 : Int32) (x2 : Int32) (x3 : Int32) (x4 : Int64) (R : Int32) (hR : jf_Lw_isSight x0 x1 x2 x3 x4 = some R) : Met l yL_isSight wsL_isSight jr_Lw_isSight (jPr g [.int x0, .int x1, .int x2, .int x3, .long x4] ([])) (vp_Si (fun r => r = R)) 0 0 (fun _ => False) := by
  refine jm_rz (cc := cL_isSight) (maxL := 12) (by decide +kernel) rfl (Nat.le_of_ble_eq_true rfl) ?_
  intro p e s m below meth c Q hx hb hml hown hts hK hP fin ls hl
  have hl : lv_has ls 12 [(0, .int x0), (1, .int x1), (2, .int x2), (3, .int x3), (4, .long x4)] := hl
  have hown : s.vm.findClass RL = some m.cls := hown
  have L69 : ∀ (n : Nat) (z0 : Int32) (z1 : Int32) (z4 : Int64) (z6 : Int32) (z7 : Int32) (z8 : Int32) (z9 : Int32) (z10 : Int32) (ls : Array Slot), lv_has ls 12 [(0, .int z0), (1, .int z1), (4, .long z4), (6, .int z6), (7, .int z7), (8, .int z8), (9, .int z9), (10, .int z10)] → ∀ q, jf_Lw_isSight_L69 z0 z1 z4 z6 z7 z8 z9 n z10 = some q → ((∀ o, q = .inl o → ∀ ls : Array Slot, lv_has ls 12 [] → W p l e jr_Lw_isSight s m ([.int x0, .int x1, .int x2, .int x3, .long x4] : List Value).toArray below meth c s.heap [] 0 0 Q (F0 m 130 ls [])) ∧ (∀ o, q = .inr o → ∀ ls : Array Slot, lv_has ls 12 [(0, .int z0), (1, .int z1), (4, .long z4), (6, .int z6), (7, .int z7), (9, .int z9)] → W p l e jr_Lw_isSight s m ([.int x0, .int x1, .int x2, .int x3, .long x4] : List Value).toArray below meth c s.heap [] 0 0 Q (F0 m 138 ls []))) → W p l e jr_Lw_isSight s m ([.int x0, .int x1, .int x2, .int x3, .long x4] : List Value).toArray below meth c s.heap [] 0 0 Q (F0 m 69 ls []) := by
    intro n z0 z1 z4 z6 z7 z8 z9
    induction n with
    | zero =>
      intro z10 ls hl q hR k
      cases hR
    | succ n ih =>
      have J112 : ∀ (z10 : Int32) (z11 : Int32) (s0 : Int32) (s1 : Int32) (ls : Array Slot), lv_has ls 12 [(0, .int z0), (1, .int z1), (4, .long z4), (6, .int z6), (7, .int z7), (8, .int z8), (9, .int z9), (10, .int z10), (11, .int z11)] → ∀ q, jf_Lw_isSight_b112 (jf_Lw_isSight_L69 z0 z1 z4 z6 z7 z8 z9 n) z0 z1 z4 z6 z7 z8 z9 z10 z11 s0 s1 = some q → ((∀ o, q = .inl o → ∀ ls : Array Slot, lv_has ls 12 [] → W p l e jr_Lw_isSight s m ([.int x0, .int x1, .int x2, .int x3, .long x4] : List Value).toArray below meth c s.heap [] 0 0 Q (F0 m 130 ls [])) ∧ (∀ o, q = .inr o → ∀ ls : Array Slot, lv_has ls 12 [(0, .int z0), (1, .int z1), (4, .long z4), (6, .int z6), (7, .int z7), (9, .int z9)] → W p l e jr_Lw_isSight s m ([.int x0, .int x1, .int x2, .int x3, .long x4] : List Value).toArray below meth c s.heap [] 0 0 Q (F0 m 138 ls []))) → W p l e jr_Lw_isSight s m ([.int x0, .int x1, .int x2, .int x3, .long x4] : List Value).toArray below meth c s.heap [] 0 0 Q (F0 m 112 ls [.int s1, .int s0]) := by
        intro z10 z11 s0 s1 ls hl q hR k
        rw [jf_Lw_isSight_b112] at hR
        refine lv_iadd hx hb dL_isSight_112 ?_
        refine lv_iload hx hb dL_isSight_113 (lv_at hl 5 rfl) ?_
        refine lv_imul hx hb dL_isSight_115 ?_
        refine lv_iload hx hb dL_isSight_116 (lv_at hl 8 rfl) ?_
        refine lv_iconst (v := 2) hx hb dL_isSight_118 (by decide) ?_
        refine lv_iload hx hb dL_isSight_119 (lv_at hl 5 rfl) ?_
        refine lv_imul hx hb dL_isSight_121 ?_
        refine lv_lload hx hb dL_isSight_122 (lv_at hl 2 rfl) ?_
        obtain ⟨q_1, hq_1, hR⟩ := jbind hR
        try dsimp only at hR
        refine jcall_ri (va_runS (As := [.int ((s0 + s1) * z8), .int z11, .int (2 * z8), .long z4]) (rest := []) ⟨hx, hb, hml, hown, hts⟩ (jc_Lw_isHidden l g  ((s0 + s1) * z8) z11 (2 * z8) z4 _ hq_1) (va_cwS 4 hts gL_isSight_L_isHidden rfl rfl rfl (by decide +kernel) ⟨Nat.le_of_ble_eq_true rfl, Nat.le_of_ble_eq_true rfl⟩) (jpr_s hK hP) rfl rfl hl.1 rfl (lv_room (Nat.le_of_ble_eq_true rfl)) dL_isSight_124 ⟨Nat.zero_le _, Nat.zero_le _⟩) ?_
        refine lv_if_eq (tgt := 132) hx hb dL_isSight_127 (by decide) (fun c_7 => ?_) (fun c_7 => ?_)
        · replace hR := Eq.trans (Eq.symm (if_pos c_7)) hR
          refine lv_iinc (v := z10 + 2) (lv' := [(10, .int (z10 + 2)), (0, .int z0), (1, .int z1), (4, .long z4), (6, .int z6), (7, .int z7), (8, .int z8), (9, .int z9), (11, .int z11)]) hx hb dL_isSight_132 hl (k := 7) rfl (by first | rfl | decide) (by decide) rfl (fun ls hl => ?_)
          refine lv_goto (tgt := 69) hx hb dL_isSight_135 (by decide) ?_
          exact ih (z10 + 2) _ (lv_sub hl [1, 2, 3, 4, 5, 6, 7, 0] rfl) _ hR k
        · replace hR := Eq.trans (Eq.symm (if_neg c_7)) hR
          cases hR
          exact k.1 _ rfl _ (lv_sub hl [] rfl)
      intro z10 ls hl q hR k
      rw [jf_Lw_isSight_L69] at hR
      refine lv_iload hx hb dL_isSight_69 (lv_at hl 7 rfl) ?_
      refine lv_iload hx hb dL_isSight_71 (lv_at hl 5 rfl) ?_
      refine lv_icmp_ge (tgt := 138) hx hb dL_isSight_73 (by decide) (fun c_5 => ?_) (fun c_5 => ?_)
      · replace hR := Eq.trans (Eq.symm (if_pos c_5)) hR
        cases hR
        exact k.2 _ rfl _ (lv_sub hl [0, 1, 2, 3, 4, 6] rfl)
      · replace hR := Eq.trans (Eq.symm (if_neg c_5)) hR
        refine lv_iconst (v := 2) hx hb dL_isSight_76 (by decide) ?_
        refine lv_iload_n hx hb dL_isSight_77 rfl (lv_at hl 1 rfl) ?_
        refine lv_imul hx hb dL_isSight_78 ?_
        refine lv_iconst (v := 1) hx hb dL_isSight_79 (by decide) ?_
        refine lv_iadd hx hb dL_isSight_80 ?_
        refine lv_iload hx hb dL_isSight_81 (lv_at hl 5 rfl) ?_
        refine lv_imul hx hb dL_isSight_83 ?_
        refine lv_iconst (v := 2) hx hb dL_isSight_84 (by decide) ?_
        refine lv_iload hx hb dL_isSight_85 (lv_at hl 4 rfl) ?_
        refine lv_imul hx hb dL_isSight_87 ?_
        refine lv_iload hx hb dL_isSight_88 (lv_at hl 7 rfl) ?_
        refine lv_imul hx hb dL_isSight_90 ?_
        refine lv_iadd hx hb dL_isSight_91 ?_
        refine jlet_i hR (fun y11_1 hR => ?_)
        try dsimp only at hR
        refine lv_istore (lv' := [(11, .int y11_1), (0, .int z0), (1, .int z1), (4, .long z4), (6, .int z6), (7, .int z7), (8, .int z8), (9, .int z9), (10, .int z10)]) hx hb dL_isSight_92 hl (by decide) rfl (fun ls hl => ?_)
        refine lv_iconst (v := 2) hx hb dL_isSight_94 (by decide) ?_
        refine lv_iload_n hx hb dL_isSight_95 rfl (lv_at hl 1 rfl) ?_
        refine lv_imul hx hb dL_isSight_96 ?_
        refine lv_iconst (v := 1) hx hb dL_isSight_97 (by decide) ?_
        refine lv_iadd hx hb dL_isSight_98 ?_
        refine lv_iload hx hb dL_isSight_99 (lv_at hl 4 rfl) ?_
        refine lv_if_ge (tgt := 110) hx hb dL_isSight_101 (by decide) (fun c_6 => ?_) (fun c_6 => ?_)
        · replace hR := Eq.trans (Eq.symm (if_pos c_6)) hR
          refine lv_iload hx hb dL_isSight_110 (lv_at hl 8 rfl) ?_
          exact J112 z10 y11_1 ((2 * z0) + 1) z10 _ (lv_sub hl [1, 2, 3, 4, 5, 6, 7, 8, 0] rfl) _ hR k
        · replace hR := Eq.trans (Eq.symm (if_neg c_6)) hR
          refine lv_iload hx hb dL_isSight_104 (lv_at hl 8 rfl) ?_
          refine lv_ineg hx hb dL_isSight_106 ?_
          refine lv_goto (tgt := 112) hx hb dL_isSight_107 (by decide) ?_
          exact J112 z10 y11_1 ((2 * z0) + 1) (-z10) _ (lv_sub hl [1, 2, 3, 4, 5, 6, 7, 8, 0] rfl) _ hR k
  have L141 : ∀ (n : Nat) (z0 : Int32) (z1 : Int32) (z4 : Int64) (z6 : Int32) (z7 : Int32) (z9 : Int32) (z10 : Int32) (ls : Array Slot), lv_has ls 12 [(0, .int z0), (1, .int z1), (4, .long z4), (6, .int z6), (7, .int z7), (9, .int z9), (10, .int z10)] → ∀ q, jf_Lw_isSight_L141 z0 z1 z4 z6 z7 z9 n z10 = some q → ((∀ o, q = .inl o → ∀ ls : Array Slot, lv_has ls 12 [] → W p l e jr_Lw_isSight s m ([.int x0, .int x1, .int x2, .int x3, .long x4] : List Value).toArray below meth c s.heap [] 0 0 Q (F0 m 202 ls [])) ∧ (∀ o, q = .inr o → ∀ ls : Array Slot, lv_has ls 12 [] → W p l e jr_Lw_isSight s m ([.int x0, .int x1, .int x2, .int x3, .long x4] : List Value).toArray below meth c s.heap [] 0 0 Q (F0 m 210 ls []))) → W p l e jr_Lw_isSight s m ([.int x0, .int x1, .int x2, .int x3, .long x4] : List Value).toArray below meth c s.heap [] 0 0 Q (F0 m 141 ls []) := by
    intro n z0 z1 z4 z6 z7 z9
    induction n with
    | zero =>
      intro z10 ls hl q hR k
      cases hR
    | succ n ih =>
      have J186 : ∀ (z10 : Int32) (s0 : Int32) (s1 : Int32) (s2 : Int32) (ls : Array Slot), lv_has ls 12 [(0, .int z0), (1, .int z1), (4, .long z4), (6, .int z6), (7, .int z7), (9, .int z9), (10, .int z10)] → ∀ q, jf_Lw_isSight_b186 (jf_Lw_isSight_L141 z0 z1 z4 z6 z7 z9 n) z0 z1 z4 z6 z7 z9 z10 s0 s1 s2 = some q → ((∀ o, q = .inl o → ∀ ls : Array Slot, lv_has ls 12 [] → W p l e jr_Lw_isSight s m ([.int x0, .int x1, .int x2, .int x3, .long x4] : List Value).toArray below meth c s.heap [] 0 0 Q (F0 m 202 ls [])) ∧ (∀ o, q = .inr o → ∀ ls : Array Slot, lv_has ls 12 [] → W p l e jr_Lw_isSight s m ([.int x0, .int x1, .int x2, .int x3, .long x4] : List Value).toArray below meth c s.heap [] 0 0 Q (F0 m 210 ls []))) → W p l e jr_Lw_isSight s m ([.int x0, .int x1, .int x2, .int x3, .long x4] : List Value).toArray below meth c s.heap [] 0 0 Q (F0 m 186 ls [.int s2, .int s1, .int s0]) := by
        intro z10 s0 s1 s2 ls hl q hR k
        rw [jf_Lw_isSight_b186] at hR
        refine lv_iadd hx hb dL_isSight_186 ?_
        refine lv_iload hx hb dL_isSight_187 (lv_at hl 5 rfl) ?_
        refine lv_imul hx hb dL_isSight_189 ?_
        refine lv_iconst (v := 2) hx hb dL_isSight_190 (by decide) ?_
        refine lv_iload hx hb dL_isSight_191 (lv_at hl 5 rfl) ?_
        refine lv_imul hx hb dL_isSight_193 ?_
        refine lv_lload hx hb dL_isSight_194 (lv_at hl 2 rfl) ?_
        obtain ⟨q_3, hq_3, hR⟩ := jbind hR
        try dsimp only at hR
        refine jcall_ri (va_runS (As := [.int s0, .int ((s1 + s2) * z9), .int (2 * z9), .long z4]) (rest := []) ⟨hx, hb, hml, hown, hts⟩ (jc_Lw_isHidden l g  s0 ((s1 + s2) * z9) (2 * z9) z4 _ hq_3) (va_cwS 4 hts gL_isSight_L_isHidden rfl rfl rfl (by decide +kernel) ⟨Nat.le_of_ble_eq_true rfl, Nat.le_of_ble_eq_true rfl⟩) (jpr_s hK hP) rfl rfl hl.1 rfl (lv_room (Nat.le_of_ble_eq_true rfl)) dL_isSight_196 ⟨Nat.zero_le _, Nat.zero_le _⟩) ?_
        refine lv_if_eq (tgt := 204) hx hb dL_isSight_199 (by decide) (fun c_10 => ?_) (fun c_10 => ?_)
        · replace hR := Eq.trans (Eq.symm (if_pos c_10)) hR
          refine lv_iinc (v := z10 + 2) (lv' := [(10, .int (z10 + 2)), (0, .int z0), (1, .int z1), (4, .long z4), (6, .int z6), (7, .int z7), (9, .int z9)]) hx hb dL_isSight_204 hl (k := 6) rfl (by first | rfl | decide) (by decide) rfl (fun ls hl => ?_)
          refine lv_goto (tgt := 141) hx hb dL_isSight_207 (by decide) ?_
          exact ih (z10 + 2) _ (lv_sub hl [1, 2, 3, 4, 5, 6, 0] rfl) _ hR k
        · replace hR := Eq.trans (Eq.symm (if_neg c_10)) hR
          cases hR
          exact k.1 _ rfl _ (lv_sub hl [] rfl)
      intro z10 ls hl q hR k
      rw [jf_Lw_isSight_L141] at hR
      refine lv_iload hx hb dL_isSight_141 (lv_at hl 6 rfl) ?_
      refine lv_iload hx hb dL_isSight_143 (lv_at hl 5 rfl) ?_
      refine lv_icmp_ge (tgt := 210) hx hb dL_isSight_145 (by decide) (fun c_8 => ?_) (fun c_8 => ?_)
      · replace hR := Eq.trans (Eq.symm (if_pos c_8)) hR
        cases hR
        exact k.2 _ rfl _ (lv_sub hl [] rfl)
      · replace hR := Eq.trans (Eq.symm (if_neg c_8)) hR
        refine lv_iconst (v := 2) hx hb dL_isSight_148 (by decide) ?_
        refine lv_iload_n hx hb dL_isSight_149 rfl (lv_at hl 0 rfl) ?_
        refine lv_imul hx hb dL_isSight_150 ?_
        refine lv_iconst (v := 1) hx hb dL_isSight_151 (by decide) ?_
        refine lv_iadd hx hb dL_isSight_152 ?_
        refine lv_iload hx hb dL_isSight_153 (lv_at hl 5 rfl) ?_
        refine lv_imul hx hb dL_isSight_155 ?_
        refine lv_iconst (v := 2) hx hb dL_isSight_156 (by decide) ?_
        refine lv_iload hx hb dL_isSight_157 (lv_at hl 3 rfl) ?_
        refine lv_imul hx hb dL_isSight_159 ?_
        refine lv_iload hx hb dL_isSight_160 (lv_at hl 6 rfl) ?_
        refine lv_imul hx hb dL_isSight_162 ?_
        refine lv_iadd hx hb dL_isSight_163 ?_
        refine jlet_i hR (fun y11_2 hR => ?_)
        try dsimp only at hR
        refine lv_istore (lv' := [(11, .int y11_2), (0, .int z0), (1, .int z1), (4, .long z4), (6, .int z6), (7, .int z7), (9, .int z9), (10, .int z10)]) hx hb dL_isSight_164 hl (by decide) rfl (fun ls hl => ?_)
        refine lv_iload hx hb dL_isSight_166 (lv_at hl 0 rfl) ?_
        refine lv_iconst (v := 2) hx hb dL_isSight_168 (by decide) ?_
        refine lv_iload_n hx hb dL_isSight_169 rfl (lv_at hl 2 rfl) ?_
        refine lv_imul hx hb dL_isSight_170 ?_
        refine lv_iconst (v := 1) hx hb dL_isSight_171 (by decide) ?_
        refine lv_iadd hx hb dL_isSight_172 ?_
        refine lv_iload hx hb dL_isSight_173 (lv_at hl 5 rfl) ?_
        refine lv_if_ge (tgt := 184) hx hb dL_isSight_175 (by decide) (fun c_9 => ?_) (fun c_9 => ?_)
        · replace hR := Eq.trans (Eq.symm (if_pos c_9)) hR
          refine lv_iload hx hb dL_isSight_184 (lv_at hl 7 rfl) ?_
          exact J186 z10 y11_2 ((2 * z1) + 1) z10 _ (lv_sub hl [1, 2, 3, 4, 5, 6, 7] rfl) _ hR k
        · replace hR := Eq.trans (Eq.symm (if_neg c_9)) hR
          refine lv_iload hx hb dL_isSight_178 (lv_at hl 7 rfl) ?_
          refine lv_ineg hx hb dL_isSight_180 ?_
          refine lv_goto (tgt := 186) hx hb dL_isSight_181 (by decide) ?_
          exact J186 z10 y11_2 ((2 * z1) + 1) (-z10) _ (lv_sub hl [1, 2, 3, 4, 5, 6, 7] rfl) _ hR k
  have J63 : ∀ (z0 : Int32) (z1 : Int32) (z4 : Int64) (z6 : Int32) (z7 : Int32) (z8 : Int32) (s0 : Int32) (s1 : Int32) (ls : Array Slot), lv_has ls 12 [(0, .int z0), (1, .int z1), (4, .long z4), (6, .int z6), (7, .int z7), (8, .int z8)] → jf_Lw_isSight_b63 z0 z1 z4 z6 z7 z8 s0 s1 = some R → W p l e jr_Lw_isSight s m ([.int x0, .int x1, .int x2, .int x3, .long x4] : List Value).toArray below meth c s.heap [] 0 0 Q (F0 m 63 ls [.int s1, .int s0]) := by
    intro z0 z1 z4 z6 z7 z8 s0 s1 ls hl hR
    rw [jf_Lw_isSight_b63] at hR
    refine lv_imul hx hb dL_isSight_63 ?_
    refine jlet_i hR (fun y9_1 hR => ?_)
    try dsimp only at hR
    refine lv_istore (lv' := [(9, .int y9_1), (0, .int z0), (1, .int z1), (4, .long z4), (6, .int z6), (7, .int z7), (8, .int z8)]) hx hb dL_isSight_64 hl (by decide) rfl (fun ls hl => ?_)
    refine lv_iconst (v := 1) hx hb dL_isSight_66 (by decide) ?_
    refine lv_istore (lv' := [(10, .int 1), (9, .int y9_1), (0, .int z0), (1, .int z1), (4, .long z4), (6, .int z6), (7, .int z7), (8, .int z8)]) hx hb dL_isSight_67 hl (by decide) rfl (fun ls hl => ?_)
    obtain ⟨q_2, hq_2, hR⟩ := jbind hR
    refine L69 jF z0 z1 z4 z6 z7 z8 y9_1 1 _ (lv_sub hl [2, 3, 4, 5, 6, 7, 1, 0] rfl) _ hq_2 ⟨fun o_1 ho ls hl => ?_, fun o_2 ho ls hl => ?_⟩
    · rw [ho] at hR
      try dsimp only [jsum] at hR
      refine lv_iconst (v := 0) hx hb dL_isSight_130 (by decide) ?_
      exact fin _ _ _ (Eq.trans (by decide) (Option.some.inj hR)) dL_isSight_131
    · rw [ho] at hR
      try dsimp only [jsum] at hR
      refine lv_iconst (v := 1) hx hb dL_isSight_138 (by decide) ?_
      refine lv_istore (lv' := [(10, .int 1), (0, .int z0), (1, .int z1), (4, .long z4), (6, .int z6), (7, .int z7), (9, .int y9_1)]) hx hb dL_isSight_139 hl (by decide) rfl (fun ls hl => ?_)
      obtain ⟨q_4, hq_4, hR⟩ := jbind hR
      refine L141 jF z0 z1 z4 z6 z7 y9_1 1 _ (lv_sub hl [1, 2, 3, 4, 5, 6, 0] rfl) _ hq_4 ⟨fun o_3 ho ls hl => ?_, fun o_4 ho ls hl => ?_⟩
      · rw [ho] at hR
        try dsimp only [jsum] at hR
        refine lv_iconst (v := 0) hx hb dL_isSight_202 (by decide) ?_
        exact fin _ _ _ (Eq.trans (by decide) (Option.some.inj hR)) dL_isSight_203
      · rw [ho] at hR
        try dsimp only [jsum] at hR
        refine lv_iconst (v := 1) hx hb dL_isSight_210 (by decide) ?_
        exact fin _ _ _ (Eq.trans (by decide) (Option.some.inj hR)) dL_isSight_211
  have J46 : ∀ (z0 : Int32) (z1 : Int32) (z4 : Int64) (z6 : Int32) (z7 : Int32) (s0 : Int32) (s1 : Int32) (ls : Array Slot), lv_has ls 12 [(0, .int z0), (1, .int z1), (4, .long z4), (6, .int z6), (7, .int z7)] → jf_Lw_isSight_b46 z0 z1 z4 z6 z7 s0 s1 = some R → W p l e jr_Lw_isSight s m ([.int x0, .int x1, .int x2, .int x3, .long x4] : List Value).toArray below meth c s.heap [] 0 0 Q (F0 m 46 ls [.int s1, .int s0]) := by
    intro z0 z1 z4 z6 z7 s0 s1 ls hl hR
    rw [jf_Lw_isSight_b46] at hR
    refine lv_imul hx hb dL_isSight_46 ?_
    refine jlet_i hR (fun y8_1 hR => ?_)
    try dsimp only at hR
    refine lv_istore (lv' := [(8, .int y8_1), (0, .int z0), (1, .int z1), (4, .long z4), (6, .int z6), (7, .int z7)]) hx hb dL_isSight_47 hl (by decide) rfl (fun ls hl => ?_)
    refine lv_iconst (v := 2) hx hb dL_isSight_49 (by decide) ?_
    refine lv_iload hx hb dL_isSight_50 (lv_at hl 5 rfl) ?_
    refine lv_if_ge (tgt := 61) hx hb dL_isSight_52 (by decide) (fun c_4 => ?_) (fun c_4 => ?_)
    · replace hR := Eq.trans (Eq.symm (if_pos c_4)) hR
      refine lv_iload hx hb dL_isSight_61 (lv_at hl 5 rfl) ?_
      exact J63 z0 z1 z4 z6 z7 y8_1 2 z7 _ (lv_sub hl [1, 2, 3, 4, 5, 0] rfl) hR
    · replace hR := Eq.trans (Eq.symm (if_neg c_4)) hR
      refine lv_iload hx hb dL_isSight_55 (lv_at hl 5 rfl) ?_
      refine lv_ineg hx hb dL_isSight_57 ?_
      refine lv_goto (tgt := 63) hx hb dL_isSight_58 (by decide) ?_
      exact J63 z0 z1 z4 z6 z7 y8_1 2 (-z7) _ (lv_sub hl [1, 2, 3, 4, 5, 0] rfl) hR
  rw [jf_Lw_isSight] at hR
  refine lv_iload_n hx hb dL_isSight_0 rfl (lv_at hl 0 rfl) ?_
  refine lv_iload_n hx hb dL_isSight_1 rfl (lv_at hl 1 rfl) ?_
  refine lv_lload hx hb dL_isSight_2 (lv_at hl 4 rfl) ?_
  refine jcall_ri (va_runS (As := [.int x0, .int x1, .long x4]) (rest := []) ⟨hx, hb, hml, hown, hts⟩ (jc_Lw_isFloor l g  x0 x1 x4 _ rfl) (va_cwS 3 hts gL_isSight_L_isFloor rfl rfl rfl (by decide +kernel) ⟨Nat.le_of_ble_eq_true rfl, Nat.le_of_ble_eq_true rfl⟩) (jpr_s hK hP) rfl rfl hl.1 rfl (lv_room (Nat.le_of_ble_eq_true rfl)) dL_isSight_4 ⟨Nat.zero_le _, Nat.zero_le _⟩) ?_
  refine lv_if_eq (tgt := 20) hx hb dL_isSight_7 (by decide) (fun c_1 => ?_) (fun c_1 => ?_)
  · replace hR := Eq.trans (Eq.symm (if_pos c_1)) hR
    refine lv_iconst (v := 0) hx hb dL_isSight_20 (by decide) ?_
    exact fin _ _ _ (Eq.trans (by decide) (Option.some.inj hR)) dL_isSight_21
  · replace hR := Eq.trans (Eq.symm (if_neg c_1)) hR
    refine lv_iload_n hx hb dL_isSight_10 rfl (lv_at hl 2 rfl) ?_
    refine lv_iload_n hx hb dL_isSight_11 rfl (lv_at hl 3 rfl) ?_
    refine lv_lload hx hb dL_isSight_12 (lv_at hl 4 rfl) ?_
    refine jcall_ri (va_runS (As := [.int x2, .int x3, .long x4]) (rest := []) ⟨hx, hb, hml, hown, hts⟩ (jc_Lw_isFloor l g  x2 x3 x4 _ rfl) (va_cwS 3 hts gL_isSight_L_isFloor rfl rfl rfl (by decide +kernel) ⟨Nat.le_of_ble_eq_true rfl, Nat.le_of_ble_eq_true rfl⟩) (jpr_s hK hP) rfl rfl hl.1 rfl (lv_room (Nat.le_of_ble_eq_true rfl)) dL_isSight_14 ⟨Nat.zero_le _, Nat.zero_le _⟩) ?_
    refine lv_if_ne (tgt := 22) hx hb dL_isSight_17 (by decide) (fun c_2 => ?_) (fun c_2 => ?_)
    · replace hR := Eq.trans (Eq.symm (if_neg c_2)) hR
      refine lv_iload_n hx hb dL_isSight_22 rfl (lv_at hl 2 rfl) ?_
      refine lv_iload_n hx hb dL_isSight_23 rfl (lv_at hl 0 rfl) ?_
      refine lv_isub hx hb dL_isSight_24 ?_
      refine jlet_i hR (fun y6_1 hR => ?_)
      try dsimp only at hR
      refine lv_istore (lv' := [(6, .int y6_1), (0, .int x0), (1, .int x1), (2, .int x2), (3, .int x3), (4, .long x4)]) hx hb dL_isSight_25 hl (by decide) rfl (fun ls hl => ?_)
      refine lv_iload_n hx hb dL_isSight_27 rfl (lv_at hl 4 rfl) ?_
      refine lv_iload_n hx hb dL_isSight_28 rfl (lv_at hl 2 rfl) ?_
      refine lv_isub hx hb dL_isSight_29 ?_
      refine jlet_i hR (fun y7_1 hR => ?_)
      try dsimp only at hR
      refine lv_istore (lv' := [(7, .int y7_1), (6, .int y6_1), (0, .int x0), (1, .int x1), (2, .int x2), (3, .int x3), (4, .long x4)]) hx hb dL_isSight_30 hl (by decide) rfl (fun ls hl => ?_)
      refine lv_iconst (v := 2) hx hb dL_isSight_32 (by decide) ?_
      refine lv_iload hx hb dL_isSight_33 (lv_at hl 1 rfl) ?_
      refine lv_if_ge (tgt := 44) hx hb dL_isSight_35 (by decide) (fun c_3 => ?_) (fun c_3 => ?_)
      · replace hR := Eq.trans (Eq.symm (if_pos c_3)) hR
        refine lv_iload hx hb dL_isSight_44 (lv_at hl 1 rfl) ?_
        exact J46 x0 x1 x4 y6_1 y7_1 2 y6_1 _ (lv_sub hl [2, 3, 6, 1, 0] rfl) hR
      · replace hR := Eq.trans (Eq.symm (if_neg c_3)) hR
        refine lv_iload hx hb dL_isSight_38 (lv_at hl 1 rfl) ?_
        refine lv_ineg hx hb dL_isSight_40 ?_
        refine lv_goto (tgt := 46) hx hb dL_isSight_41 (by decide) ?_
        exact J46 x0 x1 x4 y6_1 y7_1 2 (-y6_1) _ (lv_sub hl [2, 3, 6, 1, 0] rfl) hR
    · replace hR := Eq.trans (Eq.symm (if_pos c_2)) hR
      refine lv_iconst (v := 0) hx hb dL_isSight_20 (by decide) ?_
      exact fin _ _ _ (Eq.trans (by decide) (Option.some.inj hR)) dL_isSight_21
abbrev jw_ar5I (g : jG) (a_r1 : Nat) (v_r1 : Nat → Int32) : va_W := [(a_r1, .inl (g.2.1, 5, .inl v_r1))]
def jf_Lw_before_L2 (v_r1 : Nat → Int32) (z0 : Int32) : Nat → Int32 → Option Int32
  | 0, _ => none
  | n + 1, z2 =>
    if jin z2 5 = true then (if v_r1 z2.toNatClampNeg = z0 then (some z2) else ((jf_Lw_before_L2 v_r1 z0 n) (z2 + 1))) else none
def jf_Lw_before (v_r1 : Nat → Int32) (x0 : Int32) : Option Int32 :=
  Option.bind (jf_Lw_before_L2 v_r1 x0 jF 0) (fun q_1 => some q_1)
abbrev jr_Lw_before : Room := { frames := 0, cells := 0, slots := 0, locals := 0 }
set_option maxRecDepth 100000 in
set_option maxHeartbeats 4000000 in
theorem jc_Lw_before (l : Launch) (g : jG) (a_r1 : Nat) (v_r1 : Nat → Int32) (x0 : Int32) (R : Int32) (hR : jf_Lw_before v_r1 x0 = some R) : Met l yL_before wsL_before jr_Lw_before (jPr g [.int x0, .ref a_r1] (jw_ar5I g a_r1 v_r1)) (vp_Si (fun r => r = R)) 0 0 (fun _ => False) := by
  refine jm_ri (cc := cL_before) (maxL := 3) (by decide +kernel) rfl (Nat.le_of_ble_eq_true rfl) ?_
  intro p e s m below meth c Q hx hb hml hown hts hK hP fin ls hl
  have hl : lv_has ls 3 [(0, .int x0), (1, .ref a_r1)] := hl
  have hown : s.vm.findClass RL = some m.cls := hown
  have L2 : ∀ (n : Nat) (z0 : Int32) (z2 : Int32) (ls : Array Slot), lv_has ls 3 [(0, .int z0), (1, .ref a_r1), (2, .int z2)] → ∀ q, jf_Lw_before_L2 v_r1 z0 n z2 = some q → (∀ ls : Array Slot, lv_has ls 3 [(2, .int q)] → W p l e jr_Lw_before s m ([.int x0, .ref a_r1] : List Value).toArray below meth c s.heap [] 0 0 Q (F0 m 15 ls [])) → W p l e jr_Lw_before s m ([.int x0, .ref a_r1] : List Value).toArray below meth c s.heap [] 0 0 Q (F0 m 2 ls []) := by
    intro n z0
    induction n with
    | zero =>
      intro z2 ls hl q hR k
      cases hR
    | succ n ih =>
      intro z2 ls hl q hR k
      rw [jf_Lw_before_L2] at hR
      refine lv_aload_n hx hb dL_before_2 rfl (lv_at hl 1 rfl) ?_
      refine lv_iload_n hx hb dL_before_3 rfl (lv_at hl 2 rfl) ?_
      by_cases c_1 : jin z2 5 = true
      case neg => replace hR := Eq.trans (Eq.symm (if_neg c_1)) hR; cases hR
      replace hR := Eq.trans (Eq.symm (if_pos c_1)) hR
      refine va_iald hx hb hK.1 hP 0 0 rfl rfl (jin_in c_1) dL_before_4 ?_
      refine lv_iload_n hx hb dL_before_5 rfl (lv_at hl 0 rfl) ?_
      refine lv_icmp_eq (tgt := 15) hx hb dL_before_6 (by decide) (fun c_2 => ?_) (fun c_2 => ?_)
      · replace hR := Eq.trans (Eq.symm (if_pos c_2)) hR
        cases hR
        exact k _ (lv_sub hl [2] rfl)
      · replace hR := Eq.trans (Eq.symm (if_neg c_2)) hR
        refine lv_iinc (v := z2 + 1) (lv' := [(2, .int (z2 + 1)), (0, .int z0), (1, .ref a_r1)]) hx hb dL_before_9 hl (k := 2) rfl (by first | rfl | decide) (by decide) rfl (fun ls hl => ?_)
        refine lv_goto (tgt := 2) hx hb dL_before_12 (by decide) ?_
        exact ih (z2 + 1) _ (lv_sub hl [1, 2, 0] rfl) _ hR k
  rw [jf_Lw_before] at hR
  refine lv_iconst (v := 0) hx hb dL_before_0 (by decide) ?_
  refine lv_istore_n (lv' := [(2, .int 0), (0, .int x0), (1, .ref a_r1)]) hx hb dL_before_1 rfl hl (by decide) rfl (fun ls hl => ?_)
  obtain ⟨q_1, hq_1, hR⟩ := jbind hR
  try dsimp only at hR
  refine L2 jF x0 0 _ (lv_sub hl [1, 2, 0] rfl) _ hq_1 (fun ls hl => ?_)
  refine lv_iload_n hx hb dL_before_15 rfl (lv_at hl 0 rfl) ?_
  exact fin _ _ _ (Option.some.inj hR) dL_before_16
def jf_Lw_isNext_L4 (v_r0 : Nat → Int32) (z1 : Int32) : Nat → Int32 → Option Int32
  | 0, _ => none
  | n + 1, z2 =>
    if z2 < 0 then (some z2) else (if jin z2 5 = true then (if jin (z2 + 1) 5 = true then (if v_r0 z2.toNatClampNeg ≤ v_r0 (z2 + 1).toNatClampNeg then (some z2) else ((jf_Lw_isNext_L4 v_r0 z1 n) (z2 + (-1)))) else none) else none)
def jf_Lw_isNext_L35 (v_r0 : Nat → Int32) (z1 : Int32) (z2 : Int32) : Nat → Int32 → Option Int32
  | 0, _ => none
  | n + 1, z3 =>
    if jin z3 5 = true then (if jin z2 5 = true then (if v_r0 z2.toNatClampNeg ≤ v_r0 z3.toNatClampNeg then (some z3) else ((jf_Lw_isNext_L35 v_r0 z1 z2 n) (z3 + (-1)))) else none) else none
def jf_Lw_isNext_L76 : Nat → Int32 → Int32 → (Nat → Int32) → Option (Nat → Int32)
  | 0, _, _, _ => none
  | n + 1, z5, z6, v_r0 =>
    if z6 ≤ z5 then (some v_r0) else (if jin z5 5 = true then (jlet (v_r0 z5.toNatClampNeg) (fun y4_2 => if jin z6 5 = true then (if jin z5 5 = true then (if jin z6 5 = true then ((jf_Lw_isNext_L76 n) (z5 + 1) (z6 + (-1)) (upd (upd v_r0 z5.toNatClampNeg (v_r0 z6.toNatClampNeg)) z6.toNatClampNeg y4_2)) else none) else none) else none)) else none)
def jf_Lw_isNext_b25 (v_r0 : Nat → Int32) (z1 : Int32) (z2 : Int32) : Option (Int32 × (Nat → Int32)) :=
  if 0 ≤ z2 then (jlet (z1 - 1) (fun y3_1 => Option.bind (jf_Lw_isNext_L35 v_r0 z1 z2 jF y3_1) (fun q_2 => if jin z2 5 = true then (jlet (v_r0 z2.toNatClampNeg) (fun y4_1 => if jin q_2 5 = true then (if jin z2 5 = true then (if jin q_2 5 = true then (jlet (z2 + 1) (fun y5_1 => jlet (z1 - 1) (fun y6_1 => Option.bind (jf_Lw_isNext_L76 jF y5_1 y6_1 (upd (upd v_r0 z2.toNatClampNeg (v_r0 q_2.toNatClampNeg)) q_2.toNatClampNeg y4_1)) (fun q_3 => some (1, q_3))))) else none) else none) else none)) else none))) else (some (0, v_r0))
def jf_Lw_isNext (v_r0 : Nat → Int32) (x1 : Int32) : Option (Int32 × (Nat → Int32)) :=
  jlet (x1 - 2) (fun y2_1 => Option.bind (jf_Lw_isNext_L4 v_r0 x1 jF y2_1) (fun q_1 => jf_Lw_isNext_b25 v_r0 x1 q_1))
abbrev jr_Lw_isNext : Room := { frames := 0, cells := 0, slots := 0, locals := 0 }
set_option maxRecDepth 100000 in
set_option maxHeartbeats 4000000 in
theorem jc_Lw_isNext (l : Launch) (g : jG) (a_r0 : Nat) (v_r0 : Nat → Int32) (x1 : Int32) (R : Int32 × (Nat → Int32)) (hR : jf_Lw_isNext v_r0 x1 = some R) (sz : Nat) : Met l yL_isNext wsL_isNext jr_Lw_isNext (jPw g [.ref a_r0, .int x1] (jw_ar5I g a_r0 v_r0) sz) (jQi g R.1 (jw_ar5I g a_r0 R.2) (va_A (jw_ar5I g a_r0 v_r0) sz)) 0 0 (va_A (jw_ar5I g a_r0 v_r0) sz) := by
  refine jm_wz (cc := cL_isNext) (maxL := 7) (by decide +kernel) rfl (Nat.le_of_ble_eq_true rfl) ?_
  intro p e s m below meth c A Q hx hb hml hown hts hK hP hD hA hS fin ls hl
  have hl : lv_has ls 7 [(0, .ref a_r0), (1, .int x1)] := hl
  have hown : s.vm.findClass RL = some m.cls := hown
  have L4 : ∀ (n : Nat) (v_r0 : Nat → Int32) (z1 : Int32) (z2 : Int32) (H : Heap) (locs : List Loc), va_P g.1 vwCl (jw_ar5I g a_r0 v_r0) H → va_S A s.heap H locs → ∀ (ls : Array Slot), lv_has ls 7 [(0, .ref a_r0), (1, .int z1), (2, .int z2)] → ∀ q, jf_Lw_isNext_L4 v_r0 z1 n z2 = some q → (∀ (H : Heap) (locs : List Loc), va_P g.1 vwCl (jw_ar5I g a_r0 v_r0) H → va_S A s.heap H locs → ∀ ls : Array Slot, lv_has ls 7 [(0, .ref a_r0), (1, .int z1), (2, .int q)] → W p l e jr_Lw_isNext s m ([.ref a_r0, .int x1] : List Value).toArray below meth c H locs 0 0 Q (F0 m 25 ls [])) → W p l e jr_Lw_isNext s m ([.ref a_r0, .int x1] : List Value).toArray below meth c H locs 0 0 Q (F0 m 4 ls []) := by
    intro n v_r0 z1
    induction n with
    | zero =>
      intro z2 H locs hP hS ls hl q hR k
      cases hR
    | succ n ih =>
      intro z2 H locs hP hS ls hl q hR k
      rw [jf_Lw_isNext_L4] at hR
      refine lv_iload_n hx hb dL_isNext_4 rfl (lv_at hl 2 rfl) ?_
      refine lv_if_lt (tgt := 25) hx hb dL_isNext_5 (by decide) (fun c_1 => ?_) (fun c_1 => ?_)
      · replace hR := Eq.trans (Eq.symm (if_pos c_1)) hR
        cases hR
        exact k _ _ hP hS _ (lv_sub hl [0, 1, 2] rfl)
      · replace hR := Eq.trans (Eq.symm (if_neg c_1)) hR
        refine lv_aload_n hx hb dL_isNext_8 rfl (lv_at hl 0 rfl) ?_
        refine lv_iload_n hx hb dL_isNext_9 rfl (lv_at hl 2 rfl) ?_
        by_cases c_2 : jin z2 5 = true
        case neg => replace hR := Eq.trans (Eq.symm (if_neg c_2)) hR; cases hR
        replace hR := Eq.trans (Eq.symm (if_pos c_2)) hR
        refine va_iald hx hb hK.1 hP 0 0 rfl rfl (jin_in c_2) dL_isNext_10 ?_
        refine lv_aload_n hx hb dL_isNext_11 rfl (lv_at hl 0 rfl) ?_
        refine lv_iload_n hx hb dL_isNext_12 rfl (lv_at hl 2 rfl) ?_
        refine lv_iconst (v := 1) hx hb dL_isNext_13 (by decide) ?_
        refine lv_iadd hx hb dL_isNext_14 ?_
        by_cases c_3 : jin (z2 + 1) 5 = true
        case neg => replace hR := Eq.trans (Eq.symm (if_neg c_3)) hR; cases hR
        replace hR := Eq.trans (Eq.symm (if_pos c_3)) hR
        refine va_iald hx hb hK.1 hP 0 0 rfl rfl (jin_in c_3) dL_isNext_15 ?_
        refine lv_icmp_le (tgt := 25) hx hb dL_isNext_16 (by decide) (fun c_4 => ?_) (fun c_4 => ?_)
        · replace hR := Eq.trans (Eq.symm (if_pos c_4)) hR
          cases hR
          exact k _ _ hP hS _ (lv_sub hl [0, 1, 2] rfl)
        · replace hR := Eq.trans (Eq.symm (if_neg c_4)) hR
          refine lv_iinc (v := z2 + (-1)) (lv' := [(2, .int (z2 + (-1))), (0, .ref a_r0), (1, .int z1)]) hx hb dL_isNext_19 hl (k := 2) rfl (by first | rfl | decide) (by decide) rfl (fun ls hl => ?_)
          refine lv_goto (tgt := 4) hx hb dL_isNext_22 (by decide) ?_
          exact ih (z2 + (-1)) _ _ hP hS _ (lv_sub hl [1, 2, 0] rfl) _ hR k
  have L35 : ∀ (n : Nat) (v_r0 : Nat → Int32) (z1 : Int32) (z2 : Int32) (z3 : Int32) (H : Heap) (locs : List Loc), va_P g.1 vwCl (jw_ar5I g a_r0 v_r0) H → va_S A s.heap H locs → ∀ (ls : Array Slot), lv_has ls 7 [(0, .ref a_r0), (1, .int z1), (2, .int z2), (3, .int z3)] → ∀ q, jf_Lw_isNext_L35 v_r0 z1 z2 n z3 = some q → (∀ (H : Heap) (locs : List Loc), va_P g.1 vwCl (jw_ar5I g a_r0 v_r0) H → va_S A s.heap H locs → ∀ ls : Array Slot, lv_has ls 7 [(0, .ref a_r0), (1, .int z1), (2, .int z2), (3, .int q)] → W p l e jr_Lw_isNext s m ([.ref a_r0, .int x1] : List Value).toArray below meth c H locs 0 0 Q (F0 m 50 ls [])) → W p l e jr_Lw_isNext s m ([.ref a_r0, .int x1] : List Value).toArray below meth c H locs 0 0 Q (F0 m 35 ls []) := by
    intro n v_r0 z1 z2
    induction n with
    | zero =>
      intro z3 H locs hP hS ls hl q hR k
      cases hR
    | succ n ih =>
      intro z3 H locs hP hS ls hl q hR k
      rw [jf_Lw_isNext_L35] at hR
      refine lv_aload_n hx hb dL_isNext_35 rfl (lv_at hl 0 rfl) ?_
      refine lv_iload_n hx hb dL_isNext_36 rfl (lv_at hl 3 rfl) ?_
      by_cases c_6 : jin z3 5 = true
      case neg => replace hR := Eq.trans (Eq.symm (if_neg c_6)) hR; cases hR
      replace hR := Eq.trans (Eq.symm (if_pos c_6)) hR
      refine va_iald hx hb hK.1 hP 0 0 rfl rfl (jin_in c_6) dL_isNext_37 ?_
      refine lv_aload_n hx hb dL_isNext_38 rfl (lv_at hl 0 rfl) ?_
      refine lv_iload_n hx hb dL_isNext_39 rfl (lv_at hl 2 rfl) ?_
      by_cases c_7 : jin z2 5 = true
      case neg => replace hR := Eq.trans (Eq.symm (if_neg c_7)) hR; cases hR
      replace hR := Eq.trans (Eq.symm (if_pos c_7)) hR
      refine va_iald hx hb hK.1 hP 0 0 rfl rfl (jin_in c_7) dL_isNext_40 ?_
      refine lv_icmp_ge (tgt := 50) hx hb dL_isNext_41 (by decide) (fun c_8 => ?_) (fun c_8 => ?_)
      · replace hR := Eq.trans (Eq.symm (if_pos c_8)) hR
        cases hR
        exact k _ _ hP hS _ (lv_sub hl [0, 1, 2, 3] rfl)
      · replace hR := Eq.trans (Eq.symm (if_neg c_8)) hR
        refine lv_iinc (v := z3 + (-1)) (lv' := [(3, .int (z3 + (-1))), (0, .ref a_r0), (1, .int z1), (2, .int z2)]) hx hb dL_isNext_44 hl (k := 3) rfl (by first | rfl | decide) (by decide) rfl (fun ls hl => ?_)
        refine lv_goto (tgt := 35) hx hb dL_isNext_47 (by decide) ?_
        exact ih (z3 + (-1)) _ _ hP hS _ (lv_sub hl [1, 2, 3, 0] rfl) _ hR k
  have L76 : ∀ (n : Nat) (z5 : Int32) (z6 : Int32) (v_r0 : Nat → Int32) (H : Heap) (locs : List Loc), va_P g.1 vwCl (jw_ar5I g a_r0 v_r0) H → va_S A s.heap H locs → ∀ (ls : Array Slot), lv_has ls 7 [(0, .ref a_r0), (5, .int z5), (6, .int z6)] → ∀ q, jf_Lw_isNext_L76 n z5 z6 v_r0 = some q → (∀ (H : Heap) (locs : List Loc), va_P g.1 vwCl (jw_ar5I g a_r0 q) H → va_S A s.heap H locs → ∀ ls : Array Slot, lv_has ls 7 [] → W p l e jr_Lw_isNext s m ([.ref a_r0, .int x1] : List Value).toArray below meth c H locs 0 0 Q (F0 m 112 ls [])) → W p l e jr_Lw_isNext s m ([.ref a_r0, .int x1] : List Value).toArray below meth c H locs 0 0 Q (F0 m 76 ls []) := by
    intro n
    induction n with
    | zero =>
      intro z5 z6 v_r0 H locs hP hS ls hl q hR k
      cases hR
    | succ n ih =>
      intro z5 z6 v_r0 H locs hP hS ls hl q hR k
      rw [jf_Lw_isNext_L76] at hR
      refine lv_iload hx hb dL_isNext_76 (lv_at hl 1 rfl) ?_
      refine lv_iload hx hb dL_isNext_78 (lv_at hl 2 rfl) ?_
      refine lv_icmp_ge (tgt := 112) hx hb dL_isNext_80 (by decide) (fun c_13 => ?_) (fun c_13 => ?_)
      · replace hR := Eq.trans (Eq.symm (if_pos c_13)) hR
        cases hR
        exact k _ _ hP hS _ (lv_sub hl [] rfl)
      · replace hR := Eq.trans (Eq.symm (if_neg c_13)) hR
        refine lv_aload_n hx hb dL_isNext_83 rfl (lv_at hl 0 rfl) ?_
        refine lv_iload hx hb dL_isNext_84 (lv_at hl 1 rfl) ?_
        by_cases c_14 : jin z5 5 = true
        case neg => replace hR := Eq.trans (Eq.symm (if_neg c_14)) hR; cases hR
        replace hR := Eq.trans (Eq.symm (if_pos c_14)) hR
        refine va_iald hx hb hK.1 hP 0 0 rfl rfl (jin_in c_14) dL_isNext_86 ?_
        refine jlet_i hR (fun y4_2 hR => ?_)
        try dsimp only at hR
        refine lv_istore (lv' := [(4, .int y4_2), (0, .ref a_r0), (5, .int z5), (6, .int z6)]) hx hb dL_isNext_87 hl (by decide) rfl (fun ls hl => ?_)
        refine lv_aload_n hx hb dL_isNext_89 rfl (lv_at hl 1 rfl) ?_
        refine lv_iload hx hb dL_isNext_90 (lv_at hl 2 rfl) ?_
        refine lv_aload_n hx hb dL_isNext_92 rfl (lv_at hl 1 rfl) ?_
        refine lv_iload hx hb dL_isNext_93 (lv_at hl 3 rfl) ?_
        by_cases c_15 : jin z6 5 = true
        case neg => replace hR := Eq.trans (Eq.symm (if_neg c_15)) hR; cases hR
        replace hR := Eq.trans (Eq.symm (if_pos c_15)) hR
        refine va_iald hx hb hK.1 hP 0 0 rfl rfl (jin_in c_15) dL_isNext_95 ?_
        by_cases c_16 : jin z5 5 = true
        case neg => replace hR := Eq.trans (Eq.symm (if_neg c_16)) hR; cases hR
        replace hR := Eq.trans (Eq.symm (if_pos c_16)) hR
        refine va_iast hx hb hK.1 hP (jD_to hD rfl) hS 0 0 rfl rfl (jin_in c_16) dL_isNext_96 (fun H locs hP _ hS => ?_)
        have hP : va_P g.1 vwCl (jw_ar5I g a_r0 (upd v_r0 z5.toNatClampNeg (v_r0 z6.toNatClampNeg))) H := hP
        refine lv_aload_n hx hb dL_isNext_97 rfl (lv_at hl 1 rfl) ?_
        refine lv_iload hx hb dL_isNext_98 (lv_at hl 3 rfl) ?_
        refine lv_iload hx hb dL_isNext_100 (lv_at hl 0 rfl) ?_
        by_cases c_17 : jin z6 5 = true
        case neg => replace hR := Eq.trans (Eq.symm (if_neg c_17)) hR; cases hR
        replace hR := Eq.trans (Eq.symm (if_pos c_17)) hR
        refine va_iast hx hb hK.1 hP (jD_to hD rfl) hS 0 0 rfl rfl (jin_in c_17) dL_isNext_102 (fun H locs hP _ hS => ?_)
        have hP : va_P g.1 vwCl (jw_ar5I g a_r0 (upd (upd v_r0 z5.toNatClampNeg (v_r0 z6.toNatClampNeg)) z6.toNatClampNeg y4_2)) H := hP
        refine lv_iinc (v := z5 + 1) (lv' := [(5, .int (z5 + 1)), (4, .int y4_2), (0, .ref a_r0), (6, .int z6)]) hx hb dL_isNext_103 hl (k := 2) rfl (by first | rfl | decide) (by decide) rfl (fun ls hl => ?_)
        refine lv_iinc (v := z6 + (-1)) (lv' := [(6, .int (z6 + (-1))), (5, .int (z5 + 1)), (4, .int y4_2), (0, .ref a_r0)]) hx hb dL_isNext_106 hl (k := 3) rfl (by first | rfl | decide) (by decide) rfl (fun ls hl => ?_)
        refine lv_goto (tgt := 76) hx hb dL_isNext_109 (by decide) ?_
        exact ih (z5 + 1) (z6 + (-1)) (upd (upd v_r0 z5.toNatClampNeg (v_r0 z6.toNatClampNeg)) z6.toNatClampNeg y4_2) _ _ hP hS _ (lv_sub hl [3, 1, 0] rfl) _ hR k
  have J25 : ∀ (v_r0 : Nat → Int32) (z1 : Int32) (z2 : Int32) (H : Heap) (locs : List Loc), va_P g.1 vwCl (jw_ar5I g a_r0 v_r0) H → va_S A s.heap H locs → ∀ (ls : Array Slot), lv_has ls 7 [(0, .ref a_r0), (1, .int z1), (2, .int z2)] → jf_Lw_isNext_b25 v_r0 z1 z2 = some R → W p l e jr_Lw_isNext s m ([.ref a_r0, .int x1] : List Value).toArray below meth c H locs 0 0 Q (F0 m 25 ls []) := by
    intro v_r0 z1 z2 H locs hP hS ls hl hR
    rw [jf_Lw_isNext_b25] at hR
    refine lv_iload_n hx hb dL_isNext_25 rfl (lv_at hl 2 rfl) ?_
    refine lv_if_ge (tgt := 31) hx hb dL_isNext_26 (by decide) (fun c_5 => ?_) (fun c_5 => ?_)
    · replace hR := Eq.trans (Eq.symm (if_pos c_5)) hR
      refine lv_iload_n hx hb dL_isNext_31 rfl (lv_at hl 1 rfl) ?_
      refine lv_iconst (v := 1) hx hb dL_isNext_32 (by decide) ?_
      refine lv_isub hx hb dL_isNext_33 ?_
      refine jlet_i hR (fun y3_1 hR => ?_)
      try dsimp only at hR
      refine lv_istore_n (lv' := [(3, .int y3_1), (0, .ref a_r0), (1, .int z1), (2, .int z2)]) hx hb dL_isNext_34 rfl hl (by decide) rfl (fun ls hl => ?_)
      obtain ⟨q_2, hq_2, hR⟩ := jbind hR
      try dsimp only at hR
      refine L35 jF v_r0 z1 z2 y3_1 _ _ hP hS _ (lv_sub hl [1, 2, 3, 0] rfl) _ hq_2 (fun H locs hP hS ls hl => ?_)
      refine lv_aload_n hx hb dL_isNext_50 rfl (lv_at hl 0 rfl) ?_
      refine lv_iload_n hx hb dL_isNext_51 rfl (lv_at hl 2 rfl) ?_
      by_cases c_9 : jin z2 5 = true
      case neg => replace hR := Eq.trans (Eq.symm (if_neg c_9)) hR; cases hR
      replace hR := Eq.trans (Eq.symm (if_pos c_9)) hR
      refine va_iald hx hb hK.1 hP 0 0 rfl rfl (jin_in c_9) dL_isNext_52 ?_
      refine jlet_i hR (fun y4_1 hR => ?_)
      try dsimp only at hR
      refine lv_istore (lv' := [(4, .int y4_1), (0, .ref a_r0), (1, .int z1), (2, .int z2), (3, .int q_2)]) hx hb dL_isNext_53 hl (by decide) rfl (fun ls hl => ?_)
      refine lv_aload_n hx hb dL_isNext_55 rfl (lv_at hl 1 rfl) ?_
      refine lv_iload_n hx hb dL_isNext_56 rfl (lv_at hl 3 rfl) ?_
      refine lv_aload_n hx hb dL_isNext_57 rfl (lv_at hl 1 rfl) ?_
      refine lv_iload_n hx hb dL_isNext_58 rfl (lv_at hl 4 rfl) ?_
      by_cases c_10 : jin q_2 5 = true
      case neg => replace hR := Eq.trans (Eq.symm (if_neg c_10)) hR; cases hR
      replace hR := Eq.trans (Eq.symm (if_pos c_10)) hR
      refine va_iald hx hb hK.1 hP 0 0 rfl rfl (jin_in c_10) dL_isNext_59 ?_
      by_cases c_11 : jin z2 5 = true
      case neg => replace hR := Eq.trans (Eq.symm (if_neg c_11)) hR; cases hR
      replace hR := Eq.trans (Eq.symm (if_pos c_11)) hR
      refine va_iast hx hb hK.1 hP (jD_to hD rfl) hS 0 0 rfl rfl (jin_in c_11) dL_isNext_60 (fun H locs hP _ hS => ?_)
      have hP : va_P g.1 vwCl (jw_ar5I g a_r0 (upd v_r0 z2.toNatClampNeg (v_r0 q_2.toNatClampNeg))) H := hP
      refine lv_aload_n hx hb dL_isNext_61 rfl (lv_at hl 1 rfl) ?_
      refine lv_iload_n hx hb dL_isNext_62 rfl (lv_at hl 4 rfl) ?_
      refine lv_iload hx hb dL_isNext_63 (lv_at hl 0 rfl) ?_
      by_cases c_12 : jin q_2 5 = true
      case neg => replace hR := Eq.trans (Eq.symm (if_neg c_12)) hR; cases hR
      replace hR := Eq.trans (Eq.symm (if_pos c_12)) hR
      refine va_iast hx hb hK.1 hP (jD_to hD rfl) hS 0 0 rfl rfl (jin_in c_12) dL_isNext_65 (fun H locs hP _ hS => ?_)
      have hP : va_P g.1 vwCl (jw_ar5I g a_r0 (upd (upd v_r0 z2.toNatClampNeg (v_r0 q_2.toNatClampNeg)) q_2.toNatClampNeg y4_1)) H := hP
      refine lv_iload_n hx hb dL_isNext_66 rfl (lv_at hl 3 rfl) ?_
      refine lv_iconst (v := 1) hx hb dL_isNext_67 (by decide) ?_
      refine lv_iadd hx hb dL_isNext_68 ?_
      refine jlet_i hR (fun y5_1 hR => ?_)
      try dsimp only at hR
      refine lv_istore (lv' := [(5, .int y5_1), (4, .int y4_1), (0, .ref a_r0), (1, .int z1), (2, .int z2), (3, .int q_2)]) hx hb dL_isNext_69 hl (by decide) rfl (fun ls hl => ?_)
      refine lv_iload_n hx hb dL_isNext_71 rfl (lv_at hl 3 rfl) ?_
      refine lv_iconst (v := 1) hx hb dL_isNext_72 (by decide) ?_
      refine lv_isub hx hb dL_isNext_73 ?_
      refine jlet_i hR (fun y6_1 hR => ?_)
      try dsimp only at hR
      refine lv_istore (lv' := [(6, .int y6_1), (5, .int y5_1), (4, .int y4_1), (0, .ref a_r0), (1, .int z1), (2, .int z2), (3, .int q_2)]) hx hb dL_isNext_74 hl (by decide) rfl (fun ls hl => ?_)
      obtain ⟨q_3, hq_3, hR⟩ := jbind hR
      try dsimp only at hR
      refine L76 jF y5_1 y6_1 (upd (upd v_r0 z2.toNatClampNeg (v_r0 q_2.toNatClampNeg)) q_2.toNatClampNeg y4_1) _ _ hP hS _ (lv_sub hl [3, 1, 0] rfl) _ hq_3 (fun H locs hP hS ls hl => ?_)
      refine lv_iconst (v := 1) hx hb dL_isNext_112 (by decide) ?_
      obtain rfl := (Option.some.inj hR)
      exact fin _ _ _ _ _ (by first | rfl | decide) hP hS dL_isNext_113
    · replace hR := Eq.trans (Eq.symm (if_neg c_5)) hR
      refine lv_iconst (v := 0) hx hb dL_isNext_29 (by decide) ?_
      obtain rfl := (Option.some.inj hR)
      exact fin _ _ _ _ _ (by first | rfl | decide) hP hS dL_isNext_30
  rw [jf_Lw_isNext] at hR
  refine lv_iload_n hx hb dL_isNext_0 rfl (lv_at hl 1 rfl) ?_
  refine lv_iconst (v := 2) hx hb dL_isNext_1 (by decide) ?_
  refine lv_isub hx hb dL_isNext_2 ?_
  refine jlet_i hR (fun y2_1 hR => ?_)
  try dsimp only at hR
  refine lv_istore_n (lv' := [(2, .int y2_1), (0, .ref a_r0), (1, .int x1)]) hx hb dL_isNext_3 rfl hl (by decide) rfl (fun ls hl => ?_)
  obtain ⟨q_1, hq_1, hR⟩ := jbind hR
  try dsimp only at hR
  refine L4 jF v_r0 x1 y2_1 _ _ hP hS _ (lv_sub hl [1, 2, 0] rfl) _ hq_1 (fun H locs hP hS ls hl => ?_)
  exact J25 v_r0 x1 q_1 _ _ hP hS _ (lv_sub hl [0, 1, 2] rfl) hR
abbrev jw_ar64Iar64Iar64I (g : jG) (a_r2 a_r3 a_r4 : Nat) (v_r2 : Nat → Int32) (v_r3 : Nat → Int32) (v_r4 : Nat → Int32) : va_W := [(a_r2, .inl (g.2.1, 64, .inl v_r2)), (a_r3, .inl (g.2.1, 64, .inl v_r3)), (a_r4, .inl (g.2.1, 64, .inl v_r4))]
def jf_Lw_keeps_b50 (self : Int32 → Option (Unit ⊕ Unit)) (v_r2 : Nat → Int32) (v_r3 : Nat → Int32) (v_r4 : Nat → Int32) (z0 : Int32) (z1 : Int32) (z5 : Int32) (s0 : Int32) : Option (Unit ⊕ Unit) :=
  if s0 = z0 then (some (.inl ())) else (self (z5 + 1))
def jf_Lw_keeps_L3 (v_r2 : Nat → Int32) (v_r3 : Nat → Int32) (v_r4 : Nat → Int32) (z0 : Int32) (z1 : Int32) : Nat → Int32 → Option (Unit ⊕ Unit)
  | 0, _ => none
  | n + 1, z5 =>
    if z1 ≤ z5 then (some (.inr ())) else (if 64 ≤ z5 then (if 128 ≤ z5 then (if jin (z5 - 128) 64 = true then (jf_Lw_keeps_b50 (jf_Lw_keeps_L3 v_r2 v_r3 v_r4 z0 z1 n) v_r2 v_r3 v_r4 z0 z1 z5 (v_r4 (z5 - 128).toNatClampNeg)) else none) else (if jin (z5 - 64) 64 = true then (jf_Lw_keeps_b50 (jf_Lw_keeps_L3 v_r2 v_r3 v_r4 z0 z1 n) v_r2 v_r3 v_r4 z0 z1 z5 (v_r3 (z5 - 64).toNatClampNeg)) else none)) else (if jin z5 64 = true then (jf_Lw_keeps_b50 (jf_Lw_keeps_L3 v_r2 v_r3 v_r4 z0 z1 n) v_r2 v_r3 v_r4 z0 z1 z5 (v_r2 z5.toNatClampNeg)) else none))
def jf_Lw_keeps_b101 (v_r2 : Nat → Int32) (v_r3 : Nat → Int32) (v_r4 : Nat → Int32) (z1 : Int32) : Option (Int32 × (Nat → Int32) × (Nat → Int32) × (Nat → Int32)) :=
  some (z1 + 1, v_r2, v_r3, v_r4)
def jf_Lw_keeps (v_r2 : Nat → Int32) (v_r3 : Nat → Int32) (v_r4 : Nat → Int32) (x0 : Int32) (x1 : Int32) : Option (Int32 × (Nat → Int32) × (Nat → Int32) × (Nat → Int32)) :=
  Option.bind (jf_Lw_keeps_L3 v_r2 v_r3 v_r4 x0 x1 jF 0) (fun q_1 => jsum (fun o_1 => some (x1, v_r2, v_r3, v_r4)) (fun o_2 => if 64 ≤ x1 then (if 128 ≤ x1 then (if jin (x1 - 128) 64 = true then (jf_Lw_keeps_b101 v_r2 v_r3 (upd v_r4 (x1 - 128).toNatClampNeg x0) x1) else none) else (if jin (x1 - 64) 64 = true then (jf_Lw_keeps_b101 v_r2 (upd v_r3 (x1 - 64).toNatClampNeg x0) v_r4 x1) else none)) else (if jin x1 64 = true then (jf_Lw_keeps_b101 (upd v_r2 x1.toNatClampNeg x0) v_r3 v_r4 x1) else none)) q_1)
abbrev jr_Lw_keeps : Room := { frames := 0, cells := 0, slots := 0, locals := 0 }
set_option maxRecDepth 100000 in
set_option maxHeartbeats 4000000 in
theorem jc_Lw_keeps (l : Launch) (g : jG) (a_r2 a_r3 a_r4 : Nat) (v_r2 : Nat → Int32) (v_r3 : Nat → Int32) (v_r4 : Nat → Int32) (x0 : Int32) (x1 : Int32) (R : Int32 × (Nat → Int32) × (Nat → Int32) × (Nat → Int32)) (hR : jf_Lw_keeps v_r2 v_r3 v_r4 x0 x1 = some R) (sz : Nat) : Met l yL_keeps wsL_keeps jr_Lw_keeps (jPw g [.int x0, .int x1, .ref a_r2, .ref a_r3, .ref a_r4] (jw_ar64Iar64Iar64I g a_r2 a_r3 a_r4 v_r2 v_r3 v_r4) sz) (jQi g R.1 (jw_ar64Iar64Iar64I g a_r2 a_r3 a_r4 R.2.1 R.2.2.1 R.2.2.2) (va_A (jw_ar64Iar64Iar64I g a_r2 a_r3 a_r4 v_r2 v_r3 v_r4) sz)) 0 0 (va_A (jw_ar64Iar64Iar64I g a_r2 a_r3 a_r4 v_r2 v_r3 v_r4) sz) := by
  refine jm_wi (cc := cL_keeps) (maxL := 6) (by decide +kernel) rfl (Nat.le_of_ble_eq_true rfl) ?_
  intro p e s m below meth c A Q hx hb hml hown hts hK hP hD hA hS fin ls hl
  have hl : lv_has ls 6 [(0, .int x0), (1, .int x1), (2, .ref a_r2), (3, .ref a_r3), (4, .ref a_r4)] := hl
  have hown : s.vm.findClass RL = some m.cls := hown
  have L3 : ∀ (n : Nat) (v_r2 : Nat → Int32) (v_r3 : Nat → Int32) (v_r4 : Nat → Int32) (z0 : Int32) (z1 : Int32) (z5 : Int32) (H : Heap) (locs : List Loc), va_P g.1 vwCl (jw_ar64Iar64Iar64I g a_r2 a_r3 a_r4 v_r2 v_r3 v_r4) H → va_S A s.heap H locs → ∀ (ls : Array Slot), lv_has ls 6 [(0, .int z0), (1, .int z1), (2, .ref a_r2), (3, .ref a_r3), (4, .ref a_r4), (5, .int z5)] → ∀ q, jf_Lw_keeps_L3 v_r2 v_r3 v_r4 z0 z1 n z5 = some q → ((∀ o, q = .inl o → ∀ (H : Heap) (locs : List Loc), va_P g.1 vwCl (jw_ar64Iar64Iar64I g a_r2 a_r3 a_r4 v_r2 v_r3 v_r4) H → va_S A s.heap H locs → ∀ ls : Array Slot, lv_has ls 6 [(1, .int z1)] → W p l e jr_Lw_keeps s m ([.int x0, .int x1, .ref a_r2, .ref a_r3, .ref a_r4] : List Value).toArray below meth c H locs 0 0 Q (F0 m 54 ls [])) ∧ (∀ o, q = .inr o → ∀ (H : Heap) (locs : List Loc), va_P g.1 vwCl (jw_ar64Iar64Iar64I g a_r2 a_r3 a_r4 v_r2 v_r3 v_r4) H → va_S A s.heap H locs → ∀ ls : Array Slot, lv_has ls 6 [(0, .int z0), (1, .int z1), (2, .ref a_r2), (3, .ref a_r3), (4, .ref a_r4)] → W p l e jr_Lw_keeps s m ([.int x0, .int x1, .ref a_r2, .ref a_r3, .ref a_r4] : List Value).toArray below meth c H locs 0 0 Q (F0 m 62 ls []))) → W p l e jr_Lw_keeps s m ([.int x0, .int x1, .ref a_r2, .ref a_r3, .ref a_r4] : List Value).toArray below meth c H locs 0 0 Q (F0 m 3 ls []) := by
    intro n v_r2 v_r3 v_r4 z0 z1
    induction n with
    | zero =>
      intro z5 H locs hP hS ls hl q hR k
      cases hR
    | succ n ih =>
      have J50 : ∀ (z5 : Int32) (s0 : Int32) (H : Heap) (locs : List Loc), va_P g.1 vwCl (jw_ar64Iar64Iar64I g a_r2 a_r3 a_r4 v_r2 v_r3 v_r4) H → va_S A s.heap H locs → ∀ (ls : Array Slot), lv_has ls 6 [(0, .int z0), (1, .int z1), (2, .ref a_r2), (3, .ref a_r3), (4, .ref a_r4), (5, .int z5)] → ∀ q, jf_Lw_keeps_b50 (jf_Lw_keeps_L3 v_r2 v_r3 v_r4 z0 z1 n) v_r2 v_r3 v_r4 z0 z1 z5 s0 = some q → ((∀ o, q = .inl o → ∀ (H : Heap) (locs : List Loc), va_P g.1 vwCl (jw_ar64Iar64Iar64I g a_r2 a_r3 a_r4 v_r2 v_r3 v_r4) H → va_S A s.heap H locs → ∀ ls : Array Slot, lv_has ls 6 [(1, .int z1)] → W p l e jr_Lw_keeps s m ([.int x0, .int x1, .ref a_r2, .ref a_r3, .ref a_r4] : List Value).toArray below meth c H locs 0 0 Q (F0 m 54 ls [])) ∧ (∀ o, q = .inr o → ∀ (H : Heap) (locs : List Loc), va_P g.1 vwCl (jw_ar64Iar64Iar64I g a_r2 a_r3 a_r4 v_r2 v_r3 v_r4) H → va_S A s.heap H locs → ∀ ls : Array Slot, lv_has ls 6 [(0, .int z0), (1, .int z1), (2, .ref a_r2), (3, .ref a_r3), (4, .ref a_r4)] → W p l e jr_Lw_keeps s m ([.int x0, .int x1, .ref a_r2, .ref a_r3, .ref a_r4] : List Value).toArray below meth c H locs 0 0 Q (F0 m 62 ls []))) → W p l e jr_Lw_keeps s m ([.int x0, .int x1, .ref a_r2, .ref a_r3, .ref a_r4] : List Value).toArray below meth c H locs 0 0 Q (F0 m 50 ls [.int s0]) := by
        intro z5 s0 H locs hP hS ls hl q hR k
        rw [jf_Lw_keeps_b50] at hR
        refine lv_iload_n hx hb dL_keeps_50 rfl (lv_at hl 0 rfl) ?_
        refine lv_icmp_ne (tgt := 56) hx hb dL_keeps_51 (by decide) (fun c_5 => ?_) (fun c_5 => ?_)
        · replace hR := Eq.trans (Eq.symm (if_neg c_5)) hR
          refine lv_iinc (v := z5 + 1) (lv' := [(5, .int (z5 + 1)), (0, .int z0), (1, .int z1), (2, .ref a_r2), (3, .ref a_r3), (4, .ref a_r4)]) hx hb dL_keeps_56 hl (k := 5) rfl (by first | rfl | decide) (by decide) rfl (fun ls hl => ?_)
          refine lv_goto (tgt := 3) hx hb dL_keeps_59 (by decide) ?_
          exact ih (z5 + 1) _ _ hP hS _ (lv_sub hl [1, 2, 3, 4, 5, 0] rfl) _ hR k
        · replace hR := Eq.trans (Eq.symm (if_pos c_5)) hR
          cases hR
          exact k.1 _ rfl _ _ hP hS _ (lv_sub hl [1] rfl)
      intro z5 H locs hP hS ls hl q hR k
      rw [jf_Lw_keeps_L3] at hR
      refine lv_iload hx hb dL_keeps_3 (lv_at hl 5 rfl) ?_
      refine lv_iload_n hx hb dL_keeps_5 rfl (lv_at hl 1 rfl) ?_
      refine lv_icmp_ge (tgt := 62) hx hb dL_keeps_6 (by decide) (fun c_1 => ?_) (fun c_1 => ?_)
      · replace hR := Eq.trans (Eq.symm (if_pos c_1)) hR
        cases hR
        exact k.2 _ rfl _ _ hP hS _ (lv_sub hl [0, 1, 2, 3, 4] rfl)
      · replace hR := Eq.trans (Eq.symm (if_neg c_1)) hR
        refine lv_iload hx hb dL_keeps_9 (lv_at hl 5 rfl) ?_
        refine lv_bipush (v := 64) hx hb dL_keeps_11 (by decide) ?_
        refine lv_icmp_ge (tgt := 23) hx hb dL_keeps_13 (by decide) (fun c_2 => ?_) (fun c_2 => ?_)
        · replace hR := Eq.trans (Eq.symm (if_pos c_2)) hR
          refine lv_iload hx hb dL_keeps_23 (lv_at hl 5 rfl) ?_
          refine lv_sipush (v := 128) hx hb dL_keeps_25 (by decide) ?_
          refine lv_icmp_ge (tgt := 41) hx hb dL_keeps_28 (by decide) (fun c_3 => ?_) (fun c_3 => ?_)
          · replace hR := Eq.trans (Eq.symm (if_pos c_3)) hR
            refine lv_aload hx hb dL_keeps_41 (lv_at hl 4 rfl) ?_
            refine lv_iload hx hb dL_keeps_43 (lv_at hl 5 rfl) ?_
            refine lv_sipush (v := 128) hx hb dL_keeps_45 (by decide) ?_
            refine lv_isub hx hb dL_keeps_48 ?_
            by_cases c_4 : jin (z5 - 128) 64 = true
            case neg => replace hR := Eq.trans (Eq.symm (if_neg c_4)) hR; cases hR
            replace hR := Eq.trans (Eq.symm (if_pos c_4)) hR
            refine va_iald hx hb hK.1 hP 2 0 rfl rfl (jin_in c_4) dL_keeps_49 ?_
            exact J50 z5 (v_r4 (z5 - 128).toNatClampNeg) _ _ hP hS _ (lv_sub hl [0, 1, 2, 3, 4, 5] rfl) _ hR k
          · replace hR := Eq.trans (Eq.symm (if_neg c_3)) hR
            refine lv_aload_n hx hb dL_keeps_31 rfl (lv_at hl 3 rfl) ?_
            refine lv_iload hx hb dL_keeps_32 (lv_at hl 5 rfl) ?_
            refine lv_bipush (v := 64) hx hb dL_keeps_34 (by decide) ?_
            refine lv_isub hx hb dL_keeps_36 ?_
            by_cases c_6 : jin (z5 - 64) 64 = true
            case neg => replace hR := Eq.trans (Eq.symm (if_neg c_6)) hR; cases hR
            replace hR := Eq.trans (Eq.symm (if_pos c_6)) hR
            refine va_iald hx hb hK.1 hP 1 0 rfl rfl (jin_in c_6) dL_keeps_37 ?_
            refine lv_goto (tgt := 50) hx hb dL_keeps_38 (by decide) ?_
            exact J50 z5 (v_r3 (z5 - 64).toNatClampNeg) _ _ hP hS _ (lv_sub hl [0, 1, 2, 3, 4, 5] rfl) _ hR k
        · replace hR := Eq.trans (Eq.symm (if_neg c_2)) hR
          refine lv_aload_n hx hb dL_keeps_16 rfl (lv_at hl 2 rfl) ?_
          refine lv_iload hx hb dL_keeps_17 (lv_at hl 5 rfl) ?_
          by_cases c_7 : jin z5 64 = true
          case neg => replace hR := Eq.trans (Eq.symm (if_neg c_7)) hR; cases hR
          replace hR := Eq.trans (Eq.symm (if_pos c_7)) hR
          refine va_iald hx hb hK.1 hP 0 0 rfl rfl (jin_in c_7) dL_keeps_19 ?_
          refine lv_goto (tgt := 50) hx hb dL_keeps_20 (by decide) ?_
          exact J50 z5 (v_r2 z5.toNatClampNeg) _ _ hP hS _ (lv_sub hl [0, 1, 2, 3, 4, 5] rfl) _ hR k
  have J101 : ∀ (v_r2 : Nat → Int32) (v_r3 : Nat → Int32) (v_r4 : Nat → Int32) (z1 : Int32) (H : Heap) (locs : List Loc), va_P g.1 vwCl (jw_ar64Iar64Iar64I g a_r2 a_r3 a_r4 v_r2 v_r3 v_r4) H → va_S A s.heap H locs → ∀ (ls : Array Slot), lv_has ls 6 [(1, .int z1)] → jf_Lw_keeps_b101 v_r2 v_r3 v_r4 z1 = some R → W p l e jr_Lw_keeps s m ([.int x0, .int x1, .ref a_r2, .ref a_r3, .ref a_r4] : List Value).toArray below meth c H locs 0 0 Q (F0 m 101 ls []) := by
    intro v_r2 v_r3 v_r4 z1 H locs hP hS ls hl hR
    rw [jf_Lw_keeps_b101] at hR
    refine lv_iload_n hx hb dL_keeps_101 rfl (lv_at hl 0 rfl) ?_
    refine lv_iconst (v := 1) hx hb dL_keeps_102 (by decide) ?_
    refine lv_iadd hx hb dL_keeps_103 ?_
    obtain rfl := (Option.some.inj hR)
    exact fin _ _ _ _ _ rfl hP hS dL_keeps_104
  rw [jf_Lw_keeps] at hR
  refine lv_iconst (v := 0) hx hb dL_keeps_0 (by decide) ?_
  refine lv_istore (lv' := [(5, .int 0), (0, .int x0), (1, .int x1), (2, .ref a_r2), (3, .ref a_r3), (4, .ref a_r4)]) hx hb dL_keeps_1 hl (by decide) rfl (fun ls hl => ?_)
  obtain ⟨q_1, hq_1, hR⟩ := jbind hR
  refine L3 jF v_r2 v_r3 v_r4 x0 x1 0 _ _ hP hS _ (lv_sub hl [1, 2, 3, 4, 5, 0] rfl) _ hq_1 ⟨fun o_1 ho H locs hP hS ls hl => ?_, fun o_2 ho H locs hP hS ls hl => ?_⟩
  · rw [ho] at hR
    try dsimp only [jsum] at hR
    refine lv_iload_n hx hb dL_keeps_54 rfl (lv_at hl 0 rfl) ?_
    obtain rfl := (Option.some.inj hR)
    exact fin _ _ _ _ _ rfl hP hS dL_keeps_55
  · rw [ho] at hR
    try dsimp only [jsum] at hR
    refine lv_iload_n hx hb dL_keeps_62 rfl (lv_at hl 1 rfl) ?_
    refine lv_bipush (v := 64) hx hb dL_keeps_63 (by decide) ?_
    refine lv_icmp_ge (tgt := 75) hx hb dL_keeps_65 (by decide) (fun c_8 => ?_) (fun c_8 => ?_)
    · replace hR := Eq.trans (Eq.symm (if_pos c_8)) hR
      refine lv_iload_n hx hb dL_keeps_75 rfl (lv_at hl 1 rfl) ?_
      refine lv_sipush (v := 128) hx hb dL_keeps_76 (by decide) ?_
      refine lv_icmp_ge (tgt := 92) hx hb dL_keeps_79 (by decide) (fun c_9 => ?_) (fun c_9 => ?_)
      · replace hR := Eq.trans (Eq.symm (if_pos c_9)) hR
        refine lv_aload hx hb dL_keeps_92 (lv_at hl 4 rfl) ?_
        refine lv_iload_n hx hb dL_keeps_94 rfl (lv_at hl 1 rfl) ?_
        refine lv_sipush (v := 128) hx hb dL_keeps_95 (by decide) ?_
        refine lv_isub hx hb dL_keeps_98 ?_
        refine lv_iload_n hx hb dL_keeps_99 rfl (lv_at hl 0 rfl) ?_
        by_cases c_10 : jin (x1 - 128) 64 = true
        case neg => replace hR := Eq.trans (Eq.symm (if_neg c_10)) hR; cases hR
        replace hR := Eq.trans (Eq.symm (if_pos c_10)) hR
        refine va_iast hx hb hK.1 hP (jD_to hD rfl) hS 2 0 rfl rfl (jin_in c_10) dL_keeps_100 (fun H locs hP _ hS => ?_)
        have hP : va_P g.1 vwCl (jw_ar64Iar64Iar64I g a_r2 a_r3 a_r4 v_r2 v_r3 (upd v_r4 (x1 - 128).toNatClampNeg x0)) H := hP
        exact J101 v_r2 v_r3 (upd v_r4 (x1 - 128).toNatClampNeg x0) x1 _ _ hP hS _ (lv_sub hl [1] rfl) hR
      · replace hR := Eq.trans (Eq.symm (if_neg c_9)) hR
        refine lv_aload_n hx hb dL_keeps_82 rfl (lv_at hl 3 rfl) ?_
        refine lv_iload_n hx hb dL_keeps_83 rfl (lv_at hl 1 rfl) ?_
        refine lv_bipush (v := 64) hx hb dL_keeps_84 (by decide) ?_
        refine lv_isub hx hb dL_keeps_86 ?_
        refine lv_iload_n hx hb dL_keeps_87 rfl (lv_at hl 0 rfl) ?_
        by_cases c_11 : jin (x1 - 64) 64 = true
        case neg => replace hR := Eq.trans (Eq.symm (if_neg c_11)) hR; cases hR
        replace hR := Eq.trans (Eq.symm (if_pos c_11)) hR
        refine va_iast hx hb hK.1 hP (jD_to hD rfl) hS 1 0 rfl rfl (jin_in c_11) dL_keeps_88 (fun H locs hP _ hS => ?_)
        have hP : va_P g.1 vwCl (jw_ar64Iar64Iar64I g a_r2 a_r3 a_r4 v_r2 (upd v_r3 (x1 - 64).toNatClampNeg x0) v_r4) H := hP
        refine lv_goto (tgt := 101) hx hb dL_keeps_89 (by decide) ?_
        exact J101 v_r2 (upd v_r3 (x1 - 64).toNatClampNeg x0) v_r4 x1 _ _ hP hS _ (lv_sub hl [1] rfl) hR
    · replace hR := Eq.trans (Eq.symm (if_neg c_8)) hR
      refine lv_aload_n hx hb dL_keeps_68 rfl (lv_at hl 2 rfl) ?_
      refine lv_iload_n hx hb dL_keeps_69 rfl (lv_at hl 1 rfl) ?_
      refine lv_iload_n hx hb dL_keeps_70 rfl (lv_at hl 0 rfl) ?_
      by_cases c_12 : jin x1 64 = true
      case neg => replace hR := Eq.trans (Eq.symm (if_neg c_12)) hR; cases hR
      replace hR := Eq.trans (Eq.symm (if_pos c_12)) hR
      refine va_iast hx hb hK.1 hP (jD_to hD rfl) hS 0 0 rfl rfl (jin_in c_12) dL_keeps_71 (fun H locs hP _ hS => ?_)
      have hP : va_P g.1 vwCl (jw_ar64Iar64Iar64I g a_r2 a_r3 a_r4 (upd v_r2 x1.toNatClampNeg x0) v_r3 v_r4) H := hP
      refine lv_goto (tgt := 101) hx hb dL_keeps_72 (by decide) ?_
      exact J101 (upd v_r2 x1.toNatClampNeg x0) v_r3 v_r4 x1 _ _ hP hS _ (lv_sub hl [1] rfl) hR
abbrev jw_ar5Iar5I (g : jG) (a_r3 a_r4 : Nat) (v_r3 : Nat → Int32) (v_r4 : Nat → Int32) : va_W := [(a_r3, .inl (g.2.1, 5, .inl v_r3)), (a_r4, .inl (g.2.1, 5, .inl v_r4))]
def jf_Lw_reach_b142 (self : Int32 → Int32 → Option Int32) (v_r3 : Nat → Int32) (v_r4 : Nat → Int32) (z1 : Int32) (z2 : Int32) (z5 : Int32) (z6 : Int32) (z7 : Int32) (z8 : Int32) : Option Int32 :=
  self z5 (z8 + 1)
def jf_Lw_reach_b115 (self : Int32 → Int32 → Option Int32) (v_r3 : Nat → Int32) (v_r4 : Nat → Int32) (z1 : Int32) (z2 : Int32) (z5 : Int32) (z6 : Int32) (z7 : Int32) (z8 : Int32) (s0 : Int32) : Option Int32 :=
  if (z5 >>> (z7 &&& 31)) &&& 1 = 1 then (if s0 = 0 then (jf_Lw_reach_b142 self v_r3 v_r4 z1 z2 z5 z6 z7 z8) else (jlet (z5 ||| (1 <<< (z8 &&& 31))) (fun y5_2 => jf_Lw_reach_b142 self v_r3 v_r4 z1 z2 y5_2 z6 z7 z8))) else (jf_Lw_reach_b142 self v_r3 v_r4 z1 z2 z5 z6 z7 z8)
def jf_Lw_reach_b114 (self : Int32 → Int32 → Option Int32) (v_r3 : Nat → Int32) (v_r4 : Nat → Int32) (z1 : Int32) (z2 : Int32) (z5 : Int32) (z6 : Int32) (z7 : Int32) (z8 : Int32) : Option Int32 :=
  jf_Lw_reach_b115 self v_r3 v_r4 z1 z2 z5 z6 z7 z8 0
def jf_Lw_reach_b110 (self : Int32 → Int32 → Option Int32) (v_r3 : Nat → Int32) (v_r4 : Nat → Int32) (z1 : Int32) (z2 : Int32) (z5 : Int32) (z6 : Int32) (z7 : Int32) (z8 : Int32) : Option Int32 :=
  jf_Lw_reach_b115 self v_r3 v_r4 z1 z2 z5 z6 z7 z8 1
def jf_Lw_reach_b83 (self : Int32 → Int32 → Option Int32) (v_r3 : Nat → Int32) (v_r4 : Nat → Int32) (z1 : Int32) (z2 : Int32) (z5 : Int32) (z6 : Int32) (z7 : Int32) (z8 : Int32) : Option Int32 :=
  if z1 &&& 4 ≤ 0 then (jf_Lw_reach_b114 self v_r3 v_r4 z1 z2 z5 z6 z7 z8) else (if jin z7 5 = true then (if jin (v_r3 z7.toNatClampNeg) 5 = true then (Option.bind (jf_Lw_before v_r3 (v_r4 (v_r3 z7.toNatClampNeg).toNatClampNeg)) (fun q_1 => Option.bind (jf_Lw_before v_r4 q_1) (fun q_2 => if q_2 = z8 then (jf_Lw_reach_b110 self v_r3 v_r4 z1 z2 z5 z6 z7 z8) else (jf_Lw_reach_b114 self v_r3 v_r4 z1 z2 z5 z6 z7 z8)))) else none) else none)
def jf_Lw_reach_b57 (self : Int32 → Int32 → Option Int32) (v_r3 : Nat → Int32) (v_r4 : Nat → Int32) (z1 : Int32) (z2 : Int32) (z5 : Int32) (z6 : Int32) (z7 : Int32) (z8 : Int32) : Option Int32 :=
  if z1 &&& 2 ≤ 0 then (jf_Lw_reach_b83 self v_r3 v_r4 z1 z2 z5 z6 z7 z8) else (if jin z7 5 = true then (if v_r4 z7.toNatClampNeg = z8 then (jf_Lw_reach_b110 self v_r3 v_r4 z1 z2 z5 z6 z7 z8) else (if jin z8 5 = true then (if v_r4 z8.toNatClampNeg = z7 then (jf_Lw_reach_b110 self v_r3 v_r4 z1 z2 z5 z6 z7 z8) else (jf_Lw_reach_b83 self v_r3 v_r4 z1 z2 z5 z6 z7 z8)) else none)) else none)
def jf_Lw_reach_L27 (v_r3 : Nat → Int32) (v_r4 : Nat → Int32) (z1 : Int32) (z2 : Int32) (z6 : Int32) (z7 : Int32) : Nat → Int32 → Int32 → Option Int32
  | 0, _, _ => none
  | n + 1, z5, z8 =>
    if z2 ≤ z8 then (some z5) else (if z1 &&& 1 ≤ 0 then (jf_Lw_reach_b57 (jf_Lw_reach_L27 v_r3 v_r4 z1 z2 z6 z7 n) v_r3 v_r4 z1 z2 z5 z6 z7 z8) else (if jin z7 5 = true then (if v_r3 z7.toNatClampNeg = z8 then (jf_Lw_reach_b110 (jf_Lw_reach_L27 v_r3 v_r4 z1 z2 z6 z7 n) v_r3 v_r4 z1 z2 z5 z6 z7 z8) else (if jin z8 5 = true then (if v_r3 z8.toNatClampNeg = z7 then (jf_Lw_reach_b110 (jf_Lw_reach_L27 v_r3 v_r4 z1 z2 z6 z7 n) v_r3 v_r4 z1 z2 z5 z6 z7 z8) else (jf_Lw_reach_b57 (jf_Lw_reach_L27 v_r3 v_r4 z1 z2 z6 z7 n) v_r3 v_r4 z1 z2 z5 z6 z7 z8)) else none)) else none))
def jf_Lw_reach_L18 (v_r3 : Nat → Int32) (v_r4 : Nat → Int32) (z1 : Int32) (z2 : Int32) (z6 : Int32) : Nat → Int32 → Int32 → Option Int32
  | 0, _, _ => none
  | n + 1, z5, z7 =>
    if z2 ≤ z7 then (some z5) else (Option.bind (jf_Lw_reach_L27 v_r3 v_r4 z1 z2 z6 z7 jF z5 0) (fun q_3 => (jf_Lw_reach_L18 v_r3 v_r4 z1 z2 z6 n) q_3 (z7 + 1)))
def jf_Lw_reach_L8 (v_r3 : Nat → Int32) (v_r4 : Nat → Int32) (z1 : Int32) (z2 : Int32) : Nat → Int32 → Int32 → Option Int32
  | 0, _, _ => none
  | n + 1, z5, z6 =>
    if 10 ≤ z6 then (some z5) else (Option.bind (jf_Lw_reach_L18 v_r3 v_r4 z1 z2 z6 jF z5 0) (fun q_4 => (jf_Lw_reach_L8 v_r3 v_r4 z1 z2 n) q_4 (z6 + 1)))
def jf_Lw_reach (v_r3 : Nat → Int32) (v_r4 : Nat → Int32) (x0 : Int32) (x1 : Int32) (x2 : Int32) : Option Int32 :=
  jlet (1 <<< (x0 &&& 31)) (fun y5_1 => Option.bind (jf_Lw_reach_L8 v_r3 v_r4 x1 x2 jF y5_1 0) (fun q_5 => some q_5))
abbrev jr_Lw_reach : Room := { frames := 1, cells := 0, slots := 0, locals := 22 }
set_option maxRecDepth 100000 in
set_option maxHeartbeats 4000000 in
theorem jc_Lw_reach (l : Launch) (g : jG) (a_r3 a_r4 : Nat) (v_r3 : Nat → Int32) (v_r4 : Nat → Int32) (x0 : Int32) (x1 : Int32) (x2 : Int32) (R : Int32) (hR : jf_Lw_reach v_r3 v_r4 x0 x1 x2 = some R) : Met l yL_reach wsL_reach jr_Lw_reach (jPr g [.int x0, .int x1, .int x2, .ref a_r3, .ref a_r4] (jw_ar5Iar5I g a_r3 a_r4 v_r3 v_r4)) (vp_Si (fun r => r = R)) 0 0 (fun _ => False) := by
  refine jm_ri (cc := cL_reach) (maxL := 10) (by decide +kernel) rfl (Nat.le_of_ble_eq_true rfl) ?_
  intro p e s m below meth c Q hx hb hml hown hts hK hP fin ls hl
  have hl : lv_has ls 10 [(0, .int x0), (1, .int x1), (2, .int x2), (3, .ref a_r3), (4, .ref a_r4)] := hl
  have hown : s.vm.findClass RL = some m.cls := hown
  have L8 : ∀ (n : Nat) (z1 : Int32) (z2 : Int32) (z5 : Int32) (z6 : Int32) (ls : Array Slot), lv_has ls 10 [(1, .int z1), (2, .int z2), (3, .ref a_r3), (4, .ref a_r4), (5, .int z5), (6, .int z6)] → ∀ q, jf_Lw_reach_L8 v_r3 v_r4 z1 z2 n z5 z6 = some q → (∀ ls : Array Slot, lv_has ls 10 [(5, .int q)] → W p l e jr_Lw_reach s m ([.int x0, .int x1, .int x2, .ref a_r3, .ref a_r4] : List Value).toArray below meth c s.heap [] 0 0 Q (F0 m 160 ls [])) → W p l e jr_Lw_reach s m ([.int x0, .int x1, .int x2, .ref a_r3, .ref a_r4] : List Value).toArray below meth c s.heap [] 0 0 Q (F0 m 8 ls []) := by
    intro n z1 z2
    induction n with
    | zero =>
      intro z5 z6 ls hl q hR k
      cases hR
    | succ n ih =>
      have L18 : ∀ (n : Nat) (z1 : Int32) (z2 : Int32) (z6 : Int32) (z5 : Int32) (z7 : Int32) (ls : Array Slot), lv_has ls 10 [(1, .int z1), (2, .int z2), (3, .ref a_r3), (4, .ref a_r4), (5, .int z5), (6, .int z6), (7, .int z7)] → ∀ q, jf_Lw_reach_L18 v_r3 v_r4 z1 z2 z6 n z5 z7 = some q → (∀ ls : Array Slot, lv_has ls 10 [(1, .int z1), (2, .int z2), (3, .ref a_r3), (4, .ref a_r4), (5, .int q), (6, .int z6)] → W p l e jr_Lw_reach s m ([.int x0, .int x1, .int x2, .ref a_r3, .ref a_r4] : List Value).toArray below meth c s.heap [] 0 0 Q (F0 m 154 ls [])) → W p l e jr_Lw_reach s m ([.int x0, .int x1, .int x2, .ref a_r3, .ref a_r4] : List Value).toArray below meth c s.heap [] 0 0 Q (F0 m 18 ls []) := by
        intro n z1 z2 z6
        induction n with
        | zero =>
          intro z5 z7 ls hl q hR k
          cases hR
        | succ n ih =>
          have L27 : ∀ (n : Nat) (z1 : Int32) (z2 : Int32) (z6 : Int32) (z7 : Int32) (z5 : Int32) (z8 : Int32) (ls : Array Slot), lv_has ls 10 [(1, .int z1), (2, .int z2), (3, .ref a_r3), (4, .ref a_r4), (5, .int z5), (6, .int z6), (7, .int z7), (8, .int z8)] → ∀ q, jf_Lw_reach_L27 v_r3 v_r4 z1 z2 z6 z7 n z5 z8 = some q → (∀ ls : Array Slot, lv_has ls 10 [(1, .int z1), (2, .int z2), (3, .ref a_r3), (4, .ref a_r4), (5, .int q), (6, .int z6), (7, .int z7)] → W p l e jr_Lw_reach s m ([.int x0, .int x1, .int x2, .ref a_r3, .ref a_r4] : List Value).toArray below meth c s.heap [] 0 0 Q (F0 m 148 ls [])) → W p l e jr_Lw_reach s m ([.int x0, .int x1, .int x2, .ref a_r3, .ref a_r4] : List Value).toArray below meth c s.heap [] 0 0 Q (F0 m 27 ls []) := by
            intro n z1 z2 z6 z7
            induction n with
            | zero =>
              intro z5 z8 ls hl q hR k
              cases hR
            | succ n ih =>
              have J142 : ∀ (z5 : Int32) (z8 : Int32) (ls : Array Slot), lv_has ls 10 [(1, .int z1), (2, .int z2), (3, .ref a_r3), (4, .ref a_r4), (5, .int z5), (6, .int z6), (7, .int z7), (8, .int z8)] → ∀ q, jf_Lw_reach_b142 (jf_Lw_reach_L27 v_r3 v_r4 z1 z2 z6 z7 n) v_r3 v_r4 z1 z2 z5 z6 z7 z8 = some q → (∀ ls : Array Slot, lv_has ls 10 [(1, .int z1), (2, .int z2), (3, .ref a_r3), (4, .ref a_r4), (5, .int q), (6, .int z6), (7, .int z7)] → W p l e jr_Lw_reach s m ([.int x0, .int x1, .int x2, .ref a_r3, .ref a_r4] : List Value).toArray below meth c s.heap [] 0 0 Q (F0 m 148 ls [])) → W p l e jr_Lw_reach s m ([.int x0, .int x1, .int x2, .ref a_r3, .ref a_r4] : List Value).toArray below meth c s.heap [] 0 0 Q (F0 m 142 ls []) := by
                intro z5 z8 ls hl q hR k
                rw [jf_Lw_reach_b142] at hR
                refine lv_iinc (v := z8 + 1) (lv' := [(8, .int (z8 + 1)), (1, .int z1), (2, .int z2), (3, .ref a_r3), (4, .ref a_r4), (5, .int z5), (6, .int z6), (7, .int z7)]) hx hb dL_reach_142 hl (k := 7) rfl (by first | rfl | decide) (by decide) rfl (fun ls hl => ?_)
                refine lv_goto (tgt := 27) hx hb dL_reach_145 (by decide) ?_
                exact ih z5 (z8 + 1) _ (lv_sub hl [1, 2, 3, 4, 5, 6, 7, 0] rfl) _ hR k
              have J115 : ∀ (z5 : Int32) (z8 : Int32) (s0 : Int32) (ls : Array Slot), lv_has ls 10 [(1, .int z1), (2, .int z2), (3, .ref a_r3), (4, .ref a_r4), (5, .int z5), (6, .int z6), (7, .int z7), (8, .int z8)] → ∀ q, jf_Lw_reach_b115 (jf_Lw_reach_L27 v_r3 v_r4 z1 z2 z6 z7 n) v_r3 v_r4 z1 z2 z5 z6 z7 z8 s0 = some q → (∀ ls : Array Slot, lv_has ls 10 [(1, .int z1), (2, .int z2), (3, .ref a_r3), (4, .ref a_r4), (5, .int q), (6, .int z6), (7, .int z7)] → W p l e jr_Lw_reach s m ([.int x0, .int x1, .int x2, .ref a_r3, .ref a_r4] : List Value).toArray below meth c s.heap [] 0 0 Q (F0 m 148 ls [])) → W p l e jr_Lw_reach s m ([.int x0, .int x1, .int x2, .ref a_r3, .ref a_r4] : List Value).toArray below meth c s.heap [] 0 0 Q (F0 m 115 ls [.int s0]) := by
                intro z5 z8 s0 ls hl q hR k
                rw [jf_Lw_reach_b115] at hR
                refine lv_istore (lv' := [(9, .int s0), (1, .int z1), (2, .int z2), (3, .ref a_r3), (4, .ref a_r4), (5, .int z5), (6, .int z6), (7, .int z7), (8, .int z8)]) hx hb dL_reach_115 hl (by decide) rfl (fun ls hl => ?_)
                refine lv_iload hx hb dL_reach_117 (lv_at hl 5 rfl) ?_
                refine lv_iload hx hb dL_reach_119 (lv_at hl 7 rfl) ?_
                refine lv_ishr hx hb dL_reach_121 ?_
                refine lv_iconst (v := 1) hx hb dL_reach_122 (by decide) ?_
                refine lv_iand hx hb dL_reach_123 ?_
                refine lv_iconst (v := 1) hx hb dL_reach_124 (by decide) ?_
                refine lv_icmp_ne (tgt := 142) hx hb dL_reach_125 (by decide) (fun c_7 => ?_) (fun c_7 => ?_)
                · replace hR := Eq.trans (Eq.symm (if_neg c_7)) hR
                  exact J142 z5 z8 _ (lv_sub hl [1, 2, 3, 4, 5, 6, 7, 8] rfl) _ hR k
                · replace hR := Eq.trans (Eq.symm (if_pos c_7)) hR
                  refine lv_iload hx hb dL_reach_128 (lv_at hl 0 rfl) ?_
                  refine lv_if_eq (tgt := 142) hx hb dL_reach_130 (by decide) (fun c_8 => ?_) (fun c_8 => ?_)
                  · replace hR := Eq.trans (Eq.symm (if_pos c_8)) hR
                    exact J142 z5 z8 _ (lv_sub hl [1, 2, 3, 4, 5, 6, 7, 8] rfl) _ hR k
                  · replace hR := Eq.trans (Eq.symm (if_neg c_8)) hR
                    refine lv_iload hx hb dL_reach_133 (lv_at hl 5 rfl) ?_
                    refine lv_iconst (v := 1) hx hb dL_reach_135 (by decide) ?_
                    refine lv_iload hx hb dL_reach_136 (lv_at hl 8 rfl) ?_
                    refine lv_ishl hx hb dL_reach_138 ?_
                    refine lv_ior hx hb dL_reach_139 ?_
                    refine jlet_i hR (fun y5_2 hR => ?_)
                    try dsimp only at hR
                    refine lv_istore (lv' := [(5, .int y5_2), (9, .int s0), (1, .int z1), (2, .int z2), (3, .ref a_r3), (4, .ref a_r4), (6, .int z6), (7, .int z7), (8, .int z8)]) hx hb dL_reach_140 hl (by decide) rfl (fun ls hl => ?_)
                    exact J142 y5_2 z8 _ (lv_sub hl [2, 3, 4, 5, 0, 6, 7, 8] rfl) _ hR k
              have J114 : ∀ (z5 : Int32) (z8 : Int32) (ls : Array Slot), lv_has ls 10 [(1, .int z1), (2, .int z2), (3, .ref a_r3), (4, .ref a_r4), (5, .int z5), (6, .int z6), (7, .int z7), (8, .int z8)] → ∀ q, jf_Lw_reach_b114 (jf_Lw_reach_L27 v_r3 v_r4 z1 z2 z6 z7 n) v_r3 v_r4 z1 z2 z5 z6 z7 z8 = some q → (∀ ls : Array Slot, lv_has ls 10 [(1, .int z1), (2, .int z2), (3, .ref a_r3), (4, .ref a_r4), (5, .int q), (6, .int z6), (7, .int z7)] → W p l e jr_Lw_reach s m ([.int x0, .int x1, .int x2, .ref a_r3, .ref a_r4] : List Value).toArray below meth c s.heap [] 0 0 Q (F0 m 148 ls [])) → W p l e jr_Lw_reach s m ([.int x0, .int x1, .int x2, .ref a_r3, .ref a_r4] : List Value).toArray below meth c s.heap [] 0 0 Q (F0 m 114 ls []) := by
                intro z5 z8 ls hl q hR k
                rw [jf_Lw_reach_b114] at hR
                refine lv_iconst (v := 0) hx hb dL_reach_114 (by decide) ?_
                exact J115 z5 z8 0 _ (lv_sub hl [0, 1, 2, 3, 4, 5, 6, 7] rfl) _ hR k
              have J110 : ∀ (z5 : Int32) (z8 : Int32) (ls : Array Slot), lv_has ls 10 [(1, .int z1), (2, .int z2), (3, .ref a_r3), (4, .ref a_r4), (5, .int z5), (6, .int z6), (7, .int z7), (8, .int z8)] → ∀ q, jf_Lw_reach_b110 (jf_Lw_reach_L27 v_r3 v_r4 z1 z2 z6 z7 n) v_r3 v_r4 z1 z2 z5 z6 z7 z8 = some q → (∀ ls : Array Slot, lv_has ls 10 [(1, .int z1), (2, .int z2), (3, .ref a_r3), (4, .ref a_r4), (5, .int q), (6, .int z6), (7, .int z7)] → W p l e jr_Lw_reach s m ([.int x0, .int x1, .int x2, .ref a_r3, .ref a_r4] : List Value).toArray below meth c s.heap [] 0 0 Q (F0 m 148 ls [])) → W p l e jr_Lw_reach s m ([.int x0, .int x1, .int x2, .ref a_r3, .ref a_r4] : List Value).toArray below meth c s.heap [] 0 0 Q (F0 m 110 ls []) := by
                intro z5 z8 ls hl q hR k
                rw [jf_Lw_reach_b110] at hR
                refine lv_iconst (v := 1) hx hb dL_reach_110 (by decide) ?_
                refine lv_goto (tgt := 115) hx hb dL_reach_111 (by decide) ?_
                exact J115 z5 z8 1 _ (lv_sub hl [0, 1, 2, 3, 4, 5, 6, 7] rfl) _ hR k
              have J83 : ∀ (z5 : Int32) (z8 : Int32) (ls : Array Slot), lv_has ls 10 [(1, .int z1), (2, .int z2), (3, .ref a_r3), (4, .ref a_r4), (5, .int z5), (6, .int z6), (7, .int z7), (8, .int z8)] → ∀ q, jf_Lw_reach_b83 (jf_Lw_reach_L27 v_r3 v_r4 z1 z2 z6 z7 n) v_r3 v_r4 z1 z2 z5 z6 z7 z8 = some q → (∀ ls : Array Slot, lv_has ls 10 [(1, .int z1), (2, .int z2), (3, .ref a_r3), (4, .ref a_r4), (5, .int q), (6, .int z6), (7, .int z7)] → W p l e jr_Lw_reach s m ([.int x0, .int x1, .int x2, .ref a_r3, .ref a_r4] : List Value).toArray below meth c s.heap [] 0 0 Q (F0 m 148 ls [])) → W p l e jr_Lw_reach s m ([.int x0, .int x1, .int x2, .ref a_r3, .ref a_r4] : List Value).toArray below meth c s.heap [] 0 0 Q (F0 m 83 ls []) := by
                intro z5 z8 ls hl q hR k
                rw [jf_Lw_reach_b83] at hR
                refine lv_iload_n hx hb dL_reach_83 rfl (lv_at hl 0 rfl) ?_
                refine lv_iconst (v := 4) hx hb dL_reach_84 (by decide) ?_
                refine lv_iand hx hb dL_reach_85 ?_
                refine lv_if_le (tgt := 114) hx hb dL_reach_86 (by decide) (fun c_6 => ?_) (fun c_6 => ?_)
                · replace hR := Eq.trans (Eq.symm (if_pos c_6)) hR
                  exact J114 z5 z8 _ (lv_sub hl [0, 1, 2, 3, 4, 5, 6, 7] rfl) _ hR k
                · replace hR := Eq.trans (Eq.symm (if_neg c_6)) hR
                  refine lv_aload hx hb dL_reach_89 (lv_at hl 3 rfl) ?_
                  refine lv_aload_n hx hb dL_reach_91 rfl (lv_at hl 2 rfl) ?_
                  refine lv_iload hx hb dL_reach_92 (lv_at hl 6 rfl) ?_
                  by_cases c_9 : jin z7 5 = true
                  case neg => replace hR := Eq.trans (Eq.symm (if_neg c_9)) hR; cases hR
                  replace hR := Eq.trans (Eq.symm (if_pos c_9)) hR
                  refine va_iald hx hb hK.1 hP 0 0 rfl rfl (jin_in c_9) dL_reach_94 ?_
                  by_cases c_10 : jin (v_r3 z7.toNatClampNeg) 5 = true
                  case neg => replace hR := Eq.trans (Eq.symm (if_neg c_10)) hR; cases hR
                  replace hR := Eq.trans (Eq.symm (if_pos c_10)) hR
                  refine va_iald hx hb hK.1 hP 1 0 rfl rfl (jin_in c_10) dL_reach_95 ?_
                  refine lv_aload_n hx hb dL_reach_96 rfl (lv_at hl 2 rfl) ?_
                  obtain ⟨q_1, hq_1, hR⟩ := jbind hR
                  try dsimp only at hR
                  refine jcall_ri (va_runS (As := [.int (v_r4 (v_r3 z7.toNatClampNeg).toNatClampNeg), .ref a_r3]) (rest := []) ⟨hx, hb, hml, hown, hts⟩ (jc_Lw_before l g a_r3 v_r3 (v_r4 (v_r3 z7.toNatClampNeg).toNatClampNeg) _ hq_1) (va_cwS 2 hts gL_reach_L_before rfl rfl rfl (by decide +kernel) ⟨Nat.le_of_ble_eq_true rfl, Nat.le_of_ble_eq_true rfl⟩) (jpr_s hK (hP.sub (ws' := jw_ar5I g a_r3 v_r3) [0] rfl)) rfl rfl hl.1 rfl (lv_room (Nat.le_of_ble_eq_true rfl)) dL_reach_97 ⟨Nat.zero_le _, Nat.zero_le _⟩) ?_
                  refine lv_aload hx hb dL_reach_100 (lv_at hl 3 rfl) ?_
                  obtain ⟨q_2, hq_2, hR⟩ := jbind hR
                  try dsimp only at hR
                  refine jcall_ri (va_runS (As := [.int q_1, .ref a_r4]) (rest := []) ⟨hx, hb, hml, hown, hts⟩ (jc_Lw_before l g a_r4 v_r4 q_1 _ hq_2) (va_cwS 2 hts gL_reach_L_before rfl rfl rfl (by decide +kernel) ⟨Nat.le_of_ble_eq_true rfl, Nat.le_of_ble_eq_true rfl⟩) (jpr_s hK (hP.sub (ws' := jw_ar5I g a_r4 v_r4) [1] rfl)) rfl rfl hl.1 rfl (lv_room (Nat.le_of_ble_eq_true rfl)) dL_reach_102 ⟨Nat.zero_le _, Nat.zero_le _⟩) ?_
                  refine lv_iload hx hb dL_reach_105 (lv_at hl 7 rfl) ?_
                  refine lv_icmp_ne (tgt := 114) hx hb dL_reach_107 (by decide) (fun c_11 => ?_) (fun c_11 => ?_)
                  · replace hR := Eq.trans (Eq.symm (if_neg c_11)) hR
                    exact J114 z5 z8 _ (lv_sub hl [0, 1, 2, 3, 4, 5, 6, 7] rfl) _ hR k
                  · replace hR := Eq.trans (Eq.symm (if_pos c_11)) hR
                    exact J110 z5 z8 _ (lv_sub hl [0, 1, 2, 3, 4, 5, 6, 7] rfl) _ hR k
              have J57 : ∀ (z5 : Int32) (z8 : Int32) (ls : Array Slot), lv_has ls 10 [(1, .int z1), (2, .int z2), (3, .ref a_r3), (4, .ref a_r4), (5, .int z5), (6, .int z6), (7, .int z7), (8, .int z8)] → ∀ q, jf_Lw_reach_b57 (jf_Lw_reach_L27 v_r3 v_r4 z1 z2 z6 z7 n) v_r3 v_r4 z1 z2 z5 z6 z7 z8 = some q → (∀ ls : Array Slot, lv_has ls 10 [(1, .int z1), (2, .int z2), (3, .ref a_r3), (4, .ref a_r4), (5, .int q), (6, .int z6), (7, .int z7)] → W p l e jr_Lw_reach s m ([.int x0, .int x1, .int x2, .ref a_r3, .ref a_r4] : List Value).toArray below meth c s.heap [] 0 0 Q (F0 m 148 ls [])) → W p l e jr_Lw_reach s m ([.int x0, .int x1, .int x2, .ref a_r3, .ref a_r4] : List Value).toArray below meth c s.heap [] 0 0 Q (F0 m 57 ls []) := by
                intro z5 z8 ls hl q hR k
                rw [jf_Lw_reach_b57] at hR
                refine lv_iload_n hx hb dL_reach_57 rfl (lv_at hl 0 rfl) ?_
                refine lv_iconst (v := 2) hx hb dL_reach_58 (by decide) ?_
                refine lv_iand hx hb dL_reach_59 ?_
                refine lv_if_le (tgt := 83) hx hb dL_reach_60 (by decide) (fun c_5 => ?_) (fun c_5 => ?_)
                · replace hR := Eq.trans (Eq.symm (if_pos c_5)) hR
                  exact J83 z5 z8 _ (lv_sub hl [0, 1, 2, 3, 4, 5, 6, 7] rfl) _ hR k
                · replace hR := Eq.trans (Eq.symm (if_neg c_5)) hR
                  refine lv_aload hx hb dL_reach_63 (lv_at hl 3 rfl) ?_
                  refine lv_iload hx hb dL_reach_65 (lv_at hl 6 rfl) ?_
                  by_cases c_12 : jin z7 5 = true
                  case neg => replace hR := Eq.trans (Eq.symm (if_neg c_12)) hR; cases hR
                  replace hR := Eq.trans (Eq.symm (if_pos c_12)) hR
                  refine va_iald hx hb hK.1 hP 1 0 rfl rfl (jin_in c_12) dL_reach_67 ?_
                  refine lv_iload hx hb dL_reach_68 (lv_at hl 7 rfl) ?_
                  refine lv_icmp_eq (tgt := 110) hx hb dL_reach_70 (by decide) (fun c_13 => ?_) (fun c_13 => ?_)
                  · replace hR := Eq.trans (Eq.symm (if_pos c_13)) hR
                    exact J110 z5 z8 _ (lv_sub hl [0, 1, 2, 3, 4, 5, 6, 7] rfl) _ hR k
                  · replace hR := Eq.trans (Eq.symm (if_neg c_13)) hR
                    refine lv_aload hx hb dL_reach_73 (lv_at hl 3 rfl) ?_
                    refine lv_iload hx hb dL_reach_75 (lv_at hl 7 rfl) ?_
                    by_cases c_14 : jin z8 5 = true
                    case neg => replace hR := Eq.trans (Eq.symm (if_neg c_14)) hR; cases hR
                    replace hR := Eq.trans (Eq.symm (if_pos c_14)) hR
                    refine va_iald hx hb hK.1 hP 1 0 rfl rfl (jin_in c_14) dL_reach_77 ?_
                    refine lv_iload hx hb dL_reach_78 (lv_at hl 6 rfl) ?_
                    refine lv_icmp_eq (tgt := 110) hx hb dL_reach_80 (by decide) (fun c_15 => ?_) (fun c_15 => ?_)
                    · replace hR := Eq.trans (Eq.symm (if_pos c_15)) hR
                      exact J110 z5 z8 _ (lv_sub hl [0, 1, 2, 3, 4, 5, 6, 7] rfl) _ hR k
                    · replace hR := Eq.trans (Eq.symm (if_neg c_15)) hR
                      exact J83 z5 z8 _ (lv_sub hl [0, 1, 2, 3, 4, 5, 6, 7] rfl) _ hR k
              intro z5 z8 ls hl q hR k
              rw [jf_Lw_reach_L27] at hR
              refine lv_iload hx hb dL_reach_27 (lv_at hl 7 rfl) ?_
              refine lv_iload_n hx hb dL_reach_29 rfl (lv_at hl 1 rfl) ?_
              refine lv_icmp_ge (tgt := 148) hx hb dL_reach_30 (by decide) (fun c_3 => ?_) (fun c_3 => ?_)
              · replace hR := Eq.trans (Eq.symm (if_pos c_3)) hR
                cases hR
                exact k _ (lv_sub hl [0, 1, 2, 3, 4, 5, 6] rfl)
              · replace hR := Eq.trans (Eq.symm (if_neg c_3)) hR
                refine lv_iload_n hx hb dL_reach_33 rfl (lv_at hl 0 rfl) ?_
                refine lv_iconst (v := 1) hx hb dL_reach_34 (by decide) ?_
                refine lv_iand hx hb dL_reach_35 ?_
                refine lv_if_le (tgt := 57) hx hb dL_reach_36 (by decide) (fun c_4 => ?_) (fun c_4 => ?_)
                · replace hR := Eq.trans (Eq.symm (if_pos c_4)) hR
                  exact J57 z5 z8 _ (lv_sub hl [0, 1, 2, 3, 4, 5, 6, 7] rfl) _ hR k
                · replace hR := Eq.trans (Eq.symm (if_neg c_4)) hR
                  refine lv_aload_n hx hb dL_reach_39 rfl (lv_at hl 2 rfl) ?_
                  refine lv_iload hx hb dL_reach_40 (lv_at hl 6 rfl) ?_
                  by_cases c_16 : jin z7 5 = true
                  case neg => replace hR := Eq.trans (Eq.symm (if_neg c_16)) hR; cases hR
                  replace hR := Eq.trans (Eq.symm (if_pos c_16)) hR
                  refine va_iald hx hb hK.1 hP 0 0 rfl rfl (jin_in c_16) dL_reach_42 ?_
                  refine lv_iload hx hb dL_reach_43 (lv_at hl 7 rfl) ?_
                  refine lv_icmp_eq (tgt := 110) hx hb dL_reach_45 (by decide) (fun c_17 => ?_) (fun c_17 => ?_)
                  · replace hR := Eq.trans (Eq.symm (if_pos c_17)) hR
                    exact J110 z5 z8 _ (lv_sub hl [0, 1, 2, 3, 4, 5, 6, 7] rfl) _ hR k
                  · replace hR := Eq.trans (Eq.symm (if_neg c_17)) hR
                    refine lv_aload_n hx hb dL_reach_48 rfl (lv_at hl 2 rfl) ?_
                    refine lv_iload hx hb dL_reach_49 (lv_at hl 7 rfl) ?_
                    by_cases c_18 : jin z8 5 = true
                    case neg => replace hR := Eq.trans (Eq.symm (if_neg c_18)) hR; cases hR
                    replace hR := Eq.trans (Eq.symm (if_pos c_18)) hR
                    refine va_iald hx hb hK.1 hP 0 0 rfl rfl (jin_in c_18) dL_reach_51 ?_
                    refine lv_iload hx hb dL_reach_52 (lv_at hl 6 rfl) ?_
                    refine lv_icmp_eq (tgt := 110) hx hb dL_reach_54 (by decide) (fun c_19 => ?_) (fun c_19 => ?_)
                    · replace hR := Eq.trans (Eq.symm (if_pos c_19)) hR
                      exact J110 z5 z8 _ (lv_sub hl [0, 1, 2, 3, 4, 5, 6, 7] rfl) _ hR k
                    · replace hR := Eq.trans (Eq.symm (if_neg c_19)) hR
                      exact J57 z5 z8 _ (lv_sub hl [0, 1, 2, 3, 4, 5, 6, 7] rfl) _ hR k
          intro z5 z7 ls hl q hR k
          rw [jf_Lw_reach_L18] at hR
          refine lv_iload hx hb dL_reach_18 (lv_at hl 6 rfl) ?_
          refine lv_iload_n hx hb dL_reach_20 rfl (lv_at hl 1 rfl) ?_
          refine lv_icmp_ge (tgt := 154) hx hb dL_reach_21 (by decide) (fun c_2 => ?_) (fun c_2 => ?_)
          · replace hR := Eq.trans (Eq.symm (if_pos c_2)) hR
            cases hR
            exact k _ (lv_sub hl [0, 1, 2, 3, 4, 5] rfl)
          · replace hR := Eq.trans (Eq.symm (if_neg c_2)) hR
            refine lv_iconst (v := 0) hx hb dL_reach_24 (by decide) ?_
            refine lv_istore (lv' := [(8, .int 0), (1, .int z1), (2, .int z2), (3, .ref a_r3), (4, .ref a_r4), (5, .int z5), (6, .int z6), (7, .int z7)]) hx hb dL_reach_25 hl (by decide) rfl (fun ls hl => ?_)
            obtain ⟨q_3, hq_3, hR⟩ := jbind hR
            try dsimp only at hR
            refine L27 jF z1 z2 z6 z7 z5 0 _ (lv_sub hl [1, 2, 3, 4, 5, 6, 7, 0] rfl) _ hq_3 (fun ls hl => ?_)
            refine lv_iinc (v := z7 + 1) (lv' := [(7, .int (z7 + 1)), (1, .int z1), (2, .int z2), (3, .ref a_r3), (4, .ref a_r4), (5, .int q_3), (6, .int z6)]) hx hb dL_reach_148 hl (k := 6) rfl (by first | rfl | decide) (by decide) rfl (fun ls hl => ?_)
            refine lv_goto (tgt := 18) hx hb dL_reach_151 (by decide) ?_
            exact ih q_3 (z7 + 1) _ (lv_sub hl [1, 2, 3, 4, 5, 6, 0] rfl) _ hR k
      intro z5 z6 ls hl q hR k
      rw [jf_Lw_reach_L8] at hR
      refine lv_iload hx hb dL_reach_8 (lv_at hl 5 rfl) ?_
      refine lv_bipush (v := 10) hx hb dL_reach_10 (by decide) ?_
      refine lv_icmp_ge (tgt := 160) hx hb dL_reach_12 (by decide) (fun c_1 => ?_) (fun c_1 => ?_)
      · replace hR := Eq.trans (Eq.symm (if_pos c_1)) hR
        cases hR
        exact k _ (lv_sub hl [4] rfl)
      · replace hR := Eq.trans (Eq.symm (if_neg c_1)) hR
        refine lv_iconst (v := 0) hx hb dL_reach_15 (by decide) ?_
        refine lv_istore (lv' := [(7, .int 0), (1, .int z1), (2, .int z2), (3, .ref a_r3), (4, .ref a_r4), (5, .int z5), (6, .int z6)]) hx hb dL_reach_16 hl (by decide) rfl (fun ls hl => ?_)
        obtain ⟨q_4, hq_4, hR⟩ := jbind hR
        try dsimp only at hR
        refine L18 jF z1 z2 z6 z5 0 _ (lv_sub hl [1, 2, 3, 4, 5, 6, 0] rfl) _ hq_4 (fun ls hl => ?_)
        refine lv_iinc (v := z6 + 1) (lv' := [(6, .int (z6 + 1)), (1, .int z1), (2, .int z2), (3, .ref a_r3), (4, .ref a_r4), (5, .int q_4)]) hx hb dL_reach_154 hl (k := 5) rfl (by first | rfl | decide) (by decide) rfl (fun ls hl => ?_)
        refine lv_goto (tgt := 8) hx hb dL_reach_157 (by decide) ?_
        exact ih q_4 (z6 + 1) _ (lv_sub hl [1, 2, 3, 4, 5, 0] rfl) _ hR k
  rw [jf_Lw_reach] at hR
  refine lv_iconst (v := 1) hx hb dL_reach_0 (by decide) ?_
  refine lv_iload_n hx hb dL_reach_1 rfl (lv_at hl 0 rfl) ?_
  refine lv_ishl hx hb dL_reach_2 ?_
  refine jlet_i hR (fun y5_1 hR => ?_)
  try dsimp only at hR
  refine lv_istore (lv' := [(5, .int y5_1), (0, .int x0), (1, .int x1), (2, .int x2), (3, .ref a_r3), (4, .ref a_r4)]) hx hb dL_reach_3 hl (by decide) rfl (fun ls hl => ?_)
  refine lv_iconst (v := 0) hx hb dL_reach_5 (by decide) ?_
  refine lv_istore (lv' := [(6, .int 0), (5, .int y5_1), (0, .int x0), (1, .int x1), (2, .int x2), (3, .ref a_r3), (4, .ref a_r4)]) hx hb dL_reach_6 hl (by decide) rfl (fun ls hl => ?_)
  obtain ⟨q_5, hq_5, hR⟩ := jbind hR
  try dsimp only at hR
  refine L8 jF x1 x2 y5_1 0 _ (lv_sub hl [3, 4, 5, 6, 1, 0] rfl) _ hq_5 (fun ls hl => ?_)
  refine lv_iload hx hb dL_reach_160 (lv_at hl 0 rfl) ?_
  exact fin _ _ _ (Option.some.inj hR) dL_reach_162
def jf_Lw_size_L4 (z0 : Int32) : Nat → Int32 → Int32 → Option Int32
  | 0, _, _ => none
  | n + 1, z1, z2 =>
    if 5 ≤ z2 then (some z1) else (jlet (z1 + ((z0 >>> (z2 &&& 31)) &&& 1)) (fun y1_1 => (jf_Lw_size_L4 z0 n) y1_1 (z2 + 1)))
def jf_Lw_size (x0 : Int32) : Option Int32 :=
  Option.bind (jf_Lw_size_L4 x0 jF 0 0) (fun q_1 => some q_1)
abbrev jr_Lw_size : Room := { frames := 0, cells := 0, slots := 0, locals := 0 }
set_option maxRecDepth 100000 in
set_option maxHeartbeats 4000000 in
theorem jc_Lw_size (l : Launch) (g : jG) (x0 : Int32) (R : Int32) (hR : jf_Lw_size x0 = some R) : Met l yL_size wsL_size jr_Lw_size (jPr g [.int x0] ([])) (vp_Si (fun r => r = R)) 0 0 (fun _ => False) := by
  refine jm_ri (cc := cL_size) (maxL := 3) (by decide +kernel) rfl (Nat.le_of_ble_eq_true rfl) ?_
  intro p e s m below meth c Q hx hb hml hown hts hK hP fin ls hl
  have hl : lv_has ls 3 [(0, .int x0)] := hl
  have hown : s.vm.findClass RL = some m.cls := hown
  have L4 : ∀ (n : Nat) (z0 : Int32) (z1 : Int32) (z2 : Int32) (ls : Array Slot), lv_has ls 3 [(0, .int z0), (1, .int z1), (2, .int z2)] → ∀ q, jf_Lw_size_L4 z0 n z1 z2 = some q → (∀ ls : Array Slot, lv_has ls 3 [(1, .int q)] → W p l e jr_Lw_size s m ([.int x0] : List Value).toArray below meth c s.heap [] 0 0 Q (F0 m 23 ls [])) → W p l e jr_Lw_size s m ([.int x0] : List Value).toArray below meth c s.heap [] 0 0 Q (F0 m 4 ls []) := by
    intro n z0
    induction n with
    | zero =>
      intro z1 z2 ls hl q hR k
      cases hR
    | succ n ih =>
      intro z1 z2 ls hl q hR k
      rw [jf_Lw_size_L4] at hR
      refine lv_iload_n hx hb dL_size_4 rfl (lv_at hl 2 rfl) ?_
      refine lv_iconst (v := 5) hx hb dL_size_5 (by decide) ?_
      refine lv_icmp_ge (tgt := 23) hx hb dL_size_6 (by decide) (fun c_1 => ?_) (fun c_1 => ?_)
      · replace hR := Eq.trans (Eq.symm (if_pos c_1)) hR
        cases hR
        exact k _ (lv_sub hl [1] rfl)
      · replace hR := Eq.trans (Eq.symm (if_neg c_1)) hR
        refine lv_iload_n hx hb dL_size_9 rfl (lv_at hl 1 rfl) ?_
        refine lv_iload_n hx hb dL_size_10 rfl (lv_at hl 0 rfl) ?_
        refine lv_iload_n hx hb dL_size_11 rfl (lv_at hl 2 rfl) ?_
        refine lv_ishr hx hb dL_size_12 ?_
        refine lv_iconst (v := 1) hx hb dL_size_13 (by decide) ?_
        refine lv_iand hx hb dL_size_14 ?_
        refine lv_iadd hx hb dL_size_15 ?_
        refine jlet_i hR (fun y1_1 hR => ?_)
        try dsimp only at hR
        refine lv_istore_n (lv' := [(1, .int y1_1), (0, .int z0), (2, .int z2)]) hx hb dL_size_16 rfl hl (by decide) rfl (fun ls hl => ?_)
        refine lv_iinc (v := z2 + 1) (lv' := [(2, .int (z2 + 1)), (1, .int y1_1), (0, .int z0)]) hx hb dL_size_17 hl (k := 2) rfl (by first | rfl | decide) (by decide) rfl (fun ls hl => ?_)
        refine lv_goto (tgt := 4) hx hb dL_size_20 (by decide) ?_
        exact ih y1_1 (z2 + 1) _ (lv_sub hl [2, 1, 0] rfl) _ hR k
  rw [jf_Lw_size] at hR
  refine lv_iconst (v := 0) hx hb dL_size_0 (by decide) ?_
  refine lv_istore_n (lv' := [(1, .int 0), (0, .int x0)]) hx hb dL_size_1 rfl hl (by decide) rfl (fun ls hl => ?_)
  refine lv_iconst (v := 0) hx hb dL_size_2 (by decide) ?_
  refine lv_istore_n (lv' := [(2, .int 0), (1, .int 0), (0, .int x0)]) hx hb dL_size_3 rfl hl (by decide) rfl (fun ls hl => ?_)
  obtain ⟨q_1, hq_1, hR⟩ := jbind hR
  try dsimp only at hR
  refine L4 jF x0 0 0 _ (lv_sub hl [2, 1, 0] rfl) _ hq_1 (fun ls hl => ?_)
  refine lv_iload_n hx hb dL_size_23 rfl (lv_at hl 0 rfl) ?_
  exact fin _ _ _ (Option.some.inj hR) dL_size_24
abbrev jw_ar19I (g : jG) (a_r3 : Nat) (v_r3 : Nat → Int32) : va_W := [(a_r3, .inl (g.2.1, 19, .inl v_r3))]
def jf_Lw_goesTo_L6 (v_r3 : Nat → Int32) (z1 : Int32) (z2 : Int32) : Nat → Int32 → Int32 → Option (Int32 × Int32)
  | 0, _, _ => none
  | n + 1, z4, z5 =>
    if jin (z1 + z5) 19 = true then (if jin (v_r3 (z1 + z5).toNatClampNeg) 19 = true then (if z4 < v_r3 (v_r3 (z1 + z5).toNatClampNeg).toNatClampNeg then (some (z4, z5)) else (if jin (z1 + z5) 19 = true then (if jin (v_r3 (z1 + z5).toNatClampNeg) 19 = true then (jlet (z4 - (v_r3 (v_r3 (z1 + z5).toNatClampNeg).toNatClampNeg)) (fun y4_1 => (jf_Lw_goesTo_L6 v_r3 z1 z2 n) y4_1 (z5 + 1))) else none) else none)) else none) else none
def jf_Lw_goesTo_L41 (v_r3 : Nat → Int32) (z1 : Int32) (z2 : Int32) (z5 : Int32) : Nat → Int32 → Int32 → Option Int32
  | 0, _, _ => none
  | n + 1, z4, z6 =>
    if jin (z2 + z6) 19 = true then (if jin (z1 + z5) 19 = true then (if v_r3 (z2 + z6).toNatClampNeg = v_r3 (z1 + z5).toNatClampNeg then (some z4) else (if jin (z2 + z6) 19 = true then (if jin (v_r3 (z2 + z6).toNatClampNeg) 19 = true then (jlet (z4 + (v_r3 (v_r3 (z2 + z6).toNatClampNeg).toNatClampNeg)) (fun y4_2 => (jf_Lw_goesTo_L41 v_r3 z1 z2 z5 n) y4_2 (z6 + 1))) else none) else none)) else none) else none
def jf_Lw_goesTo (v_r3 : Nat → Int32) (x0 : Int32) (x1 : Int32) (x2 : Int32) : Option Int32 :=
  Option.bind (jf_Lw_goesTo_L6 v_r3 x1 x2 jF x0 0) (fun q_1 => Option.bind (jf_Lw_goesTo_L41 v_r3 x1 x2 q_1.2 jF q_1.1 0) (fun q_2 => some q_2))
abbrev jr_Lw_goesTo : Room := { frames := 0, cells := 0, slots := 0, locals := 0 }
set_option maxRecDepth 100000 in
set_option maxHeartbeats 4000000 in
theorem jc_Lw_goesTo (l : Launch) (g : jG) (a_r3 : Nat) (v_r3 : Nat → Int32) (x0 : Int32) (x1 : Int32) (x2 : Int32) (R : Int32) (hR : jf_Lw_goesTo v_r3 x0 x1 x2 = some R) : Met l yL_goesTo wsL_goesTo jr_Lw_goesTo (jPr g [.int x0, .int x1, .int x2, .ref a_r3] (jw_ar19I g a_r3 v_r3)) (vp_Si (fun r => r = R)) 0 0 (fun _ => False) := by
  refine jm_ri (cc := cL_goesTo) (maxL := 7) (by decide +kernel) rfl (Nat.le_of_ble_eq_true rfl) ?_
  intro p e s m below meth c Q hx hb hml hown hts hK hP fin ls hl
  have hl : lv_has ls 7 [(0, .int x0), (1, .int x1), (2, .int x2), (3, .ref a_r3)] := hl
  have hown : s.vm.findClass RL = some m.cls := hown
  have L6 : ∀ (n : Nat) (z1 : Int32) (z2 : Int32) (z4 : Int32) (z5 : Int32) (ls : Array Slot), lv_has ls 7 [(1, .int z1), (2, .int z2), (3, .ref a_r3), (4, .int z4), (5, .int z5)] → ∀ q, jf_Lw_goesTo_L6 v_r3 z1 z2 n z4 z5 = some q → (∀ ls : Array Slot, lv_has ls 7 [(1, .int z1), (2, .int z2), (3, .ref a_r3), (4, .int q.1), (5, .int q.2)] → W p l e jr_Lw_goesTo s m ([.int x0, .int x1, .int x2, .ref a_r3] : List Value).toArray below meth c s.heap [] 0 0 Q (F0 m 38 ls [])) → W p l e jr_Lw_goesTo s m ([.int x0, .int x1, .int x2, .ref a_r3] : List Value).toArray below meth c s.heap [] 0 0 Q (F0 m 6 ls []) := by
    intro n z1 z2
    induction n with
    | zero =>
      intro z4 z5 ls hl q hR k
      cases hR
    | succ n ih =>
      intro z4 z5 ls hl q hR k
      rw [jf_Lw_goesTo_L6] at hR
      refine lv_iload hx hb dL_goesTo_6 (lv_at hl 3 rfl) ?_
      refine lv_aload_n hx hb dL_goesTo_8 rfl (lv_at hl 2 rfl) ?_
      refine lv_aload_n hx hb dL_goesTo_9 rfl (lv_at hl 2 rfl) ?_
      refine lv_iload_n hx hb dL_goesTo_10 rfl (lv_at hl 0 rfl) ?_
      refine lv_iload hx hb dL_goesTo_11 (lv_at hl 4 rfl) ?_
      refine lv_iadd hx hb dL_goesTo_13 ?_
      by_cases c_1 : jin (z1 + z5) 19 = true
      case neg => replace hR := Eq.trans (Eq.symm (if_neg c_1)) hR; cases hR
      replace hR := Eq.trans (Eq.symm (if_pos c_1)) hR
      refine va_iald hx hb hK.1 hP 0 0 rfl rfl (jin_in c_1) dL_goesTo_14 ?_
      by_cases c_2 : jin (v_r3 (z1 + z5).toNatClampNeg) 19 = true
      case neg => replace hR := Eq.trans (Eq.symm (if_neg c_2)) hR; cases hR
      replace hR := Eq.trans (Eq.symm (if_pos c_2)) hR
      refine va_iald hx hb hK.1 hP 0 0 rfl rfl (jin_in c_2) dL_goesTo_15 ?_
      refine lv_icmp_lt (tgt := 38) hx hb dL_goesTo_16 (by decide) (fun c_3 => ?_) (fun c_3 => ?_)
      · replace hR := Eq.trans (Eq.symm (if_pos c_3)) hR
        cases hR
        exact k _ (lv_sub hl [0, 1, 2, 3, 4] rfl)
      · replace hR := Eq.trans (Eq.symm (if_neg c_3)) hR
        refine lv_iload hx hb dL_goesTo_19 (lv_at hl 3 rfl) ?_
        refine lv_aload_n hx hb dL_goesTo_21 rfl (lv_at hl 2 rfl) ?_
        refine lv_aload_n hx hb dL_goesTo_22 rfl (lv_at hl 2 rfl) ?_
        refine lv_iload_n hx hb dL_goesTo_23 rfl (lv_at hl 0 rfl) ?_
        refine lv_iload hx hb dL_goesTo_24 (lv_at hl 4 rfl) ?_
        refine lv_iadd hx hb dL_goesTo_26 ?_
        by_cases c_4 : jin (z1 + z5) 19 = true
        case neg => replace hR := Eq.trans (Eq.symm (if_neg c_4)) hR; cases hR
        replace hR := Eq.trans (Eq.symm (if_pos c_4)) hR
        refine va_iald hx hb hK.1 hP 0 0 rfl rfl (jin_in c_4) dL_goesTo_27 ?_
        by_cases c_5 : jin (v_r3 (z1 + z5).toNatClampNeg) 19 = true
        case neg => replace hR := Eq.trans (Eq.symm (if_neg c_5)) hR; cases hR
        replace hR := Eq.trans (Eq.symm (if_pos c_5)) hR
        refine va_iald hx hb hK.1 hP 0 0 rfl rfl (jin_in c_5) dL_goesTo_28 ?_
        refine lv_isub hx hb dL_goesTo_29 ?_
        refine jlet_i hR (fun y4_1 hR => ?_)
        try dsimp only at hR
        refine lv_istore (lv' := [(4, .int y4_1), (1, .int z1), (2, .int z2), (3, .ref a_r3), (5, .int z5)]) hx hb dL_goesTo_30 hl (by decide) rfl (fun ls hl => ?_)
        refine lv_iinc (v := z5 + 1) (lv' := [(5, .int (z5 + 1)), (4, .int y4_1), (1, .int z1), (2, .int z2), (3, .ref a_r3)]) hx hb dL_goesTo_32 hl (k := 4) rfl (by first | rfl | decide) (by decide) rfl (fun ls hl => ?_)
        refine lv_goto (tgt := 6) hx hb dL_goesTo_35 (by decide) ?_
        exact ih y4_1 (z5 + 1) _ (lv_sub hl [2, 3, 4, 1, 0] rfl) _ hR k
  have L41 : ∀ (n : Nat) (z1 : Int32) (z2 : Int32) (z5 : Int32) (z4 : Int32) (z6 : Int32) (ls : Array Slot), lv_has ls 7 [(1, .int z1), (2, .int z2), (3, .ref a_r3), (4, .int z4), (5, .int z5), (6, .int z6)] → ∀ q, jf_Lw_goesTo_L41 v_r3 z1 z2 z5 n z4 z6 = some q → (∀ ls : Array Slot, lv_has ls 7 [(4, .int q)] → W p l e jr_Lw_goesTo s m ([.int x0, .int x1, .int x2, .ref a_r3] : List Value).toArray below meth c s.heap [] 0 0 Q (F0 m 75 ls [])) → W p l e jr_Lw_goesTo s m ([.int x0, .int x1, .int x2, .ref a_r3] : List Value).toArray below meth c s.heap [] 0 0 Q (F0 m 41 ls []) := by
    intro n z1 z2 z5
    induction n with
    | zero =>
      intro z4 z6 ls hl q hR k
      cases hR
    | succ n ih =>
      intro z4 z6 ls hl q hR k
      rw [jf_Lw_goesTo_L41] at hR
      refine lv_aload_n hx hb dL_goesTo_41 rfl (lv_at hl 2 rfl) ?_
      refine lv_iload_n hx hb dL_goesTo_42 rfl (lv_at hl 1 rfl) ?_
      refine lv_iload hx hb dL_goesTo_43 (lv_at hl 5 rfl) ?_
      refine lv_iadd hx hb dL_goesTo_45 ?_
      by_cases c_6 : jin (z2 + z6) 19 = true
      case neg => replace hR := Eq.trans (Eq.symm (if_neg c_6)) hR; cases hR
      replace hR := Eq.trans (Eq.symm (if_pos c_6)) hR
      refine va_iald hx hb hK.1 hP 0 0 rfl rfl (jin_in c_6) dL_goesTo_46 ?_
      refine lv_aload_n hx hb dL_goesTo_47 rfl (lv_at hl 2 rfl) ?_
      refine lv_iload_n hx hb dL_goesTo_48 rfl (lv_at hl 0 rfl) ?_
      refine lv_iload hx hb dL_goesTo_49 (lv_at hl 4 rfl) ?_
      refine lv_iadd hx hb dL_goesTo_51 ?_
      by_cases c_7 : jin (z1 + z5) 19 = true
      case neg => replace hR := Eq.trans (Eq.symm (if_neg c_7)) hR; cases hR
      replace hR := Eq.trans (Eq.symm (if_pos c_7)) hR
      refine va_iald hx hb hK.1 hP 0 0 rfl rfl (jin_in c_7) dL_goesTo_52 ?_
      refine lv_icmp_eq (tgt := 75) hx hb dL_goesTo_53 (by decide) (fun c_8 => ?_) (fun c_8 => ?_)
      · replace hR := Eq.trans (Eq.symm (if_pos c_8)) hR
        cases hR
        exact k _ (lv_sub hl [3] rfl)
      · replace hR := Eq.trans (Eq.symm (if_neg c_8)) hR
        refine lv_iload hx hb dL_goesTo_56 (lv_at hl 3 rfl) ?_
        refine lv_aload_n hx hb dL_goesTo_58 rfl (lv_at hl 2 rfl) ?_
        refine lv_aload_n hx hb dL_goesTo_59 rfl (lv_at hl 2 rfl) ?_
        refine lv_iload_n hx hb dL_goesTo_60 rfl (lv_at hl 1 rfl) ?_
        refine lv_iload hx hb dL_goesTo_61 (lv_at hl 5 rfl) ?_
        refine lv_iadd hx hb dL_goesTo_63 ?_
        by_cases c_9 : jin (z2 + z6) 19 = true
        case neg => replace hR := Eq.trans (Eq.symm (if_neg c_9)) hR; cases hR
        replace hR := Eq.trans (Eq.symm (if_pos c_9)) hR
        refine va_iald hx hb hK.1 hP 0 0 rfl rfl (jin_in c_9) dL_goesTo_64 ?_
        by_cases c_10 : jin (v_r3 (z2 + z6).toNatClampNeg) 19 = true
        case neg => replace hR := Eq.trans (Eq.symm (if_neg c_10)) hR; cases hR
        replace hR := Eq.trans (Eq.symm (if_pos c_10)) hR
        refine va_iald hx hb hK.1 hP 0 0 rfl rfl (jin_in c_10) dL_goesTo_65 ?_
        refine lv_iadd hx hb dL_goesTo_66 ?_
        refine jlet_i hR (fun y4_2 hR => ?_)
        try dsimp only at hR
        refine lv_istore (lv' := [(4, .int y4_2), (1, .int z1), (2, .int z2), (3, .ref a_r3), (5, .int z5), (6, .int z6)]) hx hb dL_goesTo_67 hl (by decide) rfl (fun ls hl => ?_)
        refine lv_iinc (v := z6 + 1) (lv' := [(6, .int (z6 + 1)), (4, .int y4_2), (1, .int z1), (2, .int z2), (3, .ref a_r3), (5, .int z5)]) hx hb dL_goesTo_69 hl (k := 5) rfl (by first | rfl | decide) (by decide) rfl (fun ls hl => ?_)
        refine lv_goto (tgt := 41) hx hb dL_goesTo_72 (by decide) ?_
        exact ih y4_2 (z6 + 1) _ (lv_sub hl [2, 3, 4, 1, 5, 0] rfl) _ hR k
  rw [jf_Lw_goesTo] at hR
  refine lv_iload_n hx hb dL_goesTo_0 rfl (lv_at hl 0 rfl) ?_
  refine lv_istore (lv' := [(4, .int x0), (0, .int x0), (1, .int x1), (2, .int x2), (3, .ref a_r3)]) hx hb dL_goesTo_1 hl (by decide) rfl (fun ls hl => ?_)
  refine lv_iconst (v := 0) hx hb dL_goesTo_3 (by decide) ?_
  refine lv_istore (lv' := [(5, .int 0), (4, .int x0), (0, .int x0), (1, .int x1), (2, .int x2), (3, .ref a_r3)]) hx hb dL_goesTo_4 hl (by decide) rfl (fun ls hl => ?_)
  obtain ⟨q_1, hq_1, hR⟩ := jbind hR
  try dsimp only at hR
  refine L6 jF x1 x2 x0 0 _ (lv_sub hl [3, 4, 5, 1, 0] rfl) _ hq_1 (fun ls hl => ?_)
  refine lv_iconst (v := 0) hx hb dL_goesTo_38 (by decide) ?_
  refine lv_istore (lv' := [(6, .int 0), (1, .int x1), (2, .int x2), (3, .ref a_r3), (4, .int q_1.1), (5, .int q_1.2)]) hx hb dL_goesTo_39 hl (by decide) rfl (fun ls hl => ?_)
  obtain ⟨q_2, hq_2, hR⟩ := jbind hR
  try dsimp only at hR
  refine L41 jF x1 x2 q_1.2 q_1.1 0 _ (lv_sub hl [1, 2, 3, 4, 5, 0] rfl) _ hq_2 (fun ls hl => ?_)
  refine lv_iload hx hb dL_goesTo_75 (lv_at hl 0 rfl) ?_
  exact fin _ _ _ (Option.some.inj hR) dL_goesTo_77
def jf_Lw_puts_L19 (z0 : Int32) (z1 : Int32) (z3 : Int32) : Nat → Int32 → (Nat → Int32) → Option (Nat → Int32)
  | 0, _, _ => none
  | n + 1, z4, v_r2 =>
    if jin ((z0 + z4) - 1) 19 = true then (if v_r2 ((z0 + z4) - 1).toNatClampNeg = z1 then (some v_r2) else (if jin ((z0 + z4) - 1) 19 = true then (if jin (z0 + z4) 19 = true then (if jin ((z0 + z4) - 1) 19 = true then ((jf_Lw_puts_L19 z0 z1 z3 n) (z4 + (-1)) (upd (upd v_r2 (z0 + z4).toNatClampNeg (v_r2 ((z0 + z4) - 1).toNatClampNeg)) ((z0 + z4) - 1).toNatClampNeg z3)) else none) else none) else none)) else none
def jf_Lw_puts (v_r2 : Nat → Int32) (x0 : Int32) (x1 : Int32) : Option (Nat → Int32) :=
  if jin 18 19 = true then (if jin ((x0 + (v_r2 (18 : Int32).toNatClampNeg)) - 1) 19 = true then (jlet (v_r2 ((x0 + (v_r2 (18 : Int32).toNatClampNeg)) - 1).toNatClampNeg) (fun y3_1 => if jin 18 19 = true then (jlet ((v_r2 (18 : Int32).toNatClampNeg) - 1) (fun y4_1 => Option.bind (jf_Lw_puts_L19 x0 x1 y3_1 jF y4_1 v_r2) (fun q_1 => some q_1))) else none)) else none) else none
abbrev jr_Lw_puts : Room := { frames := 0, cells := 0, slots := 0, locals := 0 }
set_option maxRecDepth 100000 in
set_option maxHeartbeats 4000000 in
theorem jc_Lw_puts (l : Launch) (g : jG) (a_r2 : Nat) (v_r2 : Nat → Int32) (x0 : Int32) (x1 : Int32) (R : (Nat → Int32)) (hR : jf_Lw_puts v_r2 x0 x1 = some R) (sz : Nat) : Met l yL_puts wsL_puts jr_Lw_puts (jPw g [.int x0, .int x1, .ref a_r2] (jw_ar19I g a_r2 v_r2) sz) (jQv g (jw_ar19I g a_r2 R) (va_A (jw_ar19I g a_r2 v_r2) sz)) 0 0 (va_A (jw_ar19I g a_r2 v_r2) sz) := by
  refine jm_wv (cc := cL_puts) (maxL := 5) (by decide +kernel) rfl (Nat.le_of_ble_eq_true rfl) ?_
  intro p e s m below meth c A Q hx hb hml hown hts hK hP hD hA hS fin ls hl
  have hl : lv_has ls 5 [(0, .int x0), (1, .int x1), (2, .ref a_r2)] := hl
  have hown : s.vm.findClass RL = some m.cls := hown
  have L19 : ∀ (n : Nat) (z0 : Int32) (z1 : Int32) (z3 : Int32) (z4 : Int32) (v_r2 : Nat → Int32) (H : Heap) (locs : List Loc), va_P g.1 vwCl (jw_ar19I g a_r2 v_r2) H → va_S A s.heap H locs → ∀ (ls : Array Slot), lv_has ls 5 [(0, .int z0), (1, .int z1), (2, .ref a_r2), (3, .int z3), (4, .int z4)] → ∀ q, jf_Lw_puts_L19 z0 z1 z3 n z4 v_r2 = some q → (∀ (H : Heap) (locs : List Loc), va_P g.1 vwCl (jw_ar19I g a_r2 q) H → va_S A s.heap H locs → ∀ ls : Array Slot, lv_has ls 5 [] → W p l e jr_Lw_puts s m ([.int x0, .int x1, .ref a_r2] : List Value).toArray below meth c H locs 0 0 Q (F0 m 60 ls [])) → W p l e jr_Lw_puts s m ([.int x0, .int x1, .ref a_r2] : List Value).toArray below meth c H locs 0 0 Q (F0 m 19 ls []) := by
    intro n z0 z1 z3
    induction n with
    | zero =>
      intro z4 v_r2 H locs hP hS ls hl q hR k
      cases hR
    | succ n ih =>
      intro z4 v_r2 H locs hP hS ls hl q hR k
      rw [jf_Lw_puts_L19] at hR
      refine lv_aload_n hx hb dL_puts_19 rfl (lv_at hl 2 rfl) ?_
      refine lv_iload_n hx hb dL_puts_20 rfl (lv_at hl 0 rfl) ?_
      refine lv_iload hx hb dL_puts_21 (lv_at hl 4 rfl) ?_
      refine lv_iadd hx hb dL_puts_23 ?_
      refine lv_iconst (v := 1) hx hb dL_puts_24 (by decide) ?_
      refine lv_isub hx hb dL_puts_25 ?_
      by_cases c_4 : jin ((z0 + z4) - 1) 19 = true
      case neg => replace hR := Eq.trans (Eq.symm (if_neg c_4)) hR; cases hR
      replace hR := Eq.trans (Eq.symm (if_pos c_4)) hR
      refine va_iald hx hb hK.1 hP 0 0 rfl rfl (jin_in c_4) dL_puts_26 ?_
      refine lv_iload_n hx hb dL_puts_27 rfl (lv_at hl 1 rfl) ?_
      refine lv_icmp_eq (tgt := 60) hx hb dL_puts_28 (by decide) (fun c_5 => ?_) (fun c_5 => ?_)
      · replace hR := Eq.trans (Eq.symm (if_pos c_5)) hR
        cases hR
        exact k _ _ hP hS _ (lv_sub hl [] rfl)
      · replace hR := Eq.trans (Eq.symm (if_neg c_5)) hR
        refine lv_aload_n hx hb dL_puts_31 rfl (lv_at hl 2 rfl) ?_
        refine lv_iload_n hx hb dL_puts_32 rfl (lv_at hl 0 rfl) ?_
        refine lv_iload hx hb dL_puts_33 (lv_at hl 4 rfl) ?_
        refine lv_iadd hx hb dL_puts_35 ?_
        refine lv_aload_n hx hb dL_puts_36 rfl (lv_at hl 2 rfl) ?_
        refine lv_iload_n hx hb dL_puts_37 rfl (lv_at hl 0 rfl) ?_
        refine lv_iload hx hb dL_puts_38 (lv_at hl 4 rfl) ?_
        refine lv_iadd hx hb dL_puts_40 ?_
        refine lv_iconst (v := 1) hx hb dL_puts_41 (by decide) ?_
        refine lv_isub hx hb dL_puts_42 ?_
        by_cases c_6 : jin ((z0 + z4) - 1) 19 = true
        case neg => replace hR := Eq.trans (Eq.symm (if_neg c_6)) hR; cases hR
        replace hR := Eq.trans (Eq.symm (if_pos c_6)) hR
        refine va_iald hx hb hK.1 hP 0 0 rfl rfl (jin_in c_6) dL_puts_43 ?_
        by_cases c_7 : jin (z0 + z4) 19 = true
        case neg => replace hR := Eq.trans (Eq.symm (if_neg c_7)) hR; cases hR
        replace hR := Eq.trans (Eq.symm (if_pos c_7)) hR
        refine va_iast hx hb hK.1 hP (jD_to hD rfl) hS 0 0 rfl rfl (jin_in c_7) dL_puts_44 (fun H locs hP _ hS => ?_)
        have hP : va_P g.1 vwCl (jw_ar19I g a_r2 (upd v_r2 (z0 + z4).toNatClampNeg (v_r2 ((z0 + z4) - 1).toNatClampNeg))) H := hP
        refine lv_aload_n hx hb dL_puts_45 rfl (lv_at hl 2 rfl) ?_
        refine lv_iload_n hx hb dL_puts_46 rfl (lv_at hl 0 rfl) ?_
        refine lv_iload hx hb dL_puts_47 (lv_at hl 4 rfl) ?_
        refine lv_iadd hx hb dL_puts_49 ?_
        refine lv_iconst (v := 1) hx hb dL_puts_50 (by decide) ?_
        refine lv_isub hx hb dL_puts_51 ?_
        refine lv_iload_n hx hb dL_puts_52 rfl (lv_at hl 3 rfl) ?_
        by_cases c_8 : jin ((z0 + z4) - 1) 19 = true
        case neg => replace hR := Eq.trans (Eq.symm (if_neg c_8)) hR; cases hR
        replace hR := Eq.trans (Eq.symm (if_pos c_8)) hR
        refine va_iast hx hb hK.1 hP (jD_to hD rfl) hS 0 0 rfl rfl (jin_in c_8) dL_puts_53 (fun H locs hP _ hS => ?_)
        have hP : va_P g.1 vwCl (jw_ar19I g a_r2 (upd (upd v_r2 (z0 + z4).toNatClampNeg (v_r2 ((z0 + z4) - 1).toNatClampNeg)) ((z0 + z4) - 1).toNatClampNeg z3)) H := hP
        refine lv_iinc (v := z4 + (-1)) (lv' := [(4, .int (z4 + (-1))), (0, .int z0), (1, .int z1), (2, .ref a_r2), (3, .int z3)]) hx hb dL_puts_54 hl (k := 4) rfl (by first | rfl | decide) (by decide) rfl (fun ls hl => ?_)
        refine lv_goto (tgt := 19) hx hb dL_puts_57 (by decide) ?_
        exact ih (z4 + (-1)) (upd (upd v_r2 (z0 + z4).toNatClampNeg (v_r2 ((z0 + z4) - 1).toNatClampNeg)) ((z0 + z4) - 1).toNatClampNeg z3) _ _ hP hS _ (lv_sub hl [1, 2, 3, 4, 0] rfl) _ hR k
  rw [jf_Lw_puts] at hR
  refine lv_aload_n hx hb dL_puts_0 rfl (lv_at hl 2 rfl) ?_
  refine lv_iload_n hx hb dL_puts_1 rfl (lv_at hl 0 rfl) ?_
  refine lv_aload_n hx hb dL_puts_2 rfl (lv_at hl 2 rfl) ?_
  refine lv_bipush (v := 18) hx hb dL_puts_3 (by decide) ?_
  by_cases c_1 : jin 18 19 = true
  case neg => replace hR := Eq.trans (Eq.symm (if_neg c_1)) hR; cases hR
  replace hR := Eq.trans (Eq.symm (if_pos c_1)) hR
  refine va_iald hx hb hK.1 hP 0 0 rfl rfl (jin_in c_1) dL_puts_5 ?_
  refine lv_iadd hx hb dL_puts_6 ?_
  refine lv_iconst (v := 1) hx hb dL_puts_7 (by decide) ?_
  refine lv_isub hx hb dL_puts_8 ?_
  by_cases c_2 : jin ((x0 + (v_r2 (18 : Int32).toNatClampNeg)) - 1) 19 = true
  case neg => replace hR := Eq.trans (Eq.symm (if_neg c_2)) hR; cases hR
  replace hR := Eq.trans (Eq.symm (if_pos c_2)) hR
  refine va_iald hx hb hK.1 hP 0 0 rfl rfl (jin_in c_2) dL_puts_9 ?_
  refine jlet_i hR (fun y3_1 hR => ?_)
  try dsimp only at hR
  refine lv_istore_n (lv' := [(3, .int y3_1), (0, .int x0), (1, .int x1), (2, .ref a_r2)]) hx hb dL_puts_10 rfl hl (by decide) rfl (fun ls hl => ?_)
  refine lv_aload_n hx hb dL_puts_11 rfl (lv_at hl 3 rfl) ?_
  refine lv_bipush (v := 18) hx hb dL_puts_12 (by decide) ?_
  by_cases c_3 : jin 18 19 = true
  case neg => replace hR := Eq.trans (Eq.symm (if_neg c_3)) hR; cases hR
  replace hR := Eq.trans (Eq.symm (if_pos c_3)) hR
  refine va_iald hx hb hK.1 hP 0 0 rfl rfl (jin_in c_3) dL_puts_14 ?_
  refine lv_iconst (v := 1) hx hb dL_puts_15 (by decide) ?_
  refine lv_isub hx hb dL_puts_16 ?_
  refine jlet_i hR (fun y4_1 hR => ?_)
  try dsimp only at hR
  refine lv_istore (lv' := [(4, .int y4_1), (3, .int y3_1), (0, .int x0), (1, .int x1), (2, .ref a_r2)]) hx hb dL_puts_17 hl (by decide) rfl (fun ls hl => ?_)
  obtain ⟨q_1, hq_1, hR⟩ := jbind hR
  try dsimp only at hR
  refine L19 jF x0 x1 y3_1 y4_1 v_r2 _ _ hP hS _ (lv_sub hl [2, 3, 4, 1, 0] rfl) _ hq_1 (fun H locs hP hS ls hl => ?_)
  obtain rfl := (Option.some.inj hR)
  exact fin _ _ _ _ hP hS dL_puts_60
abbrev jw_Biar6I (g : jG) (a_r0 a_r0_room a_r0_room_met a_r0_room_met_bits a_r0_lamps a_r0_lamps_cellOf a_r0_glued a_r0_glued_right a_r0_glued_up a_r0_glued_left a_r0_glued_down a_r0_glued_spare a_r0_glued_order a_r0_glued_number a_r0_kinOfIt a_r0_kinOfIt_tried a_r0_kinOfIt_tried_right a_r0_kinOfIt_tried_up a_r0_kinOfIt_tried_left a_r0_kinOfIt_tried_down a_r0_kinOfIt_tried_spare a_r0_kinOfIt_tried_order a_r0_kinOfIt_tried_number a_r0_kinOfIt_codes a_r0_exchange a_r0_exchange_lengthOf a_r0_exchange_above a_r0_exchange_below a_r0_exchange_met a_r0_exchange_met_bits a_r1 : Nat) (v_r0_room_blocks : Int64) (v_r0_room_met_bits : Nat → Int64) (v_r0_lamps_lamps : Int32) (v_r0_lamps_cellOf : Nat → Int32) (v_r0_glued_numbered : Int32) (v_r0_glued_squares : Int32) (v_r0_glued_right : Nat → Int32) (v_r0_glued_up : Nat → Int32) (v_r0_glued_left : Nat → Int32) (v_r0_glued_down : Nat → Int32) (v_r0_glued_spare : Nat → Int32) (v_r0_glued_order : Nat → Int32) (v_r0_glued_number : Nat → Int32) (v_r0_kinOfIt_found : Int32) (v_r0_kinOfIt_tried_numbered : Int32) (v_r0_kinOfIt_tried_squares : Int32) (v_r0_kinOfIt_tried_right : Nat → Int32) (v_r0_kinOfIt_tried_up : Nat → Int32) (v_r0_kinOfIt_tried_left : Nat → Int32) (v_r0_kinOfIt_tried_down : Nat → Int32) (v_r0_kinOfIt_tried_spare : Nat → Int32) (v_r0_kinOfIt_tried_order : Nat → Int32) (v_r0_kinOfIt_tried_number : Nat → Int32) (v_r0_kinOfIt_codes : Nat → Int32) (v_r0_exchange_intervals : Int32) (v_r0_exchange_lengthOf : Nat → Int32) (v_r0_exchange_above : Nat → Int32) (v_r0_exchange_below : Nat → Int32) (v_r0_exchange_met_bits : Nat → Int64) (v_r1 : Nat → Int32) : va_W := [(a_r0, .inr (6, [.ref a_r0_room, .ref a_r0_lamps, .ref a_r0_glued, .ref a_r0_kinOfIt, .ref a_r0_exchange])), (a_r0_room, .inr (4, [.ref a_r0_room_met, .long v_r0_room_blocks])), (a_r0_room_met, .inr (3, [.ref a_r0_room_met_bits])), (a_r0_room_met_bits, .inl (g.2.2.1, 8, .inr (.inl v_r0_room_met_bits))), (a_r0_lamps, .inr (2, [.ref a_r0_lamps_cellOf, .int v_r0_lamps_lamps])), (a_r0_lamps_cellOf, .inl (g.2.1, 6, .inl v_r0_lamps_cellOf)), (a_r0_glued, .inr (5, [.ref a_r0_glued_right, .ref a_r0_glued_up, .ref a_r0_glued_left, .ref a_r0_glued_down, .ref a_r0_glued_spare, .ref a_r0_glued_order, .ref a_r0_glued_number, .int v_r0_glued_numbered, .int v_r0_glued_squares])), (a_r0_glued_right, .inl (g.2.1, 5, .inl v_r0_glued_right)), (a_r0_glued_up, .inl (g.2.1, 5, .inl v_r0_glued_up)), (a_r0_glued_left, .inl (g.2.1, 5, .inl v_r0_glued_left)), (a_r0_glued_down, .inl (g.2.1, 5, .inl v_r0_glued_down)), (a_r0_glued_spare, .inl (g.2.1, 5, .inl v_r0_glued_spare)), (a_r0_glued_order, .inl (g.2.1, 5, .inl v_r0_glued_order)), (a_r0_glued_number, .inl (g.2.1, 5, .inl v_r0_glued_number)), (a_r0_kinOfIt, .inr (1, [.ref a_r0_kinOfIt_tried, .ref a_r0_kinOfIt_codes, .int v_r0_kinOfIt_found])), (a_r0_kinOfIt_tried, .inr (5, [.ref a_r0_kinOfIt_tried_right, .ref a_r0_kinOfIt_tried_up, .ref a_r0_kinOfIt_tried_left, .ref a_r0_kinOfIt_tried_down, .ref a_r0_kinOfIt_tried_spare, .ref a_r0_kinOfIt_tried_order, .ref a_r0_kinOfIt_tried_number, .int v_r0_kinOfIt_tried_numbered, .int v_r0_kinOfIt_tried_squares])), (a_r0_kinOfIt_tried_right, .inl (g.2.1, 5, .inl v_r0_kinOfIt_tried_right)), (a_r0_kinOfIt_tried_up, .inl (g.2.1, 5, .inl v_r0_kinOfIt_tried_up)), (a_r0_kinOfIt_tried_left, .inl (g.2.1, 5, .inl v_r0_kinOfIt_tried_left)), (a_r0_kinOfIt_tried_down, .inl (g.2.1, 5, .inl v_r0_kinOfIt_tried_down)), (a_r0_kinOfIt_tried_spare, .inl (g.2.1, 5, .inl v_r0_kinOfIt_tried_spare)), (a_r0_kinOfIt_tried_order, .inl (g.2.1, 5, .inl v_r0_kinOfIt_tried_order)), (a_r0_kinOfIt_tried_number, .inl (g.2.1, 5, .inl v_r0_kinOfIt_tried_number)), (a_r0_kinOfIt_codes, .inl (g.2.1, 161, .inl v_r0_kinOfIt_codes)), (a_r0_exchange, .inr (0, [.ref a_r0_exchange_lengthOf, .ref a_r0_exchange_above, .ref a_r0_exchange_below, .ref a_r0_exchange_met, .int v_r0_exchange_intervals])), (a_r0_exchange_lengthOf, .inl (g.2.1, 6, .inl v_r0_exchange_lengthOf)), (a_r0_exchange_above, .inl (g.2.1, 6, .inl v_r0_exchange_above)), (a_r0_exchange_below, .inl (g.2.1, 6, .inl v_r0_exchange_below)), (a_r0_exchange_met, .inr (3, [.ref a_r0_exchange_met_bits])), (a_r0_exchange_met_bits, .inl (g.2.2.1, 8, .inr (.inl v_r0_exchange_met_bits))), (a_r1, .inl (g.2.1, 6, .inl v_r1))]
def jf_Lw_areLit_L49 (v_r1 : Nat → Int32) (z2 : Int32) (z3 : Int64) (z5 : Int32) (z6 : Int32) (z7 : Int32) : Nat → Int32 → Int32 → Option Int32
  | 0, _, _ => none
  | n + 1, z8, z9 =>
    if z2 ≤ z9 then (some z8) else (if z8 = 0 then (if jin z9 6 = true then (if jin z9 6 = true then (Option.bind (jf_Lw_isSight (z7 - z7 / 8 * 8) (z7 / 8) ((v_r1 z9.toNatClampNeg) - (v_r1 z9.toNatClampNeg) / 8 * 8) ((v_r1 z9.toNatClampNeg) / 8) z3) (fun q_1 => (jf_Lw_areLit_L49 v_r1 z2 z3 z5 z6 z7 n) q_1 (z9 + 1))) else none) else none) else (some z8))
def jf_Lw_areLit_b108 (self : Int32 → Int32 → Int32 → Option (Int32 × Int32)) (v_r1 : Nat → Int32) (z2 : Int32) (z3 : Int64) (z6 : Int32) (z7 : Int32) (s0 : Int32) (s1 : Int32) : Option (Int32 × Int32) :=
  jlet (s0 + s1) (fun y5_1 => self y5_1 z6 (z7 + 1))
def jf_Lw_areLit_b96 (self : Int32 → Int32 → Int32 → Option (Int32 × Int32)) (v_r1 : Nat → Int32) (z2 : Int32) (z3 : Int64) (z5 : Int32) (z6 : Int32) (z7 : Int32) (z8 : Int32) : Option (Int32 × Int32) :=
  if z8 = 0 then (jf_Lw_areLit_b108 self v_r1 z2 z3 z6 z7 z5 0) else (jf_Lw_areLit_b108 self v_r1 z2 z3 z6 z7 z5 1)
def jf_Lw_areLit_b40 (self : Int32 → Int32 → Int32 → Option (Int32 × Int32)) (v_r1 : Nat → Int32) (z2 : Int32) (z3 : Int64) (z5 : Int32) (z7 : Int32) (s0 : Int32) (s1 : Int32) : Option (Int32 × Int32) :=
  jlet (s0 + s1) (fun y6_1 => Option.bind (jf_Lw_areLit_L49 v_r1 z2 z3 z5 y6_1 z7 jF 0 0) (fun q_2 => jf_Lw_areLit_b96 self v_r1 z2 z3 z5 y6_1 z7 q_2))
def jf_Lw_areLit_L9 (v_r1 : Nat → Int32) (z2 : Int32) (z3 : Int64) : Nat → Int32 → Int32 → Int32 → Option (Int32 × Int32)
  | 0, _, _, _ => none
  | n + 1, z5, z6, z7 =>
    if 64 ≤ z7 then (some (z5, z6)) else (if (jf_Lw_isFloor (z7 - z7 / 8 * 8) (z7 / 8) z3) = 0 then (jf_Lw_areLit_b40 (jf_Lw_areLit_L9 v_r1 z2 z3 n) v_r1 z2 z3 z5 z7 z6 0) else (jf_Lw_areLit_b40 (jf_Lw_areLit_L9 v_r1 z2 z3 n) v_r1 z2 z3 z5 z7 z6 1))
def jf_Lw_areLit_b177 : Option Int32 :=
  some 1
def jf_Lw_areLit (v_r0_room_blocks : Int64) (v_r0_lamps_lamps : Int32) (v_r0_lamps_cellOf : Nat → Int32) (v_r1 : Nat → Int32) (x2 : Int32) (x3 : Int64) : Option Int32 :=
  Option.bind (jf_Lw_areLit_L9 v_r1 x2 x3 jF 0 0 0) (fun q_3 => Option.bind (jf_Bi_lit v_r0_room_blocks v_r0_lamps_lamps v_r0_lamps_cellOf) (fun q_4 => if q_4 = q_3.1 then (if q_3.2 = 0 then (Option.bind (jf_Bi_share v_r0_room_blocks v_r0_lamps_lamps v_r0_lamps_cellOf) (fun q_7 => if Op.cmpValue (FP.fcmp q_7 FP.fconst0) .l = 0 then jf_Lw_areLit_b177 else (some 0))) else (Option.bind (jf_Bi_share v_r0_room_blocks v_r0_lamps_lamps v_r0_lamps_cellOf) (fun q_5 => if jnn (FP.fmul q_5 (FP.i2f q_3.2)) = true then (if Op.cmpValue (FP.fcmp (FP.fmul q_5 (FP.i2f q_3.2)) (FP.i2f (q_3.1 - 1))) .l ≤ 0 then (some 0) else (Option.bind (jf_Bi_share v_r0_room_blocks v_r0_lamps_lamps v_r0_lamps_cellOf) (fun q_6 => if jnn (FP.fmul q_6 (FP.i2f q_3.2)) = true then (if 0 ≤ Op.cmpValue (FP.fcmp (FP.fmul q_6 (FP.i2f q_3.2)) (FP.i2f (q_3.1 + 1))) .g then (some 0) else jf_Lw_areLit_b177) else none))) else none))) else (some 0)))
abbrev jr_Lw_areLit : Room := { frames := 6, cells := 0, slots := 0, locals := 140 }
set_option maxRecDepth 100000 in
set_option maxHeartbeats 4000000 in
theorem jc_Lw_areLit (l : Launch) (g : jG) (a_r0 a_r0_room a_r0_room_met a_r0_room_met_bits a_r0_lamps a_r0_lamps_cellOf a_r0_glued a_r0_glued_right a_r0_glued_up a_r0_glued_left a_r0_glued_down a_r0_glued_spare a_r0_glued_order a_r0_glued_number a_r0_kinOfIt a_r0_kinOfIt_tried a_r0_kinOfIt_tried_right a_r0_kinOfIt_tried_up a_r0_kinOfIt_tried_left a_r0_kinOfIt_tried_down a_r0_kinOfIt_tried_spare a_r0_kinOfIt_tried_order a_r0_kinOfIt_tried_number a_r0_kinOfIt_codes a_r0_exchange a_r0_exchange_lengthOf a_r0_exchange_above a_r0_exchange_below a_r0_exchange_met a_r0_exchange_met_bits a_r1 : Nat) (v_r0_room_blocks : Int64) (v_r0_room_met_bits : Nat → Int64) (v_r0_lamps_lamps : Int32) (v_r0_lamps_cellOf : Nat → Int32) (v_r0_glued_numbered : Int32) (v_r0_glued_squares : Int32) (v_r0_glued_right : Nat → Int32) (v_r0_glued_up : Nat → Int32) (v_r0_glued_left : Nat → Int32) (v_r0_glued_down : Nat → Int32) (v_r0_glued_spare : Nat → Int32) (v_r0_glued_order : Nat → Int32) (v_r0_glued_number : Nat → Int32) (v_r0_kinOfIt_found : Int32) (v_r0_kinOfIt_tried_numbered : Int32) (v_r0_kinOfIt_tried_squares : Int32) (v_r0_kinOfIt_tried_right : Nat → Int32) (v_r0_kinOfIt_tried_up : Nat → Int32) (v_r0_kinOfIt_tried_left : Nat → Int32) (v_r0_kinOfIt_tried_down : Nat → Int32) (v_r0_kinOfIt_tried_spare : Nat → Int32) (v_r0_kinOfIt_tried_order : Nat → Int32) (v_r0_kinOfIt_tried_number : Nat → Int32) (v_r0_kinOfIt_codes : Nat → Int32) (v_r0_exchange_intervals : Int32) (v_r0_exchange_lengthOf : Nat → Int32) (v_r0_exchange_above : Nat → Int32) (v_r0_exchange_below : Nat → Int32) (v_r0_exchange_met_bits : Nat → Int64) (v_r1 : Nat → Int32) (x2 : Int32) (x3 : Int64) (R : Int32) (hR : jf_Lw_areLit v_r0_room_blocks v_r0_lamps_lamps v_r0_lamps_cellOf v_r1 x2 x3 = some R) : Met l yL_areLit wsL_areLit jr_Lw_areLit (jPr g [.ref a_r0, .ref a_r1, .int x2, .long x3] (jw_Biar6I g a_r0 a_r0_room a_r0_room_met a_r0_room_met_bits a_r0_lamps a_r0_lamps_cellOf a_r0_glued a_r0_glued_right a_r0_glued_up a_r0_glued_left a_r0_glued_down a_r0_glued_spare a_r0_glued_order a_r0_glued_number a_r0_kinOfIt a_r0_kinOfIt_tried a_r0_kinOfIt_tried_right a_r0_kinOfIt_tried_up a_r0_kinOfIt_tried_left a_r0_kinOfIt_tried_down a_r0_kinOfIt_tried_spare a_r0_kinOfIt_tried_order a_r0_kinOfIt_tried_number a_r0_kinOfIt_codes a_r0_exchange a_r0_exchange_lengthOf a_r0_exchange_above a_r0_exchange_below a_r0_exchange_met a_r0_exchange_met_bits a_r1 v_r0_room_blocks v_r0_room_met_bits v_r0_lamps_lamps v_r0_lamps_cellOf v_r0_glued_numbered v_r0_glued_squares v_r0_glued_right v_r0_glued_up v_r0_glued_left v_r0_glued_down v_r0_glued_spare v_r0_glued_order v_r0_glued_number v_r0_kinOfIt_found v_r0_kinOfIt_tried_numbered v_r0_kinOfIt_tried_squares v_r0_kinOfIt_tried_right v_r0_kinOfIt_tried_up v_r0_kinOfIt_tried_left v_r0_kinOfIt_tried_down v_r0_kinOfIt_tried_spare v_r0_kinOfIt_tried_order v_r0_kinOfIt_tried_number v_r0_kinOfIt_codes v_r0_exchange_intervals v_r0_exchange_lengthOf v_r0_exchange_above v_r0_exchange_below v_r0_exchange_met_bits v_r1)) (vp_Si (fun r => r = R)) 0 0 (fun _ => False) := by
  refine jm_rz (cc := cL_areLit) (maxL := 10) (by decide +kernel) rfl (Nat.le_of_ble_eq_true rfl) ?_
  intro p e s m below meth c Q hx hb hml hown hts hK hP fin ls hl
  have hl : lv_has ls 10 [(0, .ref a_r0), (1, .ref a_r1), (2, .int x2), (3, .long x3)] := hl
  have hown : s.vm.findClass RL = some m.cls := hown
  have L9 : ∀ (n : Nat) (z2 : Int32) (z3 : Int64) (z5 : Int32) (z6 : Int32) (z7 : Int32) (ls : Array Slot), lv_has ls 10 [(0, .ref a_r0), (1, .ref a_r1), (2, .int z2), (3, .long z3), (5, .int z5), (6, .int z6), (7, .int z7)] → ∀ q, jf_Lw_areLit_L9 v_r1 z2 z3 n z5 z6 z7 = some q → (∀ ls : Array Slot, lv_has ls 10 [(0, .ref a_r0), (5, .int q.1), (6, .int q.2)] → W p l e jr_Lw_areLit s m ([.ref a_r0, .ref a_r1, .int x2, .long x3] : List Value).toArray below meth c s.heap [] 0 0 Q (F0 m 117 ls [])) → W p l e jr_Lw_areLit s m ([.ref a_r0, .ref a_r1, .int x2, .long x3] : List Value).toArray below meth c s.heap [] 0 0 Q (F0 m 9 ls []) := by
    intro n z2 z3
    induction n with
    | zero =>
      intro z5 z6 z7 ls hl q hR k
      cases hR
    | succ n ih =>
      have L49 : ∀ (n : Nat) (z2 : Int32) (z3 : Int64) (z5 : Int32) (z6 : Int32) (z7 : Int32) (z8 : Int32) (z9 : Int32) (ls : Array Slot), lv_has ls 10 [(0, .ref a_r0), (1, .ref a_r1), (2, .int z2), (3, .long z3), (5, .int z5), (6, .int z6), (7, .int z7), (8, .int z8), (9, .int z9)] → ∀ q, jf_Lw_areLit_L49 v_r1 z2 z3 z5 z6 z7 n z8 z9 = some q → (∀ ls : Array Slot, lv_has ls 10 [(0, .ref a_r0), (1, .ref a_r1), (2, .int z2), (3, .long z3), (5, .int z5), (6, .int z6), (7, .int z7), (8, .int q)] → W p l e jr_Lw_areLit s m ([.ref a_r0, .ref a_r1, .int x2, .long x3] : List Value).toArray below meth c s.heap [] 0 0 Q (F0 m 96 ls [])) → W p l e jr_Lw_areLit s m ([.ref a_r0, .ref a_r1, .int x2, .long x3] : List Value).toArray below meth c s.heap [] 0 0 Q (F0 m 49 ls []) := by
        intro n z2 z3 z5 z6 z7
        induction n with
        | zero =>
          intro z8 z9 ls hl q hR k
          cases hR
        | succ n ih =>
          intro z8 z9 ls hl q hR k
          rw [jf_Lw_areLit_L49] at hR
          refine lv_iload hx hb dL_areLit_49 (lv_at hl 8 rfl) ?_
          refine lv_iload_n hx hb dL_areLit_51 rfl (lv_at hl 2 rfl) ?_
          refine lv_icmp_ge (tgt := 96) hx hb dL_areLit_52 (by decide) (fun c_3 => ?_) (fun c_3 => ?_)
          · replace hR := Eq.trans (Eq.symm (if_pos c_3)) hR
            cases hR
            exact k _ (lv_sub hl [0, 1, 2, 3, 4, 5, 6, 7] rfl)
          · replace hR := Eq.trans (Eq.symm (if_neg c_3)) hR
            refine lv_iload hx hb dL_areLit_55 (lv_at hl 7 rfl) ?_
            refine lv_if_ne (tgt := 96) hx hb dL_areLit_57 (by decide) (fun c_4 => ?_) (fun c_4 => ?_)
            · replace hR := Eq.trans (Eq.symm (if_neg c_4)) hR
              cases hR
              exact k _ (lv_sub hl [0, 1, 2, 3, 4, 5, 6, 7] rfl)
            · replace hR := Eq.trans (Eq.symm (if_pos c_4)) hR
              refine lv_iload hx hb dL_areLit_60 (lv_at hl 6 rfl) ?_
              refine lv_bipush (v := 8) hx hb dL_areLit_62 (by decide) ?_
              refine lv_irem hx hb dL_areLit_64 (by decide) ?_
              refine lv_iload hx hb dL_areLit_65 (lv_at hl 6 rfl) ?_
              refine lv_bipush (v := 8) hx hb dL_areLit_67 (by decide) ?_
              refine lv_idiv hx hb dL_areLit_69 (by decide) ?_
              refine lv_aload_n hx hb dL_areLit_70 rfl (lv_at hl 1 rfl) ?_
              refine lv_iload hx hb dL_areLit_71 (lv_at hl 8 rfl) ?_
              by_cases c_5 : jin z9 6 = true
              case neg => replace hR := Eq.trans (Eq.symm (if_neg c_5)) hR; cases hR
              replace hR := Eq.trans (Eq.symm (if_pos c_5)) hR
              refine va_iald hx hb hK.1 hP 30 0 rfl rfl (jin_in c_5) dL_areLit_73 ?_
              refine lv_bipush (v := 8) hx hb dL_areLit_74 (by decide) ?_
              refine lv_irem hx hb dL_areLit_76 (by decide) ?_
              refine lv_aload_n hx hb dL_areLit_77 rfl (lv_at hl 1 rfl) ?_
              refine lv_iload hx hb dL_areLit_78 (lv_at hl 8 rfl) ?_
              by_cases c_6 : jin z9 6 = true
              case neg => replace hR := Eq.trans (Eq.symm (if_neg c_6)) hR; cases hR
              replace hR := Eq.trans (Eq.symm (if_pos c_6)) hR
              refine va_iald hx hb hK.1 hP 30 0 rfl rfl (jin_in c_6) dL_areLit_80 ?_
              refine lv_bipush (v := 8) hx hb dL_areLit_81 (by decide) ?_
              refine lv_idiv hx hb dL_areLit_83 (by decide) ?_
              refine lv_lload_n hx hb dL_areLit_84 rfl (lv_at hl 3 rfl) ?_
              obtain ⟨q_1, hq_1, hR⟩ := jbind hR
              try dsimp only at hR
              refine jcall_ri (va_runS (As := [.int (z7 - z7 / 8 * 8), .int (z7 / 8), .int ((v_r1 z9.toNatClampNeg) - (v_r1 z9.toNatClampNeg) / 8 * 8), .int ((v_r1 z9.toNatClampNeg) / 8), .long z3]) (rest := []) ⟨hx, hb, hml, hown, hts⟩ (jc_Lw_isSight l g  (z7 - z7 / 8 * 8) (z7 / 8) ((v_r1 z9.toNatClampNeg) - (v_r1 z9.toNatClampNeg) / 8 * 8) ((v_r1 z9.toNatClampNeg) / 8) z3 _ hq_1) (va_cwS 5 hts gL_areLit_L_isSight rfl rfl rfl (by decide +kernel) ⟨Nat.le_of_ble_eq_true rfl, Nat.le_of_ble_eq_true rfl⟩) (jpr_s hK (hP.sub (ws' := []) [] rfl)) rfl rfl hl.1 rfl (lv_room (Nat.le_of_ble_eq_true rfl)) dL_areLit_85 ⟨Nat.zero_le _, Nat.zero_le _⟩) ?_
              refine lv_istore (lv' := [(8, .int q_1), (0, .ref a_r0), (1, .ref a_r1), (2, .int z2), (3, .long z3), (5, .int z5), (6, .int z6), (7, .int z7), (9, .int z9)]) hx hb dL_areLit_88 hl (by decide) rfl (fun ls hl => ?_)
              refine lv_iinc (v := z9 + 1) (lv' := [(9, .int (z9 + 1)), (8, .int q_1), (0, .ref a_r0), (1, .ref a_r1), (2, .int z2), (3, .long z3), (5, .int z5), (6, .int z6), (7, .int z7)]) hx hb dL_areLit_90 hl (k := 8) rfl (by first | rfl | decide) (by decide) rfl (fun ls hl => ?_)
              refine lv_goto (tgt := 49) hx hb dL_areLit_93 (by decide) ?_
              exact ih q_1 (z9 + 1) _ (lv_sub hl [2, 3, 4, 5, 6, 7, 8, 1, 0] rfl) _ hR k
      have J108 : ∀ (z6 : Int32) (z7 : Int32) (s0 : Int32) (s1 : Int32) (ls : Array Slot), lv_has ls 10 [(0, .ref a_r0), (1, .ref a_r1), (2, .int z2), (3, .long z3), (6, .int z6), (7, .int z7)] → ∀ q, jf_Lw_areLit_b108 (jf_Lw_areLit_L9 v_r1 z2 z3 n) v_r1 z2 z3 z6 z7 s0 s1 = some q → (∀ ls : Array Slot, lv_has ls 10 [(0, .ref a_r0), (5, .int q.1), (6, .int q.2)] → W p l e jr_Lw_areLit s m ([.ref a_r0, .ref a_r1, .int x2, .long x3] : List Value).toArray below meth c s.heap [] 0 0 Q (F0 m 117 ls [])) → W p l e jr_Lw_areLit s m ([.ref a_r0, .ref a_r1, .int x2, .long x3] : List Value).toArray below meth c s.heap [] 0 0 Q (F0 m 108 ls [.int s1, .int s0]) := by
        intro z6 z7 s0 s1 ls hl q hR k
        rw [jf_Lw_areLit_b108] at hR
        refine lv_iadd hx hb dL_areLit_108 ?_
        refine jlet_i hR (fun y5_1 hR => ?_)
        try dsimp only at hR
        refine lv_istore (lv' := [(5, .int y5_1), (0, .ref a_r0), (1, .ref a_r1), (2, .int z2), (3, .long z3), (6, .int z6), (7, .int z7)]) hx hb dL_areLit_109 hl (by decide) rfl (fun ls hl => ?_)
        refine lv_iinc (v := z7 + 1) (lv' := [(7, .int (z7 + 1)), (5, .int y5_1), (0, .ref a_r0), (1, .ref a_r1), (2, .int z2), (3, .long z3), (6, .int z6)]) hx hb dL_areLit_111 hl (k := 6) rfl (by first | rfl | decide) (by decide) rfl (fun ls hl => ?_)
        refine lv_goto (tgt := 9) hx hb dL_areLit_114 (by decide) ?_
        exact ih y5_1 z6 (z7 + 1) _ (lv_sub hl [2, 3, 4, 5, 1, 6, 0] rfl) _ hR k
      have J96 : ∀ (z5 : Int32) (z6 : Int32) (z7 : Int32) (z8 : Int32) (ls : Array Slot), lv_has ls 10 [(0, .ref a_r0), (1, .ref a_r1), (2, .int z2), (3, .long z3), (5, .int z5), (6, .int z6), (7, .int z7), (8, .int z8)] → ∀ q, jf_Lw_areLit_b96 (jf_Lw_areLit_L9 v_r1 z2 z3 n) v_r1 z2 z3 z5 z6 z7 z8 = some q → (∀ ls : Array Slot, lv_has ls 10 [(0, .ref a_r0), (5, .int q.1), (6, .int q.2)] → W p l e jr_Lw_areLit s m ([.ref a_r0, .ref a_r1, .int x2, .long x3] : List Value).toArray below meth c s.heap [] 0 0 Q (F0 m 117 ls [])) → W p l e jr_Lw_areLit s m ([.ref a_r0, .ref a_r1, .int x2, .long x3] : List Value).toArray below meth c s.heap [] 0 0 Q (F0 m 96 ls []) := by
        intro z5 z6 z7 z8 ls hl q hR k
        rw [jf_Lw_areLit_b96] at hR
        refine lv_iload hx hb dL_areLit_96 (lv_at hl 4 rfl) ?_
        refine lv_iload hx hb dL_areLit_98 (lv_at hl 7 rfl) ?_
        refine lv_if_eq (tgt := 107) hx hb dL_areLit_100 (by decide) (fun c_7 => ?_) (fun c_7 => ?_)
        · replace hR := Eq.trans (Eq.symm (if_pos c_7)) hR
          refine lv_iconst (v := 0) hx hb dL_areLit_107 (by decide) ?_
          exact J108 z6 z7 z5 0 _ (lv_sub hl [0, 1, 2, 3, 5, 6] rfl) _ hR k
        · replace hR := Eq.trans (Eq.symm (if_neg c_7)) hR
          refine lv_iconst (v := 1) hx hb dL_areLit_103 (by decide) ?_
          refine lv_goto (tgt := 108) hx hb dL_areLit_104 (by decide) ?_
          exact J108 z6 z7 z5 1 _ (lv_sub hl [0, 1, 2, 3, 5, 6] rfl) _ hR k
      have J40 : ∀ (z5 : Int32) (z7 : Int32) (s0 : Int32) (s1 : Int32) (ls : Array Slot), lv_has ls 10 [(0, .ref a_r0), (1, .ref a_r1), (2, .int z2), (3, .long z3), (5, .int z5), (7, .int z7)] → ∀ q, jf_Lw_areLit_b40 (jf_Lw_areLit_L9 v_r1 z2 z3 n) v_r1 z2 z3 z5 z7 s0 s1 = some q → (∀ ls : Array Slot, lv_has ls 10 [(0, .ref a_r0), (5, .int q.1), (6, .int q.2)] → W p l e jr_Lw_areLit s m ([.ref a_r0, .ref a_r1, .int x2, .long x3] : List Value).toArray below meth c s.heap [] 0 0 Q (F0 m 117 ls [])) → W p l e jr_Lw_areLit s m ([.ref a_r0, .ref a_r1, .int x2, .long x3] : List Value).toArray below meth c s.heap [] 0 0 Q (F0 m 40 ls [.int s1, .int s0]) := by
        intro z5 z7 s0 s1 ls hl q hR k
        rw [jf_Lw_areLit_b40] at hR
        refine lv_iadd hx hb dL_areLit_40 ?_
        refine jlet_i hR (fun y6_1 hR => ?_)
        try dsimp only at hR
        refine lv_istore (lv' := [(6, .int y6_1), (0, .ref a_r0), (1, .ref a_r1), (2, .int z2), (3, .long z3), (5, .int z5), (7, .int z7)]) hx hb dL_areLit_41 hl (by decide) rfl (fun ls hl => ?_)
        refine lv_iconst (v := 0) hx hb dL_areLit_43 (by decide) ?_
        refine lv_istore (lv' := [(8, .int 0), (6, .int y6_1), (0, .ref a_r0), (1, .ref a_r1), (2, .int z2), (3, .long z3), (5, .int z5), (7, .int z7)]) hx hb dL_areLit_44 hl (by decide) rfl (fun ls hl => ?_)
        refine lv_iconst (v := 0) hx hb dL_areLit_46 (by decide) ?_
        refine lv_istore (lv' := [(9, .int 0), (8, .int 0), (6, .int y6_1), (0, .ref a_r0), (1, .ref a_r1), (2, .int z2), (3, .long z3), (5, .int z5), (7, .int z7)]) hx hb dL_areLit_47 hl (by decide) rfl (fun ls hl => ?_)
        obtain ⟨q_2, hq_2, hR⟩ := jbind hR
        try dsimp only at hR
        refine L49 jF z2 z3 z5 y6_1 z7 0 0 _ (lv_sub hl [3, 4, 5, 6, 7, 2, 8, 1, 0] rfl) _ hq_2 (fun ls hl => ?_)
        exact J96 z5 y6_1 z7 q_2 _ (lv_sub hl [0, 1, 2, 3, 4, 5, 6, 7] rfl) _ hR k
      intro z5 z6 z7 ls hl q hR k
      rw [jf_Lw_areLit_L9] at hR
      refine lv_iload hx hb dL_areLit_9 (lv_at hl 6 rfl) ?_
      refine lv_bipush (v := 64) hx hb dL_areLit_11 (by decide) ?_
      refine lv_icmp_ge (tgt := 117) hx hb dL_areLit_13 (by decide) (fun c_1 => ?_) (fun c_1 => ?_)
      · replace hR := Eq.trans (Eq.symm (if_pos c_1)) hR
        cases hR
        exact k _ (lv_sub hl [0, 4, 5] rfl)
      · replace hR := Eq.trans (Eq.symm (if_neg c_1)) hR
        refine lv_iload hx hb dL_areLit_16 (lv_at hl 5 rfl) ?_
        refine lv_iload hx hb dL_areLit_18 (lv_at hl 6 rfl) ?_
        refine lv_bipush (v := 8) hx hb dL_areLit_20 (by decide) ?_
        refine lv_irem hx hb dL_areLit_22 (by decide) ?_
        refine lv_iload hx hb dL_areLit_23 (lv_at hl 6 rfl) ?_
        refine lv_bipush (v := 8) hx hb dL_areLit_25 (by decide) ?_
        refine lv_idiv hx hb dL_areLit_27 (by decide) ?_
        refine lv_lload_n hx hb dL_areLit_28 rfl (lv_at hl 3 rfl) ?_
        refine jcall_ri (va_runS (As := [.int (z7 - z7 / 8 * 8), .int (z7 / 8), .long z3]) (rest := [.int z6]) ⟨hx, hb, hml, hown, hts⟩ (jc_Lw_isFloor l g  (z7 - z7 / 8 * 8) (z7 / 8) z3 _ rfl) (va_cwS 3 hts gL_areLit_L_isFloor rfl rfl rfl (by decide +kernel) ⟨Nat.le_of_ble_eq_true rfl, Nat.le_of_ble_eq_true rfl⟩) (jpr_s hK (hP.sub (ws' := []) [] rfl)) rfl rfl hl.1 rfl (lv_room (Nat.le_of_ble_eq_true rfl)) dL_areLit_29 ⟨Nat.zero_le _, Nat.zero_le _⟩) ?_
        refine lv_if_eq (tgt := 39) hx hb dL_areLit_32 (by decide) (fun c_2 => ?_) (fun c_2 => ?_)
        · replace hR := Eq.trans (Eq.symm (if_pos c_2)) hR
          refine lv_iconst (v := 0) hx hb dL_areLit_39 (by decide) ?_
          exact J40 z5 z7 z6 0 _ (lv_sub hl [0, 1, 2, 3, 4, 6] rfl) _ hR k
        · replace hR := Eq.trans (Eq.symm (if_neg c_2)) hR
          refine lv_iconst (v := 1) hx hb dL_areLit_35 (by decide) ?_
          refine lv_goto (tgt := 40) hx hb dL_areLit_36 (by decide) ?_
          exact J40 z5 z7 z6 1 _ (lv_sub hl [0, 1, 2, 3, 4, 6] rfl) _ hR k
  have J177 : ∀ (ls : Array Slot), lv_has ls 10 [] → jf_Lw_areLit_b177 = some R → W p l e jr_Lw_areLit s m ([.ref a_r0, .ref a_r1, .int x2, .long x3] : List Value).toArray below meth c s.heap [] 0 0 Q (F0 m 177 ls []) := by
    intro ls hl hR
    rw [jf_Lw_areLit_b177] at hR
    refine lv_iconst (v := 1) hx hb dL_areLit_177 (by decide) ?_
    refine lv_goto (tgt := 182) hx hb dL_areLit_178 (by decide) ?_
    exact fin _ _ _ (Eq.trans (by decide) (Option.some.inj hR)) dL_areLit_182
  rw [jf_Lw_areLit] at hR
  refine lv_iconst (v := 0) hx hb dL_areLit_0 (by decide) ?_
  refine lv_istore (lv' := [(5, .int 0), (0, .ref a_r0), (1, .ref a_r1), (2, .int x2), (3, .long x3)]) hx hb dL_areLit_1 hl (by decide) rfl (fun ls hl => ?_)
  refine lv_iconst (v := 0) hx hb dL_areLit_3 (by decide) ?_
  refine lv_istore (lv' := [(6, .int 0), (5, .int 0), (0, .ref a_r0), (1, .ref a_r1), (2, .int x2), (3, .long x3)]) hx hb dL_areLit_4 hl (by decide) rfl (fun ls hl => ?_)
  refine lv_iconst (v := 0) hx hb dL_areLit_6 (by decide) ?_
  refine lv_istore (lv' := [(7, .int 0), (6, .int 0), (5, .int 0), (0, .ref a_r0), (1, .ref a_r1), (2, .int x2), (3, .long x3)]) hx hb dL_areLit_7 hl (by decide) rfl (fun ls hl => ?_)
  obtain ⟨q_3, hq_3, hR⟩ := jbind hR
  try dsimp only at hR
  refine L9 jF x2 x3 0 0 0 _ (lv_sub hl [3, 4, 5, 6, 2, 1, 0] rfl) _ hq_3 (fun ls hl => ?_)
  refine lv_aload_n hx hb dL_areLit_117 rfl (lv_at hl 0 rfl) ?_
  obtain ⟨q_4, hq_4, hR⟩ := jbind hR
  try dsimp only at hR
  refine jcall_ri (va_runV (As := []) (rest := []) ⟨hx, hb, hml, hown, hts⟩ (jc_Bi_lit l g a_r0 a_r0_room a_r0_room_met a_r0_room_met_bits a_r0_lamps a_r0_lamps_cellOf a_r0_glued a_r0_glued_right a_r0_glued_up a_r0_glued_left a_r0_glued_down a_r0_glued_spare a_r0_glued_order a_r0_glued_number a_r0_kinOfIt a_r0_kinOfIt_tried a_r0_kinOfIt_tried_right a_r0_kinOfIt_tried_up a_r0_kinOfIt_tried_left a_r0_kinOfIt_tried_down a_r0_kinOfIt_tried_spare a_r0_kinOfIt_tried_order a_r0_kinOfIt_tried_number a_r0_kinOfIt_codes a_r0_exchange a_r0_exchange_lengthOf a_r0_exchange_above a_r0_exchange_below a_r0_exchange_met a_r0_exchange_met_bits v_r0_room_blocks v_r0_room_met_bits v_r0_lamps_lamps v_r0_lamps_cellOf v_r0_glued_numbered v_r0_glued_squares v_r0_glued_right v_r0_glued_up v_r0_glued_left v_r0_glued_down v_r0_glued_spare v_r0_glued_order v_r0_glued_number v_r0_kinOfIt_found v_r0_kinOfIt_tried_numbered v_r0_kinOfIt_tried_squares v_r0_kinOfIt_tried_right v_r0_kinOfIt_tried_up v_r0_kinOfIt_tried_left v_r0_kinOfIt_tried_down v_r0_kinOfIt_tried_spare v_r0_kinOfIt_tried_order v_r0_kinOfIt_tried_number v_r0_kinOfIt_codes v_r0_exchange_intervals v_r0_exchange_lengthOf v_r0_exchange_above v_r0_exchange_below v_r0_exchange_met_bits _ hq_4) (cwV 0 hts gL_areLit_X6_lit rfl rfl rfl (by decide +kernel) ⟨Nat.le_of_ble_eq_true rfl, Nat.le_of_ble_eq_true rfl⟩) (jpr_v hK (hP.sub (ws' := jw_Bi g a_r0 a_r0_room a_r0_room_met a_r0_room_met_bits a_r0_lamps a_r0_lamps_cellOf a_r0_glued a_r0_glued_right a_r0_glued_up a_r0_glued_left a_r0_glued_down a_r0_glued_spare a_r0_glued_order a_r0_glued_number a_r0_kinOfIt a_r0_kinOfIt_tried a_r0_kinOfIt_tried_right a_r0_kinOfIt_tried_up a_r0_kinOfIt_tried_left a_r0_kinOfIt_tried_down a_r0_kinOfIt_tried_spare a_r0_kinOfIt_tried_order a_r0_kinOfIt_tried_number a_r0_kinOfIt_codes a_r0_exchange a_r0_exchange_lengthOf a_r0_exchange_above a_r0_exchange_below a_r0_exchange_met a_r0_exchange_met_bits v_r0_room_blocks v_r0_room_met_bits v_r0_lamps_lamps v_r0_lamps_cellOf v_r0_glued_numbered v_r0_glued_squares v_r0_glued_right v_r0_glued_up v_r0_glued_left v_r0_glued_down v_r0_glued_spare v_r0_glued_order v_r0_glued_number v_r0_kinOfIt_found v_r0_kinOfIt_tried_numbered v_r0_kinOfIt_tried_squares v_r0_kinOfIt_tried_right v_r0_kinOfIt_tried_up v_r0_kinOfIt_tried_left v_r0_kinOfIt_tried_down v_r0_kinOfIt_tried_spare v_r0_kinOfIt_tried_order v_r0_kinOfIt_tried_number v_r0_kinOfIt_codes v_r0_exchange_intervals v_r0_exchange_lengthOf v_r0_exchange_above v_r0_exchange_below v_r0_exchange_met_bits) [0, 1, 2, 3, 4, 5, 6, 7, 8, 9, 10, 11, 12, 13, 14, 15, 16, 17, 18, 19, 20, 21, 22, 23, 24, 25, 26, 27, 28, 29] rfl) (ci := 6) (q0 := 0) rfl rfl) rfl rfl hl.1 rfl (lv_room (Nat.le_of_ble_eq_true rfl)) dL_areLit_118 ⟨Nat.zero_le _, Nat.zero_le _⟩) ?_
  refine lv_iload hx hb dL_areLit_121 (lv_at hl 1 rfl) ?_
  refine lv_icmp_ne (tgt := 181) hx hb dL_areLit_123 (by decide) (fun c_8 => ?_) (fun c_8 => ?_)
  · replace hR := Eq.trans (Eq.symm (if_neg c_8)) hR
    refine lv_iconst (v := 0) hx hb dL_areLit_181 (by decide) ?_
    exact fin _ _ _ (Eq.trans (by decide) (Option.some.inj hR)) dL_areLit_182
  · replace hR := Eq.trans (Eq.symm (if_pos c_8)) hR
    refine lv_iload hx hb dL_areLit_126 (lv_at hl 2 rfl) ?_
    refine lv_if_ne (tgt := 143) hx hb dL_areLit_128 (by decide) (fun c_9 => ?_) (fun c_9 => ?_)
    · replace hR := Eq.trans (Eq.symm (if_neg c_9)) hR
      refine lv_aload_n hx hb dL_areLit_143 rfl (lv_at hl 0 rfl) ?_
      obtain ⟨q_5, hq_5, hR⟩ := jbind hR
      try dsimp only at hR
      refine jcall_rf (va_runV (As := []) (rest := []) ⟨hx, hb, hml, hown, hts⟩ (jc_Bi_share l g a_r0 a_r0_room a_r0_room_met a_r0_room_met_bits a_r0_lamps a_r0_lamps_cellOf a_r0_glued a_r0_glued_right a_r0_glued_up a_r0_glued_left a_r0_glued_down a_r0_glued_spare a_r0_glued_order a_r0_glued_number a_r0_kinOfIt a_r0_kinOfIt_tried a_r0_kinOfIt_tried_right a_r0_kinOfIt_tried_up a_r0_kinOfIt_tried_left a_r0_kinOfIt_tried_down a_r0_kinOfIt_tried_spare a_r0_kinOfIt_tried_order a_r0_kinOfIt_tried_number a_r0_kinOfIt_codes a_r0_exchange a_r0_exchange_lengthOf a_r0_exchange_above a_r0_exchange_below a_r0_exchange_met a_r0_exchange_met_bits v_r0_room_blocks v_r0_room_met_bits v_r0_lamps_lamps v_r0_lamps_cellOf v_r0_glued_numbered v_r0_glued_squares v_r0_glued_right v_r0_glued_up v_r0_glued_left v_r0_glued_down v_r0_glued_spare v_r0_glued_order v_r0_glued_number v_r0_kinOfIt_found v_r0_kinOfIt_tried_numbered v_r0_kinOfIt_tried_squares v_r0_kinOfIt_tried_right v_r0_kinOfIt_tried_up v_r0_kinOfIt_tried_left v_r0_kinOfIt_tried_down v_r0_kinOfIt_tried_spare v_r0_kinOfIt_tried_order v_r0_kinOfIt_tried_number v_r0_kinOfIt_codes v_r0_exchange_intervals v_r0_exchange_lengthOf v_r0_exchange_above v_r0_exchange_below v_r0_exchange_met_bits _ hq_5) (cwV 0 hts gL_areLit_X6_share rfl rfl rfl (by decide +kernel) ⟨Nat.le_of_ble_eq_true rfl, Nat.le_of_ble_eq_true rfl⟩) (jpr_v hK (hP.sub (ws' := jw_Bi g a_r0 a_r0_room a_r0_room_met a_r0_room_met_bits a_r0_lamps a_r0_lamps_cellOf a_r0_glued a_r0_glued_right a_r0_glued_up a_r0_glued_left a_r0_glued_down a_r0_glued_spare a_r0_glued_order a_r0_glued_number a_r0_kinOfIt a_r0_kinOfIt_tried a_r0_kinOfIt_tried_right a_r0_kinOfIt_tried_up a_r0_kinOfIt_tried_left a_r0_kinOfIt_tried_down a_r0_kinOfIt_tried_spare a_r0_kinOfIt_tried_order a_r0_kinOfIt_tried_number a_r0_kinOfIt_codes a_r0_exchange a_r0_exchange_lengthOf a_r0_exchange_above a_r0_exchange_below a_r0_exchange_met a_r0_exchange_met_bits v_r0_room_blocks v_r0_room_met_bits v_r0_lamps_lamps v_r0_lamps_cellOf v_r0_glued_numbered v_r0_glued_squares v_r0_glued_right v_r0_glued_up v_r0_glued_left v_r0_glued_down v_r0_glued_spare v_r0_glued_order v_r0_glued_number v_r0_kinOfIt_found v_r0_kinOfIt_tried_numbered v_r0_kinOfIt_tried_squares v_r0_kinOfIt_tried_right v_r0_kinOfIt_tried_up v_r0_kinOfIt_tried_left v_r0_kinOfIt_tried_down v_r0_kinOfIt_tried_spare v_r0_kinOfIt_tried_order v_r0_kinOfIt_tried_number v_r0_kinOfIt_codes v_r0_exchange_intervals v_r0_exchange_lengthOf v_r0_exchange_above v_r0_exchange_below v_r0_exchange_met_bits) [0, 1, 2, 3, 4, 5, 6, 7, 8, 9, 10, 11, 12, 13, 14, 15, 16, 17, 18, 19, 20, 21, 22, 23, 24, 25, 26, 27, 28, 29] rfl) (ci := 6) (q0 := 0) rfl rfl) rfl rfl hl.1 rfl (lv_room (Nat.le_of_ble_eq_true rfl)) dL_areLit_144 ⟨Nat.zero_le _, Nat.zero_le _⟩) ?_
      refine lv_iload hx hb dL_areLit_147 (lv_at hl 2 rfl) ?_
      refine lv_i2f hx hb dL_areLit_149 ?_
      by_cases c_10 : jnn (FP.fmul q_5 (FP.i2f q_3.2)) = true
      case neg => replace hR := Eq.trans (Eq.symm (if_neg c_10)) hR; cases hR
      replace hR := Eq.trans (Eq.symm (if_pos c_10)) hR
      refine lv_fmul hx hb dL_areLit_150 (jnn_n c_10) ?_
      refine lv_iload hx hb dL_areLit_151 (lv_at hl 1 rfl) ?_
      refine lv_iconst (v := 1) hx hb dL_areLit_153 (by decide) ?_
      refine lv_isub hx hb dL_areLit_154 ?_
      refine lv_i2f hx hb dL_areLit_155 ?_
      refine lv_fcmp hx hb dL_areLit_156 ?_
      refine lv_if_le (tgt := 181) hx hb dL_areLit_157 (by decide) (fun c_11 => ?_) (fun c_11 => ?_)
      · replace hR := Eq.trans (Eq.symm (if_pos c_11)) hR
        refine lv_iconst (v := 0) hx hb dL_areLit_181 (by decide) ?_
        exact fin _ _ _ (Eq.trans (by decide) (Option.some.inj hR)) dL_areLit_182
      · replace hR := Eq.trans (Eq.symm (if_neg c_11)) hR
        refine lv_aload_n hx hb dL_areLit_160 rfl (lv_at hl 0 rfl) ?_
        obtain ⟨q_6, hq_6, hR⟩ := jbind hR
        try dsimp only at hR
        refine jcall_rf (va_runV (As := []) (rest := []) ⟨hx, hb, hml, hown, hts⟩ (jc_Bi_share l g a_r0 a_r0_room a_r0_room_met a_r0_room_met_bits a_r0_lamps a_r0_lamps_cellOf a_r0_glued a_r0_glued_right a_r0_glued_up a_r0_glued_left a_r0_glued_down a_r0_glued_spare a_r0_glued_order a_r0_glued_number a_r0_kinOfIt a_r0_kinOfIt_tried a_r0_kinOfIt_tried_right a_r0_kinOfIt_tried_up a_r0_kinOfIt_tried_left a_r0_kinOfIt_tried_down a_r0_kinOfIt_tried_spare a_r0_kinOfIt_tried_order a_r0_kinOfIt_tried_number a_r0_kinOfIt_codes a_r0_exchange a_r0_exchange_lengthOf a_r0_exchange_above a_r0_exchange_below a_r0_exchange_met a_r0_exchange_met_bits v_r0_room_blocks v_r0_room_met_bits v_r0_lamps_lamps v_r0_lamps_cellOf v_r0_glued_numbered v_r0_glued_squares v_r0_glued_right v_r0_glued_up v_r0_glued_left v_r0_glued_down v_r0_glued_spare v_r0_glued_order v_r0_glued_number v_r0_kinOfIt_found v_r0_kinOfIt_tried_numbered v_r0_kinOfIt_tried_squares v_r0_kinOfIt_tried_right v_r0_kinOfIt_tried_up v_r0_kinOfIt_tried_left v_r0_kinOfIt_tried_down v_r0_kinOfIt_tried_spare v_r0_kinOfIt_tried_order v_r0_kinOfIt_tried_number v_r0_kinOfIt_codes v_r0_exchange_intervals v_r0_exchange_lengthOf v_r0_exchange_above v_r0_exchange_below v_r0_exchange_met_bits _ hq_6) (cwV 0 hts gL_areLit_X6_share rfl rfl rfl (by decide +kernel) ⟨Nat.le_of_ble_eq_true rfl, Nat.le_of_ble_eq_true rfl⟩) (jpr_v hK (hP.sub (ws' := jw_Bi g a_r0 a_r0_room a_r0_room_met a_r0_room_met_bits a_r0_lamps a_r0_lamps_cellOf a_r0_glued a_r0_glued_right a_r0_glued_up a_r0_glued_left a_r0_glued_down a_r0_glued_spare a_r0_glued_order a_r0_glued_number a_r0_kinOfIt a_r0_kinOfIt_tried a_r0_kinOfIt_tried_right a_r0_kinOfIt_tried_up a_r0_kinOfIt_tried_left a_r0_kinOfIt_tried_down a_r0_kinOfIt_tried_spare a_r0_kinOfIt_tried_order a_r0_kinOfIt_tried_number a_r0_kinOfIt_codes a_r0_exchange a_r0_exchange_lengthOf a_r0_exchange_above a_r0_exchange_below a_r0_exchange_met a_r0_exchange_met_bits v_r0_room_blocks v_r0_room_met_bits v_r0_lamps_lamps v_r0_lamps_cellOf v_r0_glued_numbered v_r0_glued_squares v_r0_glued_right v_r0_glued_up v_r0_glued_left v_r0_glued_down v_r0_glued_spare v_r0_glued_order v_r0_glued_number v_r0_kinOfIt_found v_r0_kinOfIt_tried_numbered v_r0_kinOfIt_tried_squares v_r0_kinOfIt_tried_right v_r0_kinOfIt_tried_up v_r0_kinOfIt_tried_left v_r0_kinOfIt_tried_down v_r0_kinOfIt_tried_spare v_r0_kinOfIt_tried_order v_r0_kinOfIt_tried_number v_r0_kinOfIt_codes v_r0_exchange_intervals v_r0_exchange_lengthOf v_r0_exchange_above v_r0_exchange_below v_r0_exchange_met_bits) [0, 1, 2, 3, 4, 5, 6, 7, 8, 9, 10, 11, 12, 13, 14, 15, 16, 17, 18, 19, 20, 21, 22, 23, 24, 25, 26, 27, 28, 29] rfl) (ci := 6) (q0 := 0) rfl rfl) rfl rfl hl.1 rfl (lv_room (Nat.le_of_ble_eq_true rfl)) dL_areLit_161 ⟨Nat.zero_le _, Nat.zero_le _⟩) ?_
        refine lv_iload hx hb dL_areLit_164 (lv_at hl 2 rfl) ?_
        refine lv_i2f hx hb dL_areLit_166 ?_
        by_cases c_12 : jnn (FP.fmul q_6 (FP.i2f q_3.2)) = true
        case neg => replace hR := Eq.trans (Eq.symm (if_neg c_12)) hR; cases hR
        replace hR := Eq.trans (Eq.symm (if_pos c_12)) hR
        refine lv_fmul hx hb dL_areLit_167 (jnn_n c_12) ?_
        refine lv_iload hx hb dL_areLit_168 (lv_at hl 1 rfl) ?_
        refine lv_iconst (v := 1) hx hb dL_areLit_170 (by decide) ?_
        refine lv_iadd hx hb dL_areLit_171 ?_
        refine lv_i2f hx hb dL_areLit_172 ?_
        refine lv_fcmp hx hb dL_areLit_173 ?_
        refine lv_if_ge (tgt := 181) hx hb dL_areLit_174 (by decide) (fun c_13 => ?_) (fun c_13 => ?_)
        · replace hR := Eq.trans (Eq.symm (if_pos c_13)) hR
          refine lv_iconst (v := 0) hx hb dL_areLit_181 (by decide) ?_
          exact fin _ _ _ (Eq.trans (by decide) (Option.some.inj hR)) dL_areLit_182
        · replace hR := Eq.trans (Eq.symm (if_neg c_13)) hR
          exact J177 _ (lv_sub hl [] rfl) hR
    · replace hR := Eq.trans (Eq.symm (if_pos c_9)) hR
      refine lv_aload_n hx hb dL_areLit_131 rfl (lv_at hl 0 rfl) ?_
      obtain ⟨q_7, hq_7, hR⟩ := jbind hR
      try dsimp only at hR
      refine jcall_rf (va_runV (As := []) (rest := []) ⟨hx, hb, hml, hown, hts⟩ (jc_Bi_share l g a_r0 a_r0_room a_r0_room_met a_r0_room_met_bits a_r0_lamps a_r0_lamps_cellOf a_r0_glued a_r0_glued_right a_r0_glued_up a_r0_glued_left a_r0_glued_down a_r0_glued_spare a_r0_glued_order a_r0_glued_number a_r0_kinOfIt a_r0_kinOfIt_tried a_r0_kinOfIt_tried_right a_r0_kinOfIt_tried_up a_r0_kinOfIt_tried_left a_r0_kinOfIt_tried_down a_r0_kinOfIt_tried_spare a_r0_kinOfIt_tried_order a_r0_kinOfIt_tried_number a_r0_kinOfIt_codes a_r0_exchange a_r0_exchange_lengthOf a_r0_exchange_above a_r0_exchange_below a_r0_exchange_met a_r0_exchange_met_bits v_r0_room_blocks v_r0_room_met_bits v_r0_lamps_lamps v_r0_lamps_cellOf v_r0_glued_numbered v_r0_glued_squares v_r0_glued_right v_r0_glued_up v_r0_glued_left v_r0_glued_down v_r0_glued_spare v_r0_glued_order v_r0_glued_number v_r0_kinOfIt_found v_r0_kinOfIt_tried_numbered v_r0_kinOfIt_tried_squares v_r0_kinOfIt_tried_right v_r0_kinOfIt_tried_up v_r0_kinOfIt_tried_left v_r0_kinOfIt_tried_down v_r0_kinOfIt_tried_spare v_r0_kinOfIt_tried_order v_r0_kinOfIt_tried_number v_r0_kinOfIt_codes v_r0_exchange_intervals v_r0_exchange_lengthOf v_r0_exchange_above v_r0_exchange_below v_r0_exchange_met_bits _ hq_7) (cwV 0 hts gL_areLit_X6_share rfl rfl rfl (by decide +kernel) ⟨Nat.le_of_ble_eq_true rfl, Nat.le_of_ble_eq_true rfl⟩) (jpr_v hK (hP.sub (ws' := jw_Bi g a_r0 a_r0_room a_r0_room_met a_r0_room_met_bits a_r0_lamps a_r0_lamps_cellOf a_r0_glued a_r0_glued_right a_r0_glued_up a_r0_glued_left a_r0_glued_down a_r0_glued_spare a_r0_glued_order a_r0_glued_number a_r0_kinOfIt a_r0_kinOfIt_tried a_r0_kinOfIt_tried_right a_r0_kinOfIt_tried_up a_r0_kinOfIt_tried_left a_r0_kinOfIt_tried_down a_r0_kinOfIt_tried_spare a_r0_kinOfIt_tried_order a_r0_kinOfIt_tried_number a_r0_kinOfIt_codes a_r0_exchange a_r0_exchange_lengthOf a_r0_exchange_above a_r0_exchange_below a_r0_exchange_met a_r0_exchange_met_bits v_r0_room_blocks v_r0_room_met_bits v_r0_lamps_lamps v_r0_lamps_cellOf v_r0_glued_numbered v_r0_glued_squares v_r0_glued_right v_r0_glued_up v_r0_glued_left v_r0_glued_down v_r0_glued_spare v_r0_glued_order v_r0_glued_number v_r0_kinOfIt_found v_r0_kinOfIt_tried_numbered v_r0_kinOfIt_tried_squares v_r0_kinOfIt_tried_right v_r0_kinOfIt_tried_up v_r0_kinOfIt_tried_left v_r0_kinOfIt_tried_down v_r0_kinOfIt_tried_spare v_r0_kinOfIt_tried_order v_r0_kinOfIt_tried_number v_r0_kinOfIt_codes v_r0_exchange_intervals v_r0_exchange_lengthOf v_r0_exchange_above v_r0_exchange_below v_r0_exchange_met_bits) [0, 1, 2, 3, 4, 5, 6, 7, 8, 9, 10, 11, 12, 13, 14, 15, 16, 17, 18, 19, 20, 21, 22, 23, 24, 25, 26, 27, 28, 29] rfl) (ci := 6) (q0 := 0) rfl rfl) rfl rfl hl.1 rfl (lv_room (Nat.le_of_ble_eq_true rfl)) dL_areLit_132 ⟨Nat.zero_le _, Nat.zero_le _⟩) ?_
      refine lv_fconst0 hx hb dL_areLit_135 ?_
      refine lv_fcmp hx hb dL_areLit_136 ?_
      refine lv_if_ne (tgt := 181) hx hb dL_areLit_137 (by decide) (fun c_14 => ?_) (fun c_14 => ?_)
      · replace hR := Eq.trans (Eq.symm (if_neg c_14)) hR
        refine lv_iconst (v := 0) hx hb dL_areLit_181 (by decide) ?_
        exact fin _ _ _ (Eq.trans (by decide) (Option.some.inj hR)) dL_areLit_182
      · replace hR := Eq.trans (Eq.symm (if_pos c_14)) hR
        refine lv_goto (tgt := 177) hx hb dL_areLit_140 (by decide) ?_
        exact J177 _ (lv_sub hl [] rfl) hR
