/-! walks laid by wip/gen/gen.py: jf_.. what a method answers, jc_.. its contract -/
def jf_Bi_isCell (x0 : Int32) (x1 : Int32) : Int32 :=
  if x0 < 0 then 0 else (if 8 ≤ x0 then 0 else (if x1 < 0 then 0 else (if 8 ≤ x1 then 0 else 1)))
abbrev jr_Bi_isCell : Room := { frames := 0, cells := 0, slots := 0, locals := 0 }
set_option maxRecDepth 100000 in
set_option maxHeartbeats 4000000 in
theorem jc_Bi_isCell (l : Launch) (g : jG) (x0 : Int32) (x1 : Int32) (R : Int32) (hR : jf_Bi_isCell x0 x1 = R) : Met l yX6_isCell wsX6_isCell jr_Bi_isCell (jPr g [.int x0, .int x1] ([])) (vp_Si (fun r => r = R)) 0 0 (fun _ => False) := by
  refine jm_rz (cc := cX6_isCell) (maxL := 2) (by decide +kernel) rfl (Nat.le_of_ble_eq_true rfl) ?_
  intro p e s m below meth c Q hx hb hml hown hts hK hP fin ls hl
  have hl : lv_has ls 2 [(0, .int x0), (1, .int x1)] := hl
  have hown : s.vm.findClass RX6 = some m.cls := hown
  rw [jf_Bi_isCell] at hR
  refine lv_iload_n hx hb dX6_isCell_0 rfl (lv_at hl 0 rfl) ?_
  refine lv_if_lt (tgt := 24) hx hb dX6_isCell_1 (by decide) (fun c_1 => ?_) (fun c_1 => ?_)
  · replace hR := Eq.trans (Eq.symm (if_pos c_1)) hR
    refine lv_iconst (v := 0) hx hb dX6_isCell_24 (by decide) ?_
    exact fin _ _ _ (Eq.trans (by decide) hR) dX6_isCell_25
  · replace hR := Eq.trans (Eq.symm (if_neg c_1)) hR
    refine lv_iload_n hx hb dX6_isCell_4 rfl (lv_at hl 0 rfl) ?_
    refine lv_bipush (v := 8) hx hb dX6_isCell_5 (by decide) ?_
    refine lv_icmp_ge (tgt := 24) hx hb dX6_isCell_7 (by decide) (fun c_2 => ?_) (fun c_2 => ?_)
    · replace hR := Eq.trans (Eq.symm (if_pos c_2)) hR
      refine lv_iconst (v := 0) hx hb dX6_isCell_24 (by decide) ?_
      exact fin _ _ _ (Eq.trans (by decide) hR) dX6_isCell_25
    · replace hR := Eq.trans (Eq.symm (if_neg c_2)) hR
      refine lv_iload_n hx hb dX6_isCell_10 rfl (lv_at hl 1 rfl) ?_
      refine lv_if_lt (tgt := 24) hx hb dX6_isCell_11 (by decide) (fun c_3 => ?_) (fun c_3 => ?_)
      · replace hR := Eq.trans (Eq.symm (if_pos c_3)) hR
        refine lv_iconst (v := 0) hx hb dX6_isCell_24 (by decide) ?_
        exact fin _ _ _ (Eq.trans (by decide) hR) dX6_isCell_25
      · replace hR := Eq.trans (Eq.symm (if_neg c_3)) hR
        refine lv_iload_n hx hb dX6_isCell_14 rfl (lv_at hl 1 rfl) ?_
        refine lv_bipush (v := 8) hx hb dX6_isCell_15 (by decide) ?_
        refine lv_icmp_ge (tgt := 24) hx hb dX6_isCell_17 (by decide) (fun c_4 => ?_) (fun c_4 => ?_)
        · replace hR := Eq.trans (Eq.symm (if_pos c_4)) hR
          refine lv_iconst (v := 0) hx hb dX6_isCell_24 (by decide) ?_
          exact fin _ _ _ (Eq.trans (by decide) hR) dX6_isCell_25
        · replace hR := Eq.trans (Eq.symm (if_neg c_4)) hR
          refine lv_iconst (v := 1) hx hb dX6_isCell_20 (by decide) ?_
          refine lv_goto (tgt := 25) hx hb dX6_isCell_21 (by decide) ?_
          exact fin _ _ _ (Eq.trans (by decide) hR) dX6_isCell_25
abbrev jw_arI (g : jG) (a_r0 : Nat) (n0 : Nat) (v_r0 : Nat → Int32) : va_W := [(a_r0, .inl (g.2.1, n0, .inl v_r0))]
def jf_Bi_at (n0 : Nat) (v_r0 : Nat → Int32) (x1 : Int32) : Option Int32 :=
  if x1 < 0 then (some 0) else (if nI n0 ≤ x1 then (some 0) else (if jin x1 n0 = true then (some (v_r0 x1.toNatClampNeg)) else none))
abbrev jr_Bi_at : Room := { frames := 0, cells := 0, slots := 0, locals := 0 }
set_option maxRecDepth 100000 in
set_option maxHeartbeats 4000000 in
theorem jc_Bi_at (l : Launch) (g : jG) (a_r0 : Nat) (n0 : Nat) (h_n0 : n0 < 2147483648) (v_r0 : Nat → Int32) (x1 : Int32) (R : Int32) (hR : jf_Bi_at n0 v_r0 x1 = some R) : Met l yX6_at wsX6_at jr_Bi_at (jPr g [.ref a_r0, .int x1] (jw_arI g a_r0 n0 v_r0)) (vp_Si (fun r => r = R)) 0 0 (fun _ => False) := by
  refine jm_ri (cc := cX6_at) (maxL := 2) (by decide +kernel) rfl (Nat.le_of_ble_eq_true rfl) ?_
  intro p e s m below meth c Q hx hb hml hown hts hK hP fin ls hl
  have hl : lv_has ls 2 [(0, .ref a_r0), (1, .int x1)] := hl
  have hown : s.vm.findClass RX6 = some m.cls := hown
  rw [jf_Bi_at] at hR
  refine lv_iload_n hx hb dX6_at_0 rfl (lv_at hl 1 rfl) ?_
  refine lv_if_lt (tgt := 16) hx hb dX6_at_1 (by decide) (fun c_1 => ?_) (fun c_1 => ?_)
  · replace hR := Eq.trans (Eq.symm (if_pos c_1)) hR
    refine lv_iconst (v := 0) hx hb dX6_at_16 (by decide) ?_
    exact fin _ _ _ (Option.some.inj hR) dX6_at_17
  · replace hR := Eq.trans (Eq.symm (if_neg c_1)) hR
    refine lv_iload_n hx hb dX6_at_4 rfl (lv_at hl 1 rfl) ?_
    refine lv_aload_n hx hb dX6_at_5 rfl (lv_at hl 0 rfl) ?_
    refine va_alen (v := nI n0) hx hb hK.1 hP 0 0 rfl rfl rfl dX6_at_6 ?_
    refine lv_icmp_ge (tgt := 16) hx hb dX6_at_7 (by decide) (fun c_2 => ?_) (fun c_2 => ?_)
    · replace hR := Eq.trans (Eq.symm (if_pos c_2)) hR
      refine lv_iconst (v := 0) hx hb dX6_at_16 (by decide) ?_
      exact fin _ _ _ (Option.some.inj hR) dX6_at_17
    · replace hR := Eq.trans (Eq.symm (if_neg c_2)) hR
      refine lv_aload_n hx hb dX6_at_10 rfl (lv_at hl 0 rfl) ?_
      refine lv_iload_n hx hb dX6_at_11 rfl (lv_at hl 1 rfl) ?_
      by_cases c_3 : jin x1 n0 = true
      case neg => replace hR := Eq.trans (Eq.symm (if_neg c_3)) hR; cases hR
      replace hR := Eq.trans (Eq.symm (if_pos c_3)) hR
      refine va_iald hx hb hK.1 hP 0 0 rfl rfl (jin_in c_3) dX6_at_12 ?_
      refine lv_goto (tgt := 17) hx hb dX6_at_13 (by decide) ?_
      exact fin _ _ _ (Option.some.inj hR) dX6_at_17
def jf_Bi_put (n0 : Nat) (v_r0 : Nat → Int32) (x1 : Int32) (x2 : Int32) : Option (Nat → Int32) :=
  if x1 < 0 then (some v_r0) else (if nI n0 ≤ x1 then (some v_r0) else (if jin x1 n0 = true then (some (upd v_r0 x1.toNatClampNeg x2)) else none))
abbrev jr_Bi_put : Room := { frames := 0, cells := 0, slots := 0, locals := 0 }
set_option maxRecDepth 100000 in
set_option maxHeartbeats 4000000 in
theorem jc_Bi_put (l : Launch) (g : jG) (a_r0 : Nat) (n0 : Nat) (h_n0 : n0 < 2147483648) (v_r0 : Nat → Int32) (x1 : Int32) (x2 : Int32) (R : (Nat → Int32)) (hR : jf_Bi_put n0 v_r0 x1 x2 = some R) (sz : Nat) : Met l yX6_put wsX6_put jr_Bi_put (jPw g [.ref a_r0, .int x1, .int x2] (jw_arI g a_r0 n0 v_r0) sz) (jQv g (jw_arI g a_r0 n0 R) (va_A (jw_arI g a_r0 n0 v_r0) sz)) 0 0 (va_A (jw_arI g a_r0 n0 v_r0) sz) := by
  refine jm_wv (cc := cX6_put) (maxL := 3) (by decide +kernel) rfl (Nat.le_of_ble_eq_true rfl) ?_
  intro p e s m below meth c A Q hx hb hml hown hts hK hP hD hA hS fin ls hl
  have hl : lv_has ls 3 [(0, .ref a_r0), (1, .int x1), (2, .int x2)] := hl
  have hown : s.vm.findClass RX6 = some m.cls := hown
  rw [jf_Bi_put] at hR
  refine lv_iload_n hx hb dX6_put_0 rfl (lv_at hl 1 rfl) ?_
  refine lv_if_lt (tgt := 14) hx hb dX6_put_1 (by decide) (fun c_1 => ?_) (fun c_1 => ?_)
  · replace hR := Eq.trans (Eq.symm (if_pos c_1)) hR
    obtain rfl := (Option.some.inj hR)
    exact fin _ _ _ _ hP hS dX6_put_14
  · replace hR := Eq.trans (Eq.symm (if_neg c_1)) hR
    refine lv_iload_n hx hb dX6_put_4 rfl (lv_at hl 1 rfl) ?_
    refine lv_aload_n hx hb dX6_put_5 rfl (lv_at hl 0 rfl) ?_
    refine va_alen (v := nI n0) hx hb hK.1 hP 0 0 rfl rfl rfl dX6_put_6 ?_
    refine lv_icmp_ge (tgt := 14) hx hb dX6_put_7 (by decide) (fun c_2 => ?_) (fun c_2 => ?_)
    · replace hR := Eq.trans (Eq.symm (if_pos c_2)) hR
      obtain rfl := (Option.some.inj hR)
      exact fin _ _ _ _ hP hS dX6_put_14
    · replace hR := Eq.trans (Eq.symm (if_neg c_2)) hR
      refine lv_aload_n hx hb dX6_put_10 rfl (lv_at hl 0 rfl) ?_
      refine lv_iload_n hx hb dX6_put_11 rfl (lv_at hl 1 rfl) ?_
      refine lv_iload_n hx hb dX6_put_12 rfl (lv_at hl 2 rfl) ?_
      by_cases c_3 : jin x1 n0 = true
      case neg => replace hR := Eq.trans (Eq.symm (if_neg c_3)) hR; cases hR
      replace hR := Eq.trans (Eq.symm (if_pos c_3)) hR
      refine va_iast hx hb hK.1 hP (jD_to hD rfl) hS 0 0 rfl rfl (jin_in c_3) dX6_put_13 (fun H locs hP _ hS => ?_)
      have hP : va_P g.1 vwCl (jw_arI g a_r0 n0 (upd v_r0 x1.toNatClampNeg x2)) H := hP
      obtain rfl := (Option.some.inj hR)
      exact fin _ _ _ _ hP hS dX6_put_14
/-! arrays read and written where the index is looked at first: plain functions -/
theorem jin_of {i : Int32} {n : Nat} (h0 : ¬ i < 0) (h : ¬ nI n ≤ i) (hn : n < 2147483648) : jin i n = true := by
  obtain ⟨j, hj, rfl⟩ := nI_of h0
  have h2 : j < n := by
    rcases Nat.lt_or_ge j n with q | q
    · exact q
    · exact absurd ((nI_leI hn hj).mpr q) h
  exact decide_eq_true (nI_in h2 hn)
def jat (n : Nat) (f : Nat → Int32) (i : Int32) : Int32 := if i < 0 then 0 else if nI n ≤ i then 0 else f i.toNatClampNeg
def jput (n : Nat) (f : Nat → Int32) (i x : Int32) : Nat → Int32 := if i < 0 then f else if nI n ≤ i then f else upd f i.toNatClampNeg x
theorem jf_Bi_at_eq {n : Nat} (hn : n < 2147483648) (f : Nat → Int32) (i : Int32) : jf_Bi_at n f i = some (jat n f i) := by
  unfold jf_Bi_at jat
  by_cases h0 : i < 0
  · simp only [if_pos h0]
  · by_cases h1 : nI n ≤ i
    · simp only [if_neg h0, if_pos h1]
    · simp only [if_neg h0, if_neg h1, if_pos (jin_of h0 h1 hn)]
theorem jf_Bi_put_eq {n : Nat} (hn : n < 2147483648) (f : Nat → Int32) (i x : Int32) : jf_Bi_put n f i x = some (jput n f i x) := by
  unfold jf_Bi_put jput
  by_cases h0 : i < 0
  · simp only [if_pos h0]
  · by_cases h1 : nI n ≤ i
    · simp only [if_neg h0, if_pos h1]
    · simp only [if_neg h0, if_neg h1, if_pos (jin_of h0 h1 hn)]
theorem jc_Bi_at_t (l : Launch) (g : jG) (a_r0 : Nat) (n0 : Nat) (h_n0 : n0 < 2147483648) (v_r0 : Nat → Int32) (x1 : Int32) (R : Int32) (hR : jat n0 v_r0 x1 = R) : Met l yX6_at wsX6_at jr_Bi_at (jPr g [.ref a_r0, .int x1] (jw_arI g a_r0 n0 v_r0)) (vp_Si (fun r => r = R)) 0 0 (fun _ => False) := jc_Bi_at l g a_r0 n0 h_n0 v_r0 x1 R (by rw [jf_Bi_at_eq h_n0, hR])
theorem jc_Bi_put_t (l : Launch) (g : jG) (a_r0 : Nat) (n0 : Nat) (h_n0 : n0 < 2147483648) (v_r0 : Nat → Int32) (x1 : Int32) (x2 : Int32) (R : (Nat → Int32)) (hR : jput n0 v_r0 x1 x2 = R) (sz : Nat) : Met l yX6_put wsX6_put jr_Bi_put (jPw g [.ref a_r0, .int x1, .int x2] (jw_arI g a_r0 n0 v_r0) sz) (jQv g (jw_arI g a_r0 n0 R) (va_A (jw_arI g a_r0 n0 v_r0) sz)) 0 0 (va_A (jw_arI g a_r0 n0 v_r0) sz) := jc_Bi_put l g a_r0 n0 h_n0 v_r0 x1 x2 R (by rw [jf_Bi_put_eq h_n0, hR]) sz
