/-! walks laid by wip/gen/gen.py: jf_.. what a method answers, jc_.. its contract -/
abbrev jw_La (g : jG) (a_this a_this_cellOf : Nat) (v_lamps : Int32) (v_cellOf : Nat → Int32) : va_W := [(a_this, .inr (2, [.ref a_this_cellOf, .int v_lamps])), (a_this_cellOf, .inl (g.2.1, 6, .inl v_cellOf))]
def jf_La_areFull (v_lamps : Int32) : Int32 :=
  if v_lamps < 6 then 0 else 1
abbrev jr_La_areFull : Room := { frames := 0, cells := 0, slots := 0, locals := 0 }
set_option maxRecDepth 100000 in
set_option maxHeartbeats 4000000 in
theorem jc_La_areFull (l : Launch) (g : jG) (a_this a_this_cellOf : Nat) (v_lamps : Int32) (v_cellOf : Nat → Int32) (R : Int32) (hR : jf_La_areFull v_lamps = R) : Met l yX2_areFull wsX2_areFull jr_La_areFull (jPr g [.ref a_this] (jw_La g a_this a_this_cellOf v_lamps v_cellOf)) (vp_Si (fun r => r = R)) 0 0 (fun _ => False) := by
  refine jm_rz (cc := cX2_areFull) (maxL := 1) (by decide +kernel) rfl (Nat.le_of_ble_eq_true rfl) ?_
  intro p e s m below meth c Q hx hb hml hown hts hK hP fin ls hl
  have hl : lv_has ls 1 [(0, .ref a_this)] := hl
  have hown : s.vm.findClass RX2 = some m.cls := hown
  have w_X2 : ∀ w ∈ u_ws RX2 TX2 2, w ∈ wsX2_areFull := by decide +kernel
  have w_f15 := hts (.fieldLink RX2 15 "Billiardry$Lamps" "lamps" "I") (by decide +kernel)
  rw [jf_La_areFull] at hR
  refine lv_aload_n hx hb dX2_areFull_0 rfl (lv_at hl 0 rfl) ?_
  refine va_get (D := g.1) (ci := 2) (v := .int v_lamps) (C := RX2) (T := TX2) (N := 2) hx hb hts w_X2 hown hK.1 hP 0 rfl rfl 1 (by decide) w_f15 (fun _ h9 => h9) rfl dX2_areFull_1 ?_
  refine lv_bipush (v := 6) hx hb dX2_areFull_4 (by decide) ?_
  refine lv_icmp_lt (tgt := 13) hx hb dX2_areFull_6 (by decide) (fun c_1 => ?_) (fun c_1 => ?_)
  · replace hR := Eq.trans (Eq.symm (if_pos c_1)) hR
    refine lv_iconst (v := 0) hx hb dX2_areFull_13 (by decide) ?_
    exact fin _ _ _ (Eq.trans (by decide) hR) dX2_areFull_14
  · replace hR := Eq.trans (Eq.symm (if_neg c_1)) hR
    refine lv_iconst (v := 1) hx hb dX2_areFull_9 (by decide) ?_
    refine lv_goto (tgt := 14) hx hb dX2_areFull_10 (by decide) ?_
    exact fin _ _ _ (Eq.trans (by decide) hR) dX2_areFull_14
def jf_La_add (v_lamps : Int32) (v_cellOf : Nat → Int32) (x1 : Int32) (x2 : Int32) : Int32 × Int32 × (Nat → Int32) :=
  jlet (jput 6 v_cellOf v_lamps (x1 + (8 * x2))) (fun q_1 => (v_lamps, v_lamps + 1, q_1))
abbrev jr_La_add : Room := { frames := 1, cells := 0, slots := 0, locals := 22 }
set_option maxRecDepth 100000 in
set_option maxHeartbeats 4000000 in
theorem jc_La_add (l : Launch) (g : jG) (a_this a_this_cellOf : Nat) (v_lamps : Int32) (v_cellOf : Nat → Int32) (x1 : Int32) (x2 : Int32) (R : Int32 × Int32 × (Nat → Int32)) (hR : jf_La_add v_lamps v_cellOf x1 x2 = R) (sz : Nat) : Met l yX2_add wsX2_add jr_La_add (jPw g [.ref a_this, .int x1, .int x2] (jw_La g a_this a_this_cellOf v_lamps v_cellOf) sz) (jQi g R.1 (jw_La g a_this a_this_cellOf R.2.1 R.2.2) (va_A (jw_La g a_this a_this_cellOf v_lamps v_cellOf) sz)) 0 0 (va_A (jw_La g a_this a_this_cellOf v_lamps v_cellOf) sz) := by
  refine jm_wi (cc := cX2_add) (maxL := 4) (by decide +kernel) rfl (Nat.le_of_ble_eq_true rfl) ?_
  intro p e s m below meth c A Q hx hb hml hown hts hK hP hD hA hS fin ls hl
  have hl : lv_has ls 4 [(0, .ref a_this), (1, .int x1), (2, .int x2)] := hl
  have hown : s.vm.findClass RX2 = some m.cls := hown
  have w_X2 : ∀ w ∈ u_ws RX2 TX2 2, w ∈ wsX2_add := by decide +kernel
  have w_f15 := hts (.fieldLink RX2 15 "Billiardry$Lamps" "lamps" "I") (by decide +kernel)
  have w_f9 := hts (.fieldLink RX2 9 "Billiardry$Lamps" "cellOf" "[I") (by decide +kernel)
  rw [jf_La_add] at hR
  refine lv_aload_n hx hb dX2_add_0 rfl (lv_at hl 0 rfl) ?_
  refine va_get (D := g.1) (ci := 2) (v := .int v_lamps) (C := RX2) (T := TX2) (N := 2) hx hb hts w_X2 hown hK.1 hP 0 rfl rfl 1 (by decide) w_f15 (fun _ h9 => h9) rfl dX2_add_1 ?_
  refine lv_istore_n (lv' := [(3, .int v_lamps), (0, .ref a_this), (1, .int x1), (2, .int x2)]) hx hb dX2_add_4 rfl hl (by decide) rfl (fun ls hl => ?_)
  refine lv_aload_n hx hb dX2_add_5 rfl (lv_at hl 1 rfl) ?_
  refine va_get (D := g.1) (ci := 2) (v := .ref a_this_cellOf) (C := RX2) (T := TX2) (N := 2) hx hb hts w_X2 hown hK.1 hP 0 rfl rfl 0 (by decide) w_f9 (fun _ h9 => h9) rfl dX2_add_6 ?_
  refine lv_iload_n hx hb dX2_add_9 rfl (lv_at hl 0 rfl) ?_
  refine lv_iload_n hx hb dX2_add_10 rfl (lv_at hl 2 rfl) ?_
  refine lv_bipush (v := 8) hx hb dX2_add_11 (by decide) ?_
  refine lv_iload_n hx hb dX2_add_13 rfl (lv_at hl 3 rfl) ?_
  refine lv_imul hx hb dX2_add_14 ?_
  refine lv_iadd hx hb dX2_add_15 ?_
  obtain ⟨q_1, hq_1, hR⟩ := jlet_b hR
  try dsimp only at hR
  refine jcall_wv (ws' := jw_La g a_this a_this_cellOf v_lamps q_1) (va_runSN (As := [.ref a_this_cellOf, .int v_lamps, .int (x1 + (8 * x2))]) (rest := []) ⟨hx, hb, hml, hown, hts⟩ (jc_Bi_put_t l g a_this_cellOf 6 (Nat.le_of_ble_eq_true rfl) v_cellOf v_lamps (x1 + (8 * x2)) _ hq_1 _) ⟨va_cnB 3 hts gX2_add_X6_put_n19 rfl rfl rfl (jN_at (q := (RX2, 19, yX6_put)) hK.2 13 rfl) (hts (.initialized RX6) (by decide +kernel)) (by decide +kernel) ⟨Nat.le_of_ble_eq_true rfl, Nat.le_of_ble_eq_true rfl⟩, hts (.static yX6_put) (by decide +kernel), trivial⟩ (jpw_s hK (hP.sub (ws' := jw_arI g a_this_cellOf 6 v_cellOf) [1] rfl) ((jD_to (ws' := jw_La g a_this a_this_cellOf v_lamps v_cellOf) hD rfl).sub [1] (by decide) rfl)) rfl rfl hl.1 rfl (lv_room (Nat.le_of_ble_eq_true rfl)) dX2_add_16 ⟨Nat.zero_le _, Nat.zero_le _⟩) hP (jD_to hD rfl) hS hA [1] [0] [0, 1] rfl (by decide) rfl (fun H locs hP hS => ?_)
  refine lv_aload_n hx hb dX2_add_19 rfl (lv_at hl 1 rfl) ?_
  refine lv_dup hx hb dX2_add_20 rfl ?_
  refine va_get (D := g.1) (ci := 2) (v := .int v_lamps) (C := RX2) (T := TX2) (N := 2) hx hb hts w_X2 hown hK.1 hP 0 rfl rfl 1 (by decide) w_f15 (fun _ h9 => h9) rfl dX2_add_21 ?_
  refine lv_iconst (v := 1) hx hb dX2_add_24 (by decide) ?_
  refine lv_iadd hx hb dX2_add_25 ?_
  refine va_put (D := g.1) (ci := 2) (v := .int (v_lamps + 1)) (ty := .int) (C := RX2) (T := TX2) (N := 2) hx hb hts w_X2 tyX2 tyX2_ok nmX2 hown hK.1 hP (jD_to hD rfl) hS 0 rfl rfl 1 (by decide) w_f15 (fun _ h9 => h9) rfl (by decide +kernel) rfl rfl (Nat.le_of_ble_eq_true rfl) dX2_add_26 (fun H locs hP _ hS => ?_)
  have hP : va_P g.1 vwCl (jw_La g a_this a_this_cellOf (v_lamps + 1) q_1) H := hP
  refine lv_iload_n hx hb dX2_add_29 rfl (lv_at hl 0 rfl) ?_
  subst hR
  exact fin _ _ _ _ _ rfl hP hS dX2_add_30
def jf_La_isMet (x0 : Int32) (x1 : Int32) (x2 : Int32) (x3 : Int32) : Int32 :=
  jlet (2 * (jabs ((x0 * x3) - (x1 * x2)))) (fun y4_1 => if (jabs x0) + (jabs x1) < y4_1 then 0 else 1)
abbrev jr_La_isMet : Room := { frames := 1, cells := 0, slots := 0, locals := 21 }
set_option maxRecDepth 100000 in
set_option maxHeartbeats 4000000 in
theorem jc_La_isMet (l : Launch) (g : jG) (x0 : Int32) (x1 : Int32) (x2 : Int32) (x3 : Int32) (R : Int32) (hR : jf_La_isMet x0 x1 x2 x3 = R) : Met l yX2_isMet wsX2_isMet jr_La_isMet (jPr g [.int x0, .int x1, .int x2, .int x3] ([])) (vp_Si (fun r => r = R)) 0 0 (fun _ => False) := by
  refine jm_rz (cc := cX2_isMet) (maxL := 5) (by decide +kernel) rfl (Nat.le_of_ble_eq_true rfl) ?_
  intro p e s m below meth c Q hx hb hml hown hts hK hP fin ls hl
  have hl : lv_has ls 5 [(0, .int x0), (1, .int x1), (2, .int x2), (3, .int x3)] := hl
  have hown : s.vm.findClass RX2 = some m.cls := hown
  rw [jf_La_isMet] at hR
  refine lv_iconst (v := 2) hx hb dX2_isMet_0 (by decide) ?_
  refine lv_iload_n hx hb dX2_isMet_1 rfl (lv_at hl 0 rfl) ?_
  refine lv_iload_n hx hb dX2_isMet_2 rfl (lv_at hl 3 rfl) ?_
  refine lv_imul hx hb dX2_isMet_3 ?_
  refine lv_iload_n hx hb dX2_isMet_4 rfl (lv_at hl 1 rfl) ?_
  refine lv_iload_n hx hb dX2_isMet_5 rfl (lv_at hl 2 rfl) ?_
  refine lv_imul hx hb dX2_isMet_6 ?_
  refine lv_isub hx hb dX2_isMet_7 ?_
  refine va_mabs hx hb (hml.trans hl.1.symm) hown (hts (.methodLink RX2 54 Lib.Math.abs.name) (by decide +kernel)) (hts (.static Lib.Math.abs.name) (by decide +kernel)) (hts (.initialized "java/lang/Math") (by decide +kernel)) (hts (.code Lib.Math.abs.name Lib.Math.abs.code 1 (some .int)) (by decide +kernel)) (Nat.le_of_ble_eq_true rfl) (Nat.le_of_ble_eq_true rfl) (Nat.le_refl _) (Nat.le_refl _) dX2_isMet_8 ?_
  refine W.eq (g2 := F0 m 11 ls [.int (jabs ((x0 * x3) - (x1 * x2))), .int 2]) rfl ?_
  refine lv_imul hx hb dX2_isMet_11 ?_
  refine jlet_i hR (fun y4_1 hR => ?_)
  try dsimp only at hR
  refine lv_istore (lv' := [(4, .int y4_1), (0, .int x0), (1, .int x1), (2, .int x2), (3, .int x3)]) hx hb dX2_isMet_12 hl (by decide) rfl (fun ls hl => ?_)
  refine lv_iload hx hb dX2_isMet_14 (lv_at hl 0 rfl) ?_
  refine lv_iload_n hx hb dX2_isMet_16 rfl (lv_at hl 1 rfl) ?_
  refine va_mabs hx hb (hml.trans hl.1.symm) hown (hts (.methodLink RX2 54 Lib.Math.abs.name) (by decide +kernel)) (hts (.static Lib.Math.abs.name) (by decide +kernel)) (hts (.initialized "java/lang/Math") (by decide +kernel)) (hts (.code Lib.Math.abs.name Lib.Math.abs.code 1 (some .int)) (by decide +kernel)) (Nat.le_of_ble_eq_true rfl) (Nat.le_of_ble_eq_true rfl) (Nat.le_refl _) (Nat.le_refl _) dX2_isMet_17 ?_
  refine W.eq (g2 := F0 m 20 ls [.int (jabs x0), .int y4_1]) rfl ?_
  refine lv_iload_n hx hb dX2_isMet_20 rfl (lv_at hl 2 rfl) ?_
  refine va_mabs hx hb (hml.trans hl.1.symm) hown (hts (.methodLink RX2 54 Lib.Math.abs.name) (by decide +kernel)) (hts (.static Lib.Math.abs.name) (by decide +kernel)) (hts (.initialized "java/lang/Math") (by decide +kernel)) (hts (.code Lib.Math.abs.name Lib.Math.abs.code 1 (some .int)) (by decide +kernel)) (Nat.le_of_ble_eq_true rfl) (Nat.le_of_ble_eq_true rfl) (Nat.le_refl _) (Nat.le_refl _) dX2_isMet_21 ?_
  refine W.eq (g2 := F0 m 24 ls [.int (jabs x1), .int (jabs x0), .int y4_1]) rfl ?_
  refine lv_iadd hx hb dX2_isMet_24 ?_
  refine lv_icmp_gt (tgt := 32) hx hb dX2_isMet_25 (by decide) (fun c_1 => ?_) (fun c_1 => ?_)
  · replace hR := Eq.trans (Eq.symm (if_pos c_1)) hR
    refine lv_iconst (v := 0) hx hb dX2_isMet_32 (by decide) ?_
    exact fin _ _ _ (Eq.trans (by decide) hR) dX2_isMet_33
  · replace hR := Eq.trans (Eq.symm (if_neg c_1)) hR
    refine lv_iconst (v := 1) hx hb dX2_isMet_28 (by decide) ?_
    refine lv_goto (tgt := 33) hx hb dX2_isMet_29 (by decide) ?_
    exact fin _ _ _ (Eq.trans (by decide) hR) dX2_isMet_33
def jf_La_isFreeBetween_b70 (self : Int32 → Option (Unit ⊕ Unit)) (v_r0_blocks : Int64) (z1 : Int32) (z2 : Int32) (z3 : Int32) (z4 : Int32) (z5 : Int32) (z6 : Int32) : Option (Unit ⊕ Unit) :=
  self (z6 + 1)
def jf_La_isFreeBetween_L25 (v_r0_blocks : Int64) (z1 : Int32) (z2 : Int32) (z3 : Int32) (z4 : Int32) (z5 : Int32) : Nat → Int32 → Option (Unit ⊕ Unit)
  | 0, _ => none
  | n + 1, z6 =>
    if jmax z2 z4 < z6 then (some (.inr ())) else (if (jf_Ro_isBlock v_r0_blocks z5 z6) = 0 then (jf_La_isFreeBetween_b70 (jf_La_isFreeBetween_L25 v_r0_blocks z1 z2 z3 z4 z5 n) v_r0_blocks z1 z2 z3 z4 z5 z6) else (if (jf_La_isMet (z3 - z1) (z4 - z2) (z5 - z1) (z6 - z2)) = 0 then (jf_La_isFreeBetween_b70 (jf_La_isFreeBetween_L25 v_r0_blocks z1 z2 z3 z4 z5 n) v_r0_blocks z1 z2 z3 z4 z5 z6) else (some (.inl ()))))
def jf_La_isFreeBetween_L7 (v_r0_blocks : Int64) (z1 : Int32) (z2 : Int32) (z3 : Int32) (z4 : Int32) : Nat → Int32 → Option (Unit ⊕ Unit)
  | 0, _ => none
  | n + 1, z5 =>
    if jmax z1 z3 < z5 then (some (.inr ())) else (jlet (jmin z2 z4) (fun y6_1 => Option.bind (jf_La_isFreeBetween_L25 v_r0_blocks z1 z2 z3 z4 z5 jF y6_1) (fun q_1 => jsum (fun o_1 => some (.inl ())) (fun o_2 => (jf_La_isFreeBetween_L7 v_r0_blocks z1 z2 z3 z4 n) (z5 + 1)) q_1)))
def jf_La_isFreeBetween (v_r0_blocks : Int64) (x1 : Int32) (x2 : Int32) (x3 : Int32) (x4 : Int32) : Option Int32 :=
  jlet (jmin x1 x3) (fun y5_1 => Option.bind (jf_La_isFreeBetween_L7 v_r0_blocks x1 x2 x3 x4 jF y5_1) (fun q_2 => jsum (fun o_3 => some 0) (fun o_4 => some 1) q_2))
abbrev jr_La_isFreeBetween : Room := { frames := 2, cells := 0, slots := 0, locals := 45 }
set_option maxRecDepth 100000 in
set_option maxHeartbeats 4000000 in
theorem jc_La_isFreeBetween (l : Launch) (g : jG) (a_r0 a_r0_met a_r0_met_bits : Nat) (v_r0_blocks : Int64) (v_r0_met_bits : Nat → Int64) (x1 : Int32) (x2 : Int32) (x3 : Int32) (x4 : Int32) (R : Int32) (hR : jf_La_isFreeBetween v_r0_blocks x1 x2 x3 x4 = some R) : Met l yX2_isFreeBetween wsX2_isFreeBetween jr_La_isFreeBetween (jPr g [.ref a_r0, .int x1, .int x2, .int x3, .int x4] (jw_Ro g a_r0 a_r0_met a_r0_met_bits v_r0_blocks v_r0_met_bits)) (vp_Si (fun r => r = R)) 0 0 (fun _ => False) := by
  refine jm_rz (cc := cX2_isFreeBetween) (maxL := 7) (by decide +kernel) rfl (Nat.le_of_ble_eq_true rfl) ?_
  intro p e s m below meth c Q hx hb hml hown hts hK hP fin ls hl
  have hl : lv_has ls 7 [(0, .ref a_r0), (1, .int x1), (2, .int x2), (3, .int x3), (4, .int x4)] := hl
  have hown : s.vm.findClass RX2 = some m.cls := hown
  have L7 : ∀ (n : Nat) (z1 : Int32) (z2 : Int32) (z3 : Int32) (z4 : Int32) (z5 : Int32) (ls : Array Slot), lv_has ls 7 [(0, .ref a_r0), (1, .int z1), (2, .int z2), (3, .int z3), (4, .int z4), (5, .int z5)] → ∀ q, jf_La_isFreeBetween_L7 v_r0_blocks z1 z2 z3 z4 n z5 = some q → ((∀ o, q = .inl o → ∀ ls : Array Slot, lv_has ls 7 [] → W p l e jr_La_isFreeBetween s m ([.ref a_r0, .int x1, .int x2, .int x3, .int x4] : List Value).toArray below meth c s.heap [] 0 0 Q (F0 m 68 ls [])) ∧ (∀ o, q = .inr o → ∀ ls : Array Slot, lv_has ls 7 [] → W p l e jr_La_isFreeBetween s m ([.ref a_r0, .int x1, .int x2, .int x3, .int x4] : List Value).toArray below meth c s.heap [] 0 0 Q (F0 m 82 ls []))) → W p l e jr_La_isFreeBetween s m ([.ref a_r0, .int x1, .int x2, .int x3, .int x4] : List Value).toArray below meth c s.heap [] 0 0 Q (F0 m 7 ls []) := by
    intro n z1 z2 z3 z4
    induction n with
    | zero =>
      intro z5 ls hl q hR k
      cases hR
    | succ n ih =>
      have L25 : ∀ (n : Nat) (z1 : Int32) (z2 : Int32) (z3 : Int32) (z4 : Int32) (z5 : Int32) (z6 : Int32) (ls : Array Slot), lv_has ls 7 [(0, .ref a_r0), (1, .int z1), (2, .int z2), (3, .int z3), (4, .int z4), (5, .int z5), (6, .int z6)] → ∀ q, jf_La_isFreeBetween_L25 v_r0_blocks z1 z2 z3 z4 z5 n z6 = some q → ((∀ o, q = .inl o → ∀ ls : Array Slot, lv_has ls 7 [] → W p l e jr_La_isFreeBetween s m ([.ref a_r0, .int x1, .int x2, .int x3, .int x4] : List Value).toArray below meth c s.heap [] 0 0 Q (F0 m 68 ls [])) ∧ (∀ o, q = .inr o → ∀ ls : Array Slot, lv_has ls 7 [(0, .ref a_r0), (1, .int z1), (2, .int z2), (3, .int z3), (4, .int z4), (5, .int z5)] → W p l e jr_La_isFreeBetween s m ([.ref a_r0, .int x1, .int x2, .int x3, .int x4] : List Value).toArray below meth c s.heap [] 0 0 Q (F0 m 76 ls []))) → W p l e jr_La_isFreeBetween s m ([.ref a_r0, .int x1, .int x2, .int x3, .int x4] : List Value).toArray below meth c s.heap [] 0 0 Q (F0 m 25 ls []) := by
        intro n z1 z2 z3 z4 z5
        induction n with
        | zero =>
          intro z6 ls hl q hR k
          cases hR
        | succ n ih =>
          have J70 : ∀ (z6 : Int32) (ls : Array Slot), lv_has ls 7 [(0, .ref a_r0), (1, .int z1), (2, .int z2), (3, .int z3), (4, .int z4), (5, .int z5), (6, .int z6)] → ∀ q, jf_La_isFreeBetween_b70 (jf_La_isFreeBetween_L25 v_r0_blocks z1 z2 z3 z4 z5 n) v_r0_blocks z1 z2 z3 z4 z5 z6 = some q → ((∀ o, q = .inl o → ∀ ls : Array Slot, lv_has ls 7 [] → W p l e jr_La_isFreeBetween s m ([.ref a_r0, .int x1, .int x2, .int x3, .int x4] : List Value).toArray below meth c s.heap [] 0 0 Q (F0 m 68 ls [])) ∧ (∀ o, q = .inr o → ∀ ls : Array Slot, lv_has ls 7 [(0, .ref a_r0), (1, .int z1), (2, .int z2), (3, .int z3), (4, .int z4), (5, .int z5)] → W p l e jr_La_isFreeBetween s m ([.ref a_r0, .int x1, .int x2, .int x3, .int x4] : List Value).toArray below meth c s.heap [] 0 0 Q (F0 m 76 ls []))) → W p l e jr_La_isFreeBetween s m ([.ref a_r0, .int x1, .int x2, .int x3, .int x4] : List Value).toArray below meth c s.heap [] 0 0 Q (F0 m 70 ls []) := by
            intro z6 ls hl q hR k
            rw [jf_La_isFreeBetween_b70] at hR
            refine lv_iinc (v := z6 + 1) (lv' := [(6, .int (z6 + 1)), (0, .ref a_r0), (1, .int z1), (2, .int z2), (3, .int z3), (4, .int z4), (5, .int z5)]) hx hb dX2_isFreeBetween_70 hl (k := 6) rfl (by first | rfl | decide) (by decide) rfl (fun ls hl => ?_)
            refine lv_goto (tgt := 25) hx hb dX2_isFreeBetween_73 (by decide) ?_
            exact ih (z6 + 1) _ (lv_sub hl [1, 2, 3, 4, 5, 6, 0] rfl) _ hR k
          intro z6 ls hl q hR k
          rw [jf_La_isFreeBetween_L25] at hR
          refine lv_iload hx hb dX2_isFreeBetween_25 (lv_at hl 6 rfl) ?_
          refine lv_iload_n hx hb dX2_isFreeBetween_27 rfl (lv_at hl 2 rfl) ?_
          refine lv_iload hx hb dX2_isFreeBetween_28 (lv_at hl 4 rfl) ?_
          refine va_mmax hx hb (hml.trans hl.1.symm) hown (hts (.methodLink RX2 41 Lib.Math.max.name) (by decide +kernel)) (hts (.static Lib.Math.max.name) (by decide +kernel)) (hts (.initialized "java/lang/Math") (by decide +kernel)) (hts (.code Lib.Math.max.name Lib.Math.max.code 2 (some .int)) (by decide +kernel)) (Nat.le_of_ble_eq_true rfl) (Nat.le_of_ble_eq_true rfl) (Nat.le_refl _) (Nat.le_refl _) dX2_isFreeBetween_30 ?_
          refine W.eq (g2 := F0 m 33 ls [.int (jmax z2 z4), .int z6]) rfl ?_
          refine lv_icmp_gt (tgt := 76) hx hb dX2_isFreeBetween_33 (by decide) (fun c_2 => ?_) (fun c_2 => ?_)
          · replace hR := Eq.trans (Eq.symm (if_pos c_2)) hR
            cases hR
            exact k.2 _ rfl _ (lv_sub hl [0, 1, 2, 3, 4, 5] rfl)
          · replace hR := Eq.trans (Eq.symm (if_neg c_2)) hR
            refine lv_aload_n hx hb dX2_isFreeBetween_36 rfl (lv_at hl 0 rfl) ?_
            refine lv_iload hx hb dX2_isFreeBetween_37 (lv_at hl 5 rfl) ?_
            refine lv_iload hx hb dX2_isFreeBetween_39 (lv_at hl 6 rfl) ?_
            refine jcall_ri (va_runV (As := [.int z5, .int z6]) (rest := []) ⟨hx, hb, hml, hown, hts⟩ (jc_Ro_isBlock l g a_r0 a_r0_met a_r0_met_bits v_r0_blocks v_r0_met_bits z5 z6 _ rfl) (cwV 2 hts gX2_isFreeBetween_X4_isBlock rfl rfl rfl (by decide +kernel) ⟨Nat.le_of_ble_eq_true rfl, Nat.le_of_ble_eq_true rfl⟩) (jpr_v hK hP (ci := 4) (q0 := 0) rfl rfl) rfl rfl hl.1 rfl (lv_room (Nat.le_of_ble_eq_true rfl)) dX2_isFreeBetween_41 ⟨Nat.zero_le _, Nat.zero_le _⟩) ?_
            refine lv_if_eq (tgt := 70) hx hb dX2_isFreeBetween_44 (by decide) (fun c_3 => ?_) (fun c_3 => ?_)
            · replace hR := Eq.trans (Eq.symm (if_pos c_3)) hR
              exact J70 z6 _ (lv_sub hl [0, 1, 2, 3, 4, 5, 6] rfl) _ hR k
            · replace hR := Eq.trans (Eq.symm (if_neg c_3)) hR
              refine lv_iload_n hx hb dX2_isFreeBetween_47 rfl (lv_at hl 3 rfl) ?_
              refine lv_iload_n hx hb dX2_isFreeBetween_48 rfl (lv_at hl 1 rfl) ?_
              refine lv_isub hx hb dX2_isFreeBetween_49 ?_
              refine lv_iload hx hb dX2_isFreeBetween_50 (lv_at hl 4 rfl) ?_
              refine lv_iload_n hx hb dX2_isFreeBetween_52 rfl (lv_at hl 2 rfl) ?_
              refine lv_isub hx hb dX2_isFreeBetween_53 ?_
              refine lv_iload hx hb dX2_isFreeBetween_54 (lv_at hl 5 rfl) ?_
              refine lv_iload_n hx hb dX2_isFreeBetween_56 rfl (lv_at hl 1 rfl) ?_
              refine lv_isub hx hb dX2_isFreeBetween_57 ?_
              refine lv_iload hx hb dX2_isFreeBetween_58 (lv_at hl 6 rfl) ?_
              refine lv_iload_n hx hb dX2_isFreeBetween_60 rfl (lv_at hl 2 rfl) ?_
              refine lv_isub hx hb dX2_isFreeBetween_61 ?_
              refine jcall_ri (va_runS (As := [.int (z3 - z1), .int (z4 - z2), .int (z5 - z1), .int (z6 - z2)]) (rest := []) ⟨hx, hb, hml, hown, hts⟩ (jc_La_isMet l g  (z3 - z1) (z4 - z2) (z5 - z1) (z6 - z2) _ rfl) (va_cwS 4 hts gX2_isFreeBetween_X2_isMet rfl rfl rfl (by decide +kernel) ⟨Nat.le_of_ble_eq_true rfl, Nat.le_of_ble_eq_true rfl⟩) (jpr_s hK (hP.sub (ws' := []) [] rfl)) rfl rfl hl.1 rfl (lv_room (Nat.le_of_ble_eq_true rfl)) dX2_isFreeBetween_62 ⟨Nat.zero_le _, Nat.zero_le _⟩) ?_
              refine lv_if_eq (tgt := 70) hx hb dX2_isFreeBetween_65 (by decide) (fun c_4 => ?_) (fun c_4 => ?_)
              · replace hR := Eq.trans (Eq.symm (if_pos c_4)) hR
                exact J70 z6 _ (lv_sub hl [0, 1, 2, 3, 4, 5, 6] rfl) _ hR k
              · replace hR := Eq.trans (Eq.symm (if_neg c_4)) hR
                cases hR
                exact k.1 _ rfl _ (lv_sub hl [] rfl)
      intro z5 ls hl q hR k
      rw [jf_La_isFreeBetween_L7] at hR
      refine lv_iload hx hb dX2_isFreeBetween_7 (lv_at hl 5 rfl) ?_
      refine lv_iload_n hx hb dX2_isFreeBetween_9 rfl (lv_at hl 1 rfl) ?_
      refine lv_iload_n hx hb dX2_isFreeBetween_10 rfl (lv_at hl 3 rfl) ?_
      refine va_mmax hx hb (hml.trans hl.1.symm) hown (hts (.methodLink RX2 41 Lib.Math.max.name) (by decide +kernel)) (hts (.static Lib.Math.max.name) (by decide +kernel)) (hts (.initialized "java/lang/Math") (by decide +kernel)) (hts (.code Lib.Math.max.name Lib.Math.max.code 2 (some .int)) (by decide +kernel)) (Nat.le_of_ble_eq_true rfl) (Nat.le_of_ble_eq_true rfl) (Nat.le_refl _) (Nat.le_refl _) dX2_isFreeBetween_11 ?_
      refine W.eq (g2 := F0 m 14 ls [.int (jmax z1 z3), .int z5]) rfl ?_
      refine lv_icmp_gt (tgt := 82) hx hb dX2_isFreeBetween_14 (by decide) (fun c_1 => ?_) (fun c_1 => ?_)
      · replace hR := Eq.trans (Eq.symm (if_pos c_1)) hR
        cases hR
        exact k.2 _ rfl _ (lv_sub hl [] rfl)
      · replace hR := Eq.trans (Eq.symm (if_neg c_1)) hR
        refine lv_iload_n hx hb dX2_isFreeBetween_17 rfl (lv_at hl 2 rfl) ?_
        refine lv_iload hx hb dX2_isFreeBetween_18 (lv_at hl 4 rfl) ?_
        refine va_mmin hx hb (hml.trans hl.1.symm) hown (hts (.methodLink RX2 35 Lib.Math.min.name) (by decide +kernel)) (hts (.static Lib.Math.min.name) (by decide +kernel)) (hts (.initialized "java/lang/Math") (by decide +kernel)) (hts (.code Lib.Math.min.name Lib.Math.min.code 2 (some .int)) (by decide +kernel)) (Nat.le_of_ble_eq_true rfl) (Nat.le_of_ble_eq_true rfl) (Nat.le_refl _) (Nat.le_refl _) dX2_isFreeBetween_20 ?_
        refine W.eq (g2 := F0 m 23 ls [.int (jmin z2 z4)]) rfl ?_
        refine jlet_i hR (fun y6_1 hR => ?_)
        try dsimp only at hR
        refine lv_istore (lv' := [(6, .int y6_1), (0, .ref a_r0), (1, .int z1), (2, .int z2), (3, .int z3), (4, .int z4), (5, .int z5)]) hx hb dX2_isFreeBetween_23 hl (by decide) rfl (fun ls hl => ?_)
        obtain ⟨q_1, hq_1, hR⟩ := jbind hR
        refine L25 jF z1 z2 z3 z4 z5 y6_1 _ (lv_sub hl [1, 2, 3, 4, 5, 6, 0] rfl) _ hq_1 ⟨fun o_1 ho ls hl => ?_, fun o_2 ho ls hl => ?_⟩
        · rw [ho] at hR
          try dsimp only [jsum] at hR
          cases hR
          exact k.1 _ rfl _ (lv_sub hl [] rfl)
        · rw [ho] at hR
          try dsimp only [jsum] at hR
          refine lv_iinc (v := z5 + 1) (lv' := [(5, .int (z5 + 1)), (0, .ref a_r0), (1, .int z1), (2, .int z2), (3, .int z3), (4, .int z4)]) hx hb dX2_isFreeBetween_76 hl (k := 5) rfl (by first | rfl | decide) (by decide) rfl (fun ls hl => ?_)
          refine lv_goto (tgt := 7) hx hb dX2_isFreeBetween_79 (by decide) ?_
          exact ih (z5 + 1) _ (lv_sub hl [1, 2, 3, 4, 5, 0] rfl) _ hR k
  rw [jf_La_isFreeBetween] at hR
  refine lv_iload_n hx hb dX2_isFreeBetween_0 rfl (lv_at hl 1 rfl) ?_
  refine lv_iload_n hx hb dX2_isFreeBetween_1 rfl (lv_at hl 3 rfl) ?_
  refine va_mmin hx hb (hml.trans hl.1.symm) hown (hts (.methodLink RX2 35 Lib.Math.min.name) (by decide +kernel)) (hts (.static Lib.Math.min.name) (by decide +kernel)) (hts (.initialized "java/lang/Math") (by decide +kernel)) (hts (.code Lib.Math.min.name Lib.Math.min.code 2 (some .int)) (by decide +kernel)) (Nat.le_of_ble_eq_true rfl) (Nat.le_of_ble_eq_true rfl) (Nat.le_refl _) (Nat.le_refl _) dX2_isFreeBetween_2 ?_
  refine W.eq (g2 := F0 m 5 ls [.int (jmin x1 x3)]) rfl ?_
  refine jlet_i hR (fun y5_1 hR => ?_)
  try dsimp only at hR
  refine lv_istore (lv' := [(5, .int y5_1), (0, .ref a_r0), (1, .int x1), (2, .int x2), (3, .int x3), (4, .int x4)]) hx hb dX2_isFreeBetween_5 hl (by decide) rfl (fun ls hl => ?_)
  obtain ⟨q_2, hq_2, hR⟩ := jbind hR
  refine L7 jF x1 x2 x3 x4 y5_1 _ (lv_sub hl [1, 2, 3, 4, 5, 0] rfl) _ hq_2 ⟨fun o_3 ho ls hl => ?_, fun o_4 ho ls hl => ?_⟩
  · rw [ho] at hR
    try dsimp only [jsum] at hR
    refine lv_iconst (v := 0) hx hb dX2_isFreeBetween_68 (by decide) ?_
    exact fin _ _ _ (Eq.trans (by decide) (Option.some.inj hR)) dX2_isFreeBetween_69
  · rw [ho] at hR
    try dsimp only [jsum] at hR
    refine lv_iconst (v := 1) hx hb dX2_isFreeBetween_82 (by decide) ?_
    exact fin _ _ _ (Eq.trans (by decide) (Option.some.inj hR)) dX2_isFreeBetween_83
abbrev jw_LaRo (g : jG) (a_this a_this_cellOf a_r0 a_r0_met a_r0_met_bits : Nat) (v_lamps : Int32) (v_cellOf : Nat → Int32) (v_r0_blocks : Int64) (v_r0_met_bits : Nat → Int64) : va_W := [(a_this, .inr (2, [.ref a_this_cellOf, .int v_lamps])), (a_this_cellOf, .inl (g.2.1, 6, .inl v_cellOf)), (a_r0, .inr (4, [.ref a_r0_met, .long v_r0_blocks])), (a_r0_met, .inr (3, [.ref a_r0_met_bits])), (a_r0_met_bits, .inl (g.2.2.1, 8, .inr (.inl v_r0_met_bits)))]
def jf_La_isLit_L3 (v_lamps : Int32) (v_cellOf : Nat → Int32) (v_r0_blocks : Int64) (z2 : Int32) (z3 : Int32) : Nat → Int32 → Option (Unit ⊕ Unit)
  | 0, _ => none
  | n + 1, z4 =>
    if v_lamps ≤ z4 then (some (.inr ())) else (jlet (jat 6 v_cellOf z4) (fun y5_1 => Option.bind (jf_La_isFreeBetween v_r0_blocks z2 z3 (y5_1 - y5_1 / 8 * 8) (y5_1 / 8)) (fun q_1 => if q_1 = 0 then ((jf_La_isLit_L3 v_lamps v_cellOf v_r0_blocks z2 z3 n) (z4 + 1)) else (some (.inl ())))))
def jf_La_isLit (v_lamps : Int32) (v_cellOf : Nat → Int32) (v_r0_blocks : Int64) (x2 : Int32) (x3 : Int32) : Option Int32 :=
  Option.bind (jf_La_isLit_L3 v_lamps v_cellOf v_r0_blocks x2 x3 jF 0) (fun q_2 => jsum (fun o_1 => some 1) (fun o_2 => some 0) q_2)
abbrev jr_La_isLit : Room := { frames := 3, cells := 0, slots := 0, locals := 71 }
set_option maxRecDepth 100000 in
set_option maxHeartbeats 4000000 in
theorem jc_La_isLit (l : Launch) (g : jG) (a_this a_this_cellOf a_r0 a_r0_met a_r0_met_bits : Nat) (v_lamps : Int32) (v_cellOf : Nat → Int32) (v_r0_blocks : Int64) (v_r0_met_bits : Nat → Int64) (x2 : Int32) (x3 : Int32) (R : Int32) (hR : jf_La_isLit v_lamps v_cellOf v_r0_blocks x2 x3 = some R) : Met l yX2_isLit wsX2_isLit jr_La_isLit (jPr g [.ref a_this, .ref a_r0, .int x2, .int x3] (jw_LaRo g a_this a_this_cellOf a_r0 a_r0_met a_r0_met_bits v_lamps v_cellOf v_r0_blocks v_r0_met_bits)) (vp_Si (fun r => r = R)) 0 0 (fun _ => False) := by
  refine jm_rz (cc := cX2_isLit) (maxL := 6) (by decide +kernel) rfl (Nat.le_of_ble_eq_true rfl) ?_
  intro p e s m below meth c Q hx hb hml hown hts hK hP fin ls hl
  have hl : lv_has ls 6 [(0, .ref a_this), (1, .ref a_r0), (2, .int x2), (3, .int x3)] := hl
  have hown : s.vm.findClass RX2 = some m.cls := hown
  have w_X2 : ∀ w ∈ u_ws RX2 TX2 2, w ∈ wsX2_isLit := by decide +kernel
  have w_f15 := hts (.fieldLink RX2 15 "Billiardry$Lamps" "lamps" "I") (by decide +kernel)
  have w_f9 := hts (.fieldLink RX2 9 "Billiardry$Lamps" "cellOf" "[I") (by decide +kernel)
  have L3 : ∀ (n : Nat) (z2 : Int32) (z3 : Int32) (z4 : Int32) (ls : Array Slot), lv_has ls 6 [(0, .ref a_this), (1, .ref a_r0), (2, .int z2), (3, .int z3), (4, .int z4)] → ∀ q, jf_La_isLit_L3 v_lamps v_cellOf v_r0_blocks z2 z3 n z4 = some q → ((∀ o, q = .inl o → ∀ ls : Array Slot, lv_has ls 6 [] → W p l e jr_La_isLit s m ([.ref a_this, .ref a_r0, .int x2, .int x3] : List Value).toArray below meth c s.heap [] 0 0 Q (F0 m 42 ls [])) ∧ (∀ o, q = .inr o → ∀ ls : Array Slot, lv_has ls 6 [] → W p l e jr_La_isLit s m ([.ref a_this, .ref a_r0, .int x2, .int x3] : List Value).toArray below meth c s.heap [] 0 0 Q (F0 m 50 ls []))) → W p l e jr_La_isLit s m ([.ref a_this, .ref a_r0, .int x2, .int x3] : List Value).toArray below meth c s.heap [] 0 0 Q (F0 m 3 ls []) := by
    intro n z2 z3
    induction n with
    | zero =>
      intro z4 ls hl q hR k
      cases hR
    | succ n ih =>
      intro z4 ls hl q hR k
      rw [jf_La_isLit_L3] at hR
      refine lv_iload hx hb dX2_isLit_3 (lv_at hl 4 rfl) ?_
      refine lv_aload_n hx hb dX2_isLit_5 rfl (lv_at hl 0 rfl) ?_
      refine va_get (D := g.1) (ci := 2) (v := .int v_lamps) (C := RX2) (T := TX2) (N := 2) hx hb hts w_X2 hown hK.1 hP 0 rfl rfl 1 (by decide) w_f15 (fun _ h9 => h9) rfl dX2_isLit_6 ?_
      refine lv_icmp_ge (tgt := 50) hx hb dX2_isLit_9 (by decide) (fun c_1 => ?_) (fun c_1 => ?_)
      · replace hR := Eq.trans (Eq.symm (if_pos c_1)) hR
        cases hR
        exact k.2 _ rfl _ (lv_sub hl [] rfl)
      · replace hR := Eq.trans (Eq.symm (if_neg c_1)) hR
        refine lv_aload_n hx hb dX2_isLit_12 rfl (lv_at hl 0 rfl) ?_
        refine va_get (D := g.1) (ci := 2) (v := .ref a_this_cellOf) (C := RX2) (T := TX2) (N := 2) hx hb hts w_X2 hown hK.1 hP 0 rfl rfl 0 (by decide) w_f9 (fun _ h9 => h9) rfl dX2_isLit_13 ?_
        refine lv_iload hx hb dX2_isLit_16 (lv_at hl 4 rfl) ?_
        refine jcall_ri (va_runSN (As := [.ref a_this_cellOf, .int z4]) (rest := []) ⟨hx, hb, hml, hown, hts⟩ (jc_Bi_at_t l g a_this_cellOf 6 (Nat.le_of_ble_eq_true rfl) v_cellOf z4 _ rfl) ⟨va_cnB 2 hts gX2_isLit_X6_at_n27 rfl rfl rfl (jN_at (q := (RX2, 27, yX6_at)) hK.2 14 rfl) (hts (.initialized RX6) (by decide +kernel)) (by decide +kernel) ⟨Nat.le_of_ble_eq_true rfl, Nat.le_of_ble_eq_true rfl⟩, hts (.static yX6_at) (by decide +kernel), trivial⟩ (jpr_s hK (hP.sub (ws' := jw_arI g a_this_cellOf 6 v_cellOf) [1] rfl)) rfl rfl hl.1 rfl (lv_room (Nat.le_of_ble_eq_true rfl)) dX2_isLit_18 ⟨Nat.zero_le _, Nat.zero_le _⟩) ?_
        refine jlet_i hR (fun y5_1 hR => ?_)
        try dsimp only at hR
        refine lv_istore (lv' := [(5, .int y5_1), (0, .ref a_this), (1, .ref a_r0), (2, .int z2), (3, .int z3), (4, .int z4)]) hx hb dX2_isLit_21 hl (by decide) rfl (fun ls hl => ?_)
        refine lv_aload_n hx hb dX2_isLit_23 rfl (lv_at hl 2 rfl) ?_
        refine lv_iload_n hx hb dX2_isLit_24 rfl (lv_at hl 3 rfl) ?_
        refine lv_iload_n hx hb dX2_isLit_25 rfl (lv_at hl 4 rfl) ?_
        refine lv_iload hx hb dX2_isLit_26 (lv_at hl 0 rfl) ?_
        refine lv_bipush (v := 8) hx hb dX2_isLit_28 (by decide) ?_
        refine lv_irem hx hb dX2_isLit_30 (by decide) ?_
        refine lv_iload hx hb dX2_isLit_31 (lv_at hl 0 rfl) ?_
        refine lv_bipush (v := 8) hx hb dX2_isLit_33 (by decide) ?_
        refine lv_idiv hx hb dX2_isLit_35 (by decide) ?_
        obtain ⟨q_1, hq_1, hR⟩ := jbind hR
        try dsimp only at hR
        refine jcall_ri (va_runS (As := [.ref a_r0, .int z2, .int z3, .int (y5_1 - y5_1 / 8 * 8), .int (y5_1 / 8)]) (rest := []) ⟨hx, hb, hml, hown, hts⟩ (jc_La_isFreeBetween l g a_r0 a_r0_met a_r0_met_bits v_r0_blocks v_r0_met_bits z2 z3 (y5_1 - y5_1 / 8 * 8) (y5_1 / 8) _ hq_1) (va_cwS 5 hts gX2_isLit_X2_isFreeBetween rfl rfl rfl (by decide +kernel) ⟨Nat.le_of_ble_eq_true rfl, Nat.le_of_ble_eq_true rfl⟩) (jpr_s hK (hP.sub (ws' := jw_Ro g a_r0 a_r0_met a_r0_met_bits v_r0_blocks v_r0_met_bits) [2, 3, 4] rfl)) rfl rfl hl.1 rfl (lv_room (Nat.le_of_ble_eq_true rfl)) dX2_isLit_36 ⟨Nat.zero_le _, Nat.zero_le _⟩) ?_
        refine lv_if_eq (tgt := 44) hx hb dX2_isLit_39 (by decide) (fun c_2 => ?_) (fun c_2 => ?_)
        · replace hR := Eq.trans (Eq.symm (if_pos c_2)) hR
          refine lv_iinc (v := z4 + 1) (lv' := [(4, .int (z4 + 1)), (5, .int y5_1), (0, .ref a_this), (1, .ref a_r0), (2, .int z2), (3, .int z3)]) hx hb dX2_isLit_44 hl (k := 5) rfl (by first | rfl | decide) (by decide) rfl (fun ls hl => ?_)
          refine lv_goto (tgt := 3) hx hb dX2_isLit_47 (by decide) ?_
          exact ih (z4 + 1) _ (lv_sub hl [2, 3, 4, 5, 0] rfl) _ hR k
        · replace hR := Eq.trans (Eq.symm (if_neg c_2)) hR
          cases hR
          exact k.1 _ rfl _ (lv_sub hl [] rfl)
  rw [jf_La_isLit] at hR
  refine lv_iconst (v := 0) hx hb dX2_isLit_0 (by decide) ?_
  refine lv_istore (lv' := [(4, .int 0), (0, .ref a_this), (1, .ref a_r0), (2, .int x2), (3, .int x3)]) hx hb dX2_isLit_1 hl (by decide) rfl (fun ls hl => ?_)
  obtain ⟨q_2, hq_2, hR⟩ := jbind hR
  refine L3 jF x2 x3 0 _ (lv_sub hl [1, 2, 3, 4, 0] rfl) _ hq_2 ⟨fun o_1 ho ls hl => ?_, fun o_2 ho ls hl => ?_⟩
  · rw [ho] at hR
    try dsimp only [jsum] at hR
    refine lv_iconst (v := 1) hx hb dX2_isLit_42 (by decide) ?_
    exact fin _ _ _ (Eq.trans (by decide) (Option.some.inj hR)) dX2_isLit_43
  · rw [ho] at hR
    try dsimp only [jsum] at hR
    refine lv_iconst (v := 0) hx hb dX2_isLit_50 (by decide) ?_
    exact fin _ _ _ (Eq.trans (by decide) (Option.some.inj hR)) dX2_isLit_51
def jf_La_cellsLit_b29 (self : Int32 → Int32 → Option Int32) (v_lamps : Int32) (v_cellOf : Nat → Int32) (v_r0_blocks : Int64) (z2 : Int32) (z3 : Int32) : Option Int32 :=
  self z2 (z3 + 1)
def jf_La_cellsLit_L4 (v_lamps : Int32) (v_cellOf : Nat → Int32) (v_r0_blocks : Int64) : Nat → Int32 → Int32 → Option Int32
  | 0, _, _ => none
  | n + 1, z2, z3 =>
    if 64 ≤ z3 then (some z2) else (Option.bind (jf_La_isLit v_lamps v_cellOf v_r0_blocks (z3 - z3 / 8 * 8) (z3 / 8)) (fun q_1 => if q_1 = 0 then (jf_La_cellsLit_b29 (jf_La_cellsLit_L4 v_lamps v_cellOf v_r0_blocks n) v_lamps v_cellOf v_r0_blocks z2 z3) else (jf_La_cellsLit_b29 (jf_La_cellsLit_L4 v_lamps v_cellOf v_r0_blocks n) v_lamps v_cellOf v_r0_blocks (z2 + 1) z3)))
def jf_La_cellsLit (v_lamps : Int32) (v_cellOf : Nat → Int32) (v_r0_blocks : Int64) : Option Int32 :=
  Option.bind (jf_La_cellsLit_L4 v_lamps v_cellOf v_r0_blocks jF 0 0) (fun q_2 => some q_2)
abbrev jr_La_cellsLit : Room := { frames := 4, cells := 0, slots := 0, locals := 96 }
set_option maxRecDepth 100000 in
set_option maxHeartbeats 4000000 in
theorem jc_La_cellsLit (l : Launch) (g : jG) (a_this a_this_cellOf a_r0 a_r0_met a_r0_met_bits : Nat) (v_lamps : Int32) (v_cellOf : Nat → Int32) (v_r0_blocks : Int64) (v_r0_met_bits : Nat → Int64) (R : Int32) (hR : jf_La_cellsLit v_lamps v_cellOf v_r0_blocks = some R) : Met l yX2_cellsLit wsX2_cellsLit jr_La_cellsLit (jPr g [.ref a_this, .ref a_r0] (jw_LaRo g a_this a_this_cellOf a_r0 a_r0_met a_r0_met_bits v_lamps v_cellOf v_r0_blocks v_r0_met_bits)) (vp_Si (fun r => r = R)) 0 0 (fun _ => False) := by
  refine jm_ri (cc := cX2_cellsLit) (maxL := 4) (by decide +kernel) rfl (Nat.le_of_ble_eq_true rfl) ?_
  intro p e s m below meth c Q hx hb hml hown hts hK hP fin ls hl
  have hl : lv_has ls 4 [(0, .ref a_this), (1, .ref a_r0)] := hl
  have hown : s.vm.findClass RX2 = some m.cls := hown
  have L4 : ∀ (n : Nat) (z2 : Int32) (z3 : Int32) (ls : Array Slot), lv_has ls 4 [(0, .ref a_this), (1, .ref a_r0), (2, .int z2), (3, .int z3)] → ∀ q, jf_La_cellsLit_L4 v_lamps v_cellOf v_r0_blocks n z2 z3 = some q → (∀ ls : Array Slot, lv_has ls 4 [(2, .int q)] → W p l e jr_La_cellsLit s m ([.ref a_this, .ref a_r0] : List Value).toArray below meth c s.heap [] 0 0 Q (F0 m 35 ls [])) → W p l e jr_La_cellsLit s m ([.ref a_this, .ref a_r0] : List Value).toArray below meth c s.heap [] 0 0 Q (F0 m 4 ls []) := by
    intro n
    induction n with
    | zero =>
      intro z2 z3 ls hl q hR k
      cases hR
    | succ n ih =>
      have J29 : ∀ (z2 : Int32) (z3 : Int32) (ls : Array Slot), lv_has ls 4 [(0, .ref a_this), (1, .ref a_r0), (2, .int z2), (3, .int z3)] → ∀ q, jf_La_cellsLit_b29 (jf_La_cellsLit_L4 v_lamps v_cellOf v_r0_blocks n) v_lamps v_cellOf v_r0_blocks z2 z3 = some q → (∀ ls : Array Slot, lv_has ls 4 [(2, .int q)] → W p l e jr_La_cellsLit s m ([.ref a_this, .ref a_r0] : List Value).toArray below meth c s.heap [] 0 0 Q (F0 m 35 ls [])) → W p l e jr_La_cellsLit s m ([.ref a_this, .ref a_r0] : List Value).toArray below meth c s.heap [] 0 0 Q (F0 m 29 ls []) := by
        intro z2 z3 ls hl q hR k
        rw [jf_La_cellsLit_b29] at hR
        refine lv_iinc (v := z3 + 1) (lv' := [(3, .int (z3 + 1)), (0, .ref a_this), (1, .ref a_r0), (2, .int z2)]) hx hb dX2_cellsLit_29 hl (k := 3) rfl (by first | rfl | decide) (by decide) rfl (fun ls hl => ?_)
        refine lv_goto (tgt := 4) hx hb dX2_cellsLit_32 (by decide) ?_
        exact ih z2 (z3 + 1) _ (lv_sub hl [1, 2, 3, 0] rfl) _ hR k
      intro z2 z3 ls hl q hR k
      rw [jf_La_cellsLit_L4] at hR
      refine lv_iload_n hx hb dX2_cellsLit_4 rfl (lv_at hl 3 rfl) ?_
      refine lv_bipush (v := 64) hx hb dX2_cellsLit_5 (by decide) ?_
      refine lv_icmp_ge (tgt := 35) hx hb dX2_cellsLit_7 (by decide) (fun c_1 => ?_) (fun c_1 => ?_)
      · replace hR := Eq.trans (Eq.symm (if_pos c_1)) hR
        cases hR
        exact k _ (lv_sub hl [2] rfl)
      · replace hR := Eq.trans (Eq.symm (if_neg c_1)) hR
        refine lv_aload_n hx hb dX2_cellsLit_10 rfl (lv_at hl 0 rfl) ?_
        refine lv_aload_n hx hb dX2_cellsLit_11 rfl (lv_at hl 1 rfl) ?_
        refine lv_iload_n hx hb dX2_cellsLit_12 rfl (lv_at hl 3 rfl) ?_
        refine lv_bipush (v := 8) hx hb dX2_cellsLit_13 (by decide) ?_
        refine lv_irem hx hb dX2_cellsLit_15 (by decide) ?_
        refine lv_iload_n hx hb dX2_cellsLit_16 rfl (lv_at hl 3 rfl) ?_
        refine lv_bipush (v := 8) hx hb dX2_cellsLit_17 (by decide) ?_
        refine lv_idiv hx hb dX2_cellsLit_19 (by decide) ?_
        obtain ⟨q_1, hq_1, hR⟩ := jbind hR
        try dsimp only at hR
        refine jcall_ri (va_runV (As := [.ref a_r0, .int (z3 - z3 / 8 * 8), .int (z3 / 8)]) (rest := []) ⟨hx, hb, hml, hown, hts⟩ (jc_La_isLit l g a_this a_this_cellOf a_r0 a_r0_met a_r0_met_bits v_lamps v_cellOf v_r0_blocks v_r0_met_bits (z3 - z3 / 8 * 8) (z3 / 8) _ hq_1) (cwV 3 hts gX2_cellsLit_X2_isLit rfl rfl rfl (by decide +kernel) ⟨Nat.le_of_ble_eq_true rfl, Nat.le_of_ble_eq_true rfl⟩) (jpr_v hK hP (ci := 2) (q0 := 0) rfl rfl) rfl rfl hl.1 rfl (lv_room (Nat.le_of_ble_eq_true rfl)) dX2_cellsLit_20 ⟨Nat.zero_le _, Nat.zero_le _⟩) ?_
        refine lv_if_eq (tgt := 29) hx hb dX2_cellsLit_23 (by decide) (fun c_2 => ?_) (fun c_2 => ?_)
        · replace hR := Eq.trans (Eq.symm (if_pos c_2)) hR
          exact J29 z2 z3 _ (lv_sub hl [0, 1, 2, 3] rfl) _ hR k
        · replace hR := Eq.trans (Eq.symm (if_neg c_2)) hR
          refine lv_iinc (v := z2 + 1) (lv' := [(2, .int (z2 + 1)), (0, .ref a_this), (1, .ref a_r0), (3, .int z3)]) hx hb dX2_cellsLit_26 hl (k := 2) rfl (by first | rfl | decide) (by decide) rfl (fun ls hl => ?_)
          exact J29 (z2 + 1) z3 _ (lv_sub hl [1, 2, 0, 3] rfl) _ hR k
  rw [jf_La_cellsLit] at hR
  refine lv_iconst (v := 0) hx hb dX2_cellsLit_0 (by decide) ?_
  refine lv_istore_n (lv' := [(2, .int 0), (0, .ref a_this), (1, .ref a_r0)]) hx hb dX2_cellsLit_1 rfl hl (by decide) rfl (fun ls hl => ?_)
  refine lv_iconst (v := 0) hx hb dX2_cellsLit_2 (by decide) ?_
  refine lv_istore_n (lv' := [(3, .int 0), (2, .int 0), (0, .ref a_this), (1, .ref a_r0)]) hx hb dX2_cellsLit_3 rfl hl (by decide) rfl (fun ls hl => ?_)
  obtain ⟨q_2, hq_2, hR⟩ := jbind hR
  try dsimp only at hR
  refine L4 jF 0 0 _ (lv_sub hl [2, 3, 1, 0] rfl) _ hq_2 (fun ls hl => ?_)
  refine lv_iload_n hx hb dX2_cellsLit_35 rfl (lv_at hl 0 rfl) ?_
  exact fin _ _ _ (Option.some.inj hR) dX2_cellsLit_36
def jf_La_isFreeAlong_b220 (self : Int32 → Int32 → Int32 → Int32 → Int32 → Int32 → Option Int32) (v_r0_blocks : Int64) (z1 : Int32) (z2 : Int32) (z3 : Int32) (z4 : Int32) (z5 : Int32) (z6 : Int32) (z7 : Int32) (z11 : Int32) (z12 : Int32) (z14 : Int32) (z15 : Int32) (s0 : Int32) (s1 : Int32) : Option Int32 :=
  jlet (s0 + s1) (fun y8_1 => self z7 y8_1 z14 z15 z11 (z12 + 1))
def jf_La_isFreeAlong_b205 (self : Int32 → Int32 → Int32 → Int32 → Int32 → Int32 → Option Int32) (v_r0_blocks : Int64) (z1 : Int32) (z2 : Int32) (z3 : Int32) (z4 : Int32) (z5 : Int32) (z6 : Int32) (z8 : Int32) (z11 : Int32) (z12 : Int32) (z13 : Int32) (z14 : Int32) (z15 : Int32) (s0 : Int32) (s1 : Int32) : Option Int32 :=
  jlet (s0 + s1) (fun y7_1 => if 0 ≤ z13 then (jf_La_isFreeAlong_b220 self v_r0_blocks z1 z2 z3 z4 z5 z6 y7_1 z11 z12 z14 z15 z8 1) else (jf_La_isFreeAlong_b220 self v_r0_blocks z1 z2 z3 z4 z5 z6 y7_1 z11 z12 z14 z15 z8 0))
def jf_La_isFreeAlong_b191 (self : Int32 → Int32 → Int32 → Int32 → Int32 → Int32 → Option Int32) (v_r0_blocks : Int64) (z1 : Int32) (z2 : Int32) (z3 : Int32) (z4 : Int32) (z5 : Int32) (z6 : Int32) (z7 : Int32) (z8 : Int32) (z12 : Int32) (z13 : Int32) (z14 : Int32) (z15 : Int32) (s0 : Int32) : Option Int32 :=
  if z13 ≤ 0 then (jf_La_isFreeAlong_b205 self v_r0_blocks z1 z2 z3 z4 z5 z6 z8 s0 z12 z13 z14 z15 z7 1) else (jf_La_isFreeAlong_b205 self v_r0_blocks z1 z2 z3 z4 z5 z6 z8 s0 z12 z13 z14 z15 z7 0)
def jf_La_isFreeAlong_b190 (self : Int32 → Int32 → Int32 → Int32 → Int32 → Int32 → Option Int32) (v_r0_blocks : Int64) (z1 : Int32) (z2 : Int32) (z3 : Int32) (z4 : Int32) (z5 : Int32) (z6 : Int32) (z7 : Int32) (z8 : Int32) (z12 : Int32) (z13 : Int32) (z14 : Int32) (z15 : Int32) : Option Int32 :=
  jf_La_isFreeAlong_b191 self v_r0_blocks z1 z2 z3 z4 z5 z6 z7 z8 z12 z13 z14 z15 0
def jf_La_isFreeAlong_b151 (self : Int32 → Int32 → Int32 → Int32 → Int32 → Int32 → Option Int32) (v_r0_blocks : Int64) (z1 : Int32) (z2 : Int32) (z3 : Int32) (z4 : Int32) (z5 : Int32) (z6 : Int32) (z7 : Int32) (z8 : Int32) (z9 : Int32) (z10 : Int32) (z12 : Int32) (z13 : Int32) (z14 : Int32) (s0 : Int32) : Option Int32 :=
  if (jf_Ro_isBlock v_r0_blocks z14 s0) = 0 then (if (jf_Ro_isBlock v_r0_blocks z14 z10) = 0 then (if (jf_Ro_isBlock v_r0_blocks z9 s0) = 0 then (jf_La_isFreeAlong_b191 self v_r0_blocks z1 z2 z3 z4 z5 z6 z7 z8 z12 z13 z14 s0 1) else (jf_La_isFreeAlong_b190 self v_r0_blocks z1 z2 z3 z4 z5 z6 z7 z8 z12 z13 z14 s0)) else (jf_La_isFreeAlong_b190 self v_r0_blocks z1 z2 z3 z4 z5 z6 z7 z8 z12 z13 z14 s0)) else (jf_La_isFreeAlong_b190 self v_r0_blocks z1 z2 z3 z4 z5 z6 z7 z8 z12 z13 z14 s0)
def jf_La_isFreeAlong_b122 (self : Int32 → Int32 → Int32 → Int32 → Int32 → Int32 → Option Int32) (v_r0_blocks : Int64) (z1 : Int32) (z2 : Int32) (z3 : Int32) (z4 : Int32) (z5 : Int32) (z6 : Int32) (z7 : Int32) (z8 : Int32) (z9 : Int32) (z10 : Int32) (z12 : Int32) (z13 : Int32) (s0 : Int32) : Option Int32 :=
  if 0 ≤ z13 then (if z4 ≤ z2 then (jf_La_isFreeAlong_b151 self v_r0_blocks z1 z2 z3 z4 z5 z6 z7 z8 z9 z10 z12 z13 s0 (z10 - 1)) else (jf_La_isFreeAlong_b151 self v_r0_blocks z1 z2 z3 z4 z5 z6 z7 z8 z9 z10 z12 z13 s0 (z10 + 1))) else (jf_La_isFreeAlong_b151 self v_r0_blocks z1 z2 z3 z4 z5 z6 z7 z8 z9 z10 z12 z13 s0 z10)
def jf_La_isFreeAlong_L48 (v_r0_blocks : Int64) (z1 : Int32) (z2 : Int32) (z3 : Int32) (z4 : Int32) (z5 : Int32) (z6 : Int32) : Nat → Int32 → Int32 → Int32 → Int32 → Int32 → Int32 → Option Int32
  | 0, _, _, _, _, _, _ => none
  | n + 1, z7, z8, z9, z10, z11, z12 =>
    if 14 ≤ z12 then (some z11) else (if z11 = 0 then (some z11) else (if z5 + z6 ≤ z7 + z8 then (some z11) else (jlet (jf_In_compare (((2 * z7) + 1) * z6) (((2 * z8) + 1) * z5)) (fun y13_1 => if y13_1 ≤ 0 then (if z3 ≤ z1 then (jf_La_isFreeAlong_b122 (jf_La_isFreeAlong_L48 v_r0_blocks z1 z2 z3 z4 z5 z6 n) v_r0_blocks z1 z2 z3 z4 z5 z6 z7 z8 z9 z10 z12 y13_1 (z9 - 1)) else (jf_La_isFreeAlong_b122 (jf_La_isFreeAlong_L48 v_r0_blocks z1 z2 z3 z4 z5 z6 n) v_r0_blocks z1 z2 z3 z4 z5 z6 z7 z8 z9 z10 z12 y13_1 (z9 + 1))) else (jf_La_isFreeAlong_b122 (jf_La_isFreeAlong_L48 v_r0_blocks z1 z2 z3 z4 z5 z6 n) v_r0_blocks z1 z2 z3 z4 z5 z6 z7 z8 z9 z10 z12 y13_1 z9)))))
def jf_La_isFreeAlong_b43 (v_r0_blocks : Int64) (z1 : Int32) (z2 : Int32) (z3 : Int32) (z4 : Int32) (z5 : Int32) (z6 : Int32) (z7 : Int32) (z8 : Int32) (z9 : Int32) (z10 : Int32) (s0 : Int32) : Option Int32 :=
  Option.bind (jf_La_isFreeAlong_L48 v_r0_blocks z1 z2 z3 z4 z5 z6 jF z7 z8 z9 z10 s0 0) (fun q_1 => some (q_1 &&& 1))
def jf_La_isFreeAlong (v_r0_blocks : Int64) (x1 : Int32) (x2 : Int32) (x3 : Int32) (x4 : Int32) : Option Int32 :=
  jlet (jabs (x3 - x1)) (fun y5_1 => jlet (jabs (x4 - x2)) (fun y6_1 => if (jf_Ro_isBlock v_r0_blocks x1 x2) = 0 then (jf_La_isFreeAlong_b43 v_r0_blocks x1 x2 x3 x4 y5_1 y6_1 0 0 x1 x2 1) else (jf_La_isFreeAlong_b43 v_r0_blocks x1 x2 x3 x4 y5_1 y6_1 0 0 x1 x2 0)))
abbrev jr_La_isFreeAlong : Room := { frames := 2, cells := 0, slots := 0, locals := 43 }
set_option maxRecDepth 100000 in
set_option maxHeartbeats 4000000 in
theorem jc_La_isFreeAlong (l : Launch) (g : jG) (a_r0 a_r0_met a_r0_met_bits : Nat) (v_r0_blocks : Int64) (v_r0_met_bits : Nat → Int64) (x1 : Int32) (x2 : Int32) (x3 : Int32) (x4 : Int32) (R : Int32) (hR : jf_La_isFreeAlong v_r0_blocks x1 x2 x3 x4 = some R) : Met l yX2_isFreeAlong wsX2_isFreeAlong jr_La_isFreeAlong (jPr g [.ref a_r0, .int x1, .int x2, .int x3, .int x4] (jw_Ro g a_r0 a_r0_met a_r0_met_bits v_r0_blocks v_r0_met_bits)) (vp_Si (fun r => r = R)) 0 0 (fun _ => False) := by
  refine jm_rz (cc := cX2_isFreeAlong) (maxL := 16) (by decide +kernel) rfl (Nat.le_of_ble_eq_true rfl) ?_
  intro p e s m below meth c Q hx hb hml hown hts hK hP fin ls hl
  have hl : lv_has ls 16 [(0, .ref a_r0), (1, .int x1), (2, .int x2), (3, .int x3), (4, .int x4)] := hl
  have hown : s.vm.findClass RX2 = some m.cls := hown
  have L48 : ∀ (n : Nat) (z1 : Int32) (z2 : Int32) (z3 : Int32) (z4 : Int32) (z5 : Int32) (z6 : Int32) (z7 : Int32) (z8 : Int32) (z9 : Int32) (z10 : Int32) (z11 : Int32) (z12 : Int32) (ls : Array Slot), lv_has ls 16 [(0, .ref a_r0), (1, .int z1), (2, .int z2), (3, .int z3), (4, .int z4), (5, .int z5), (6, .int z6), (7, .int z7), (8, .int z8), (9, .int z9), (10, .int z10), (11, .int z11), (12, .int z12)] → ∀ q, jf_La_isFreeAlong_L48 v_r0_blocks z1 z2 z3 z4 z5 z6 n z7 z8 z9 z10 z11 z12 = some q → (∀ ls : Array Slot, lv_has ls 16 [(11, .int q)] → W p l e jr_La_isFreeAlong s m ([.ref a_r0, .int x1, .int x2, .int x3, .int x4] : List Value).toArray below meth c s.heap [] 0 0 Q (F0 m 237 ls [])) → W p l e jr_La_isFreeAlong s m ([.ref a_r0, .int x1, .int x2, .int x3, .int x4] : List Value).toArray below meth c s.heap [] 0 0 Q (F0 m 48 ls []) := by
    intro n z1 z2 z3 z4 z5 z6
    induction n with
    | zero =>
      intro z7 z8 z9 z10 z11 z12 ls hl q hR k
      cases hR
    | succ n ih =>
      have J220 : ∀ (z7 : Int32) (z11 : Int32) (z12 : Int32) (z14 : Int32) (z15 : Int32) (s0 : Int32) (s1 : Int32) (ls : Array Slot), lv_has ls 16 [(0, .ref a_r0), (1, .int z1), (2, .int z2), (3, .int z3), (4, .int z4), (5, .int z5), (6, .int z6), (7, .int z7), (11, .int z11), (12, .int z12), (14, .int z14), (15, .int z15)] → ∀ q, jf_La_isFreeAlong_b220 (jf_La_isFreeAlong_L48 v_r0_blocks z1 z2 z3 z4 z5 z6 n) v_r0_blocks z1 z2 z3 z4 z5 z6 z7 z11 z12 z14 z15 s0 s1 = some q → (∀ ls : Array Slot, lv_has ls 16 [(11, .int q)] → W p l e jr_La_isFreeAlong s m ([.ref a_r0, .int x1, .int x2, .int x3, .int x4] : List Value).toArray below meth c s.heap [] 0 0 Q (F0 m 237 ls [])) → W p l e jr_La_isFreeAlong s m ([.ref a_r0, .int x1, .int x2, .int x3, .int x4] : List Value).toArray below meth c s.heap [] 0 0 Q (F0 m 220 ls [.int s1, .int s0]) := by
        intro z7 z11 z12 z14 z15 s0 s1 ls hl q hR k
        rw [jf_La_isFreeAlong_b220] at hR
        refine lv_iadd hx hb dX2_isFreeAlong_220 ?_
        refine jlet_i hR (fun y8_1 hR => ?_)
        try dsimp only at hR
        refine lv_istore (lv' := [(8, .int y8_1), (0, .ref a_r0), (1, .int z1), (2, .int z2), (3, .int z3), (4, .int z4), (5, .int z5), (6, .int z6), (7, .int z7), (11, .int z11), (12, .int z12), (14, .int z14), (15, .int z15)]) hx hb dX2_isFreeAlong_221 hl (by decide) rfl (fun ls hl => ?_)
        refine lv_iload hx hb dX2_isFreeAlong_223 (lv_at hl 11 rfl) ?_
        refine lv_istore (lv' := [(9, .int z14), (8, .int y8_1), (0, .ref a_r0), (1, .int z1), (2, .int z2), (3, .int z3), (4, .int z4), (5, .int z5), (6, .int z6), (7, .int z7), (11, .int z11), (12, .int z12), (14, .int z14), (15, .int z15)]) hx hb dX2_isFreeAlong_225 hl (by decide) rfl (fun ls hl => ?_)
        refine lv_iload hx hb dX2_isFreeAlong_227 (lv_at hl 13 rfl) ?_
        refine lv_istore (lv' := [(10, .int z15), (9, .int z14), (8, .int y8_1), (0, .ref a_r0), (1, .int z1), (2, .int z2), (3, .int z3), (4, .int z4), (5, .int z5), (6, .int z6), (7, .int z7), (11, .int z11), (12, .int z12), (14, .int z14), (15, .int z15)]) hx hb dX2_isFreeAlong_229 hl (by decide) rfl (fun ls hl => ?_)
        refine lv_iinc (v := z12 + 1) (lv' := [(12, .int (z12 + 1)), (10, .int z15), (9, .int z14), (8, .int y8_1), (0, .ref a_r0), (1, .int z1), (2, .int z2), (3, .int z3), (4, .int z4), (5, .int z5), (6, .int z6), (7, .int z7), (11, .int z11), (14, .int z14), (15, .int z15)]) hx hb dX2_isFreeAlong_231 hl (k := 12) rfl (by first | rfl | decide) (by decide) rfl (fun ls hl => ?_)
        refine lv_goto (tgt := 48) hx hb dX2_isFreeAlong_234 (by decide) ?_
        exact ih z7 y8_1 z14 z15 z11 (z12 + 1) _ (lv_sub hl [4, 5, 6, 7, 8, 9, 10, 11, 3, 2, 1, 12, 0] rfl) _ hR k
      have J205 : ∀ (z8 : Int32) (z11 : Int32) (z12 : Int32) (z13 : Int32) (z14 : Int32) (z15 : Int32) (s0 : Int32) (s1 : Int32) (ls : Array Slot), lv_has ls 16 [(0, .ref a_r0), (1, .int z1), (2, .int z2), (3, .int z3), (4, .int z4), (5, .int z5), (6, .int z6), (8, .int z8), (11, .int z11), (12, .int z12), (13, .int z13), (14, .int z14), (15, .int z15)] → ∀ q, jf_La_isFreeAlong_b205 (jf_La_isFreeAlong_L48 v_r0_blocks z1 z2 z3 z4 z5 z6 n) v_r0_blocks z1 z2 z3 z4 z5 z6 z8 z11 z12 z13 z14 z15 s0 s1 = some q → (∀ ls : Array Slot, lv_has ls 16 [(11, .int q)] → W p l e jr_La_isFreeAlong s m ([.ref a_r0, .int x1, .int x2, .int x3, .int x4] : List Value).toArray below meth c s.heap [] 0 0 Q (F0 m 237 ls [])) → W p l e jr_La_isFreeAlong s m ([.ref a_r0, .int x1, .int x2, .int x3, .int x4] : List Value).toArray below meth c s.heap [] 0 0 Q (F0 m 205 ls [.int s1, .int s0]) := by
        intro z8 z11 z12 z13 z14 z15 s0 s1 ls hl q hR k
        rw [jf_La_isFreeAlong_b205] at hR
        refine lv_iadd hx hb dX2_isFreeAlong_205 ?_
        refine jlet_i hR (fun y7_1 hR => ?_)
        try dsimp only at hR
        refine lv_istore (lv' := [(7, .int y7_1), (0, .ref a_r0), (1, .int z1), (2, .int z2), (3, .int z3), (4, .int z4), (5, .int z5), (6, .int z6), (8, .int z8), (11, .int z11), (12, .int z12), (13, .int z13), (14, .int z14), (15, .int z15)]) hx hb dX2_isFreeAlong_206 hl (by decide) rfl (fun ls hl => ?_)
        refine lv_iload hx hb dX2_isFreeAlong_208 (lv_at hl 8 rfl) ?_
        refine lv_iload hx hb dX2_isFreeAlong_210 (lv_at hl 11 rfl) ?_
        refine lv_if_ge (tgt := 219) hx hb dX2_isFreeAlong_212 (by decide) (fun c_11 => ?_) (fun c_11 => ?_)
        · replace hR := Eq.trans (Eq.symm (if_pos c_11)) hR
          refine lv_iconst (v := 1) hx hb dX2_isFreeAlong_219 (by decide) ?_
          exact J220 y7_1 z11 z12 z14 z15 z8 1 _ (lv_sub hl [1, 2, 3, 4, 5, 6, 7, 0, 9, 10, 12, 13] rfl) _ hR k
        · replace hR := Eq.trans (Eq.symm (if_neg c_11)) hR
          refine lv_iconst (v := 0) hx hb dX2_isFreeAlong_215 (by decide) ?_
          refine lv_goto (tgt := 220) hx hb dX2_isFreeAlong_216 (by decide) ?_
          exact J220 y7_1 z11 z12 z14 z15 z8 0 _ (lv_sub hl [1, 2, 3, 4, 5, 6, 7, 0, 9, 10, 12, 13] rfl) _ hR k
      have J191 : ∀ (z7 : Int32) (z8 : Int32) (z12 : Int32) (z13 : Int32) (z14 : Int32) (z15 : Int32) (s0 : Int32) (ls : Array Slot), lv_has ls 16 [(0, .ref a_r0), (1, .int z1), (2, .int z2), (3, .int z3), (4, .int z4), (5, .int z5), (6, .int z6), (7, .int z7), (8, .int z8), (12, .int z12), (13, .int z13), (14, .int z14), (15, .int z15)] → ∀ q, jf_La_isFreeAlong_b191 (jf_La_isFreeAlong_L48 v_r0_blocks z1 z2 z3 z4 z5 z6 n) v_r0_blocks z1 z2 z3 z4 z5 z6 z7 z8 z12 z13 z14 z15 s0 = some q → (∀ ls : Array Slot, lv_has ls 16 [(11, .int q)] → W p l e jr_La_isFreeAlong s m ([.ref a_r0, .int x1, .int x2, .int x3, .int x4] : List Value).toArray below meth c s.heap [] 0 0 Q (F0 m 237 ls [])) → W p l e jr_La_isFreeAlong s m ([.ref a_r0, .int x1, .int x2, .int x3, .int x4] : List Value).toArray below meth c s.heap [] 0 0 Q (F0 m 191 ls [.int s0]) := by
        intro z7 z8 z12 z13 z14 z15 s0 ls hl q hR k
        rw [jf_La_isFreeAlong_b191] at hR
        refine lv_istore (lv' := [(11, .int s0), (0, .ref a_r0), (1, .int z1), (2, .int z2), (3, .int z3), (4, .int z4), (5, .int z5), (6, .int z6), (7, .int z7), (8, .int z8), (12, .int z12), (13, .int z13), (14, .int z14), (15, .int z15)]) hx hb dX2_isFreeAlong_191 hl (by decide) rfl (fun ls hl => ?_)
        refine lv_iload hx hb dX2_isFreeAlong_193 (lv_at hl 8 rfl) ?_
        refine lv_iload hx hb dX2_isFreeAlong_195 (lv_at hl 11 rfl) ?_
        refine lv_if_le (tgt := 204) hx hb dX2_isFreeAlong_197 (by decide) (fun c_10 => ?_) (fun c_10 => ?_)
        · replace hR := Eq.trans (Eq.symm (if_pos c_10)) hR
          refine lv_iconst (v := 1) hx hb dX2_isFreeAlong_204 (by decide) ?_
          exact J205 z8 s0 z12 z13 z14 z15 z7 1 _ (lv_sub hl [1, 2, 3, 4, 5, 6, 7, 9, 0, 10, 11, 12, 13] rfl) _ hR k
        · replace hR := Eq.trans (Eq.symm (if_neg c_10)) hR
          refine lv_iconst (v := 0) hx hb dX2_isFreeAlong_200 (by decide) ?_
          refine lv_goto (tgt := 205) hx hb dX2_isFreeAlong_201 (by decide) ?_
          exact J205 z8 s0 z12 z13 z14 z15 z7 0 _ (lv_sub hl [1, 2, 3, 4, 5, 6, 7, 9, 0, 10, 11, 12, 13] rfl) _ hR k
      have J190 : ∀ (z7 : Int32) (z8 : Int32) (z12 : Int32) (z13 : Int32) (z14 : Int32) (z15 : Int32) (ls : Array Slot), lv_has ls 16 [(0, .ref a_r0), (1, .int z1), (2, .int z2), (3, .int z3), (4, .int z4), (5, .int z5), (6, .int z6), (7, .int z7), (8, .int z8), (12, .int z12), (13, .int z13), (14, .int z14), (15, .int z15)] → ∀ q, jf_La_isFreeAlong_b190 (jf_La_isFreeAlong_L48 v_r0_blocks z1 z2 z3 z4 z5 z6 n) v_r0_blocks z1 z2 z3 z4 z5 z6 z7 z8 z12 z13 z14 z15 = some q → (∀ ls : Array Slot, lv_has ls 16 [(11, .int q)] → W p l e jr_La_isFreeAlong s m ([.ref a_r0, .int x1, .int x2, .int x3, .int x4] : List Value).toArray below meth c s.heap [] 0 0 Q (F0 m 237 ls [])) → W p l e jr_La_isFreeAlong s m ([.ref a_r0, .int x1, .int x2, .int x3, .int x4] : List Value).toArray below meth c s.heap [] 0 0 Q (F0 m 190 ls []) := by
        intro z7 z8 z12 z13 z14 z15 ls hl q hR k
        rw [jf_La_isFreeAlong_b190] at hR
        refine lv_iconst (v := 0) hx hb dX2_isFreeAlong_190 (by decide) ?_
        exact J191 z7 z8 z12 z13 z14 z15 0 _ (lv_sub hl [0, 1, 2, 3, 4, 5, 6, 7, 8, 9, 10, 11, 12] rfl) _ hR k
      have J151 : ∀ (z7 : Int32) (z8 : Int32) (z9 : Int32) (z10 : Int32) (z12 : Int32) (z13 : Int32) (z14 : Int32) (s0 : Int32) (ls : Array Slot), lv_has ls 16 [(0, .ref a_r0), (1, .int z1), (2, .int z2), (3, .int z3), (4, .int z4), (5, .int z5), (6, .int z6), (7, .int z7), (8, .int z8), (9, .int z9), (10, .int z10), (12, .int z12), (13, .int z13), (14, .int z14)] → ∀ q, jf_La_isFreeAlong_b151 (jf_La_isFreeAlong_L48 v_r0_blocks z1 z2 z3 z4 z5 z6 n) v_r0_blocks z1 z2 z3 z4 z5 z6 z7 z8 z9 z10 z12 z13 z14 s0 = some q → (∀ ls : Array Slot, lv_has ls 16 [(11, .int q)] → W p l e jr_La_isFreeAlong s m ([.ref a_r0, .int x1, .int x2, .int x3, .int x4] : List Value).toArray below meth c s.heap [] 0 0 Q (F0 m 237 ls [])) → W p l e jr_La_isFreeAlong s m ([.ref a_r0, .int x1, .int x2, .int x3, .int x4] : List Value).toArray below meth c s.heap [] 0 0 Q (F0 m 151 ls [.int s0]) := by
        intro z7 z8 z9 z10 z12 z13 z14 s0 ls hl q hR k
        rw [jf_La_isFreeAlong_b151] at hR
        refine lv_istore (lv' := [(15, .int s0), (0, .ref a_r0), (1, .int z1), (2, .int z2), (3, .int z3), (4, .int z4), (5, .int z5), (6, .int z6), (7, .int z7), (8, .int z8), (9, .int z9), (10, .int z10), (12, .int z12), (13, .int z13), (14, .int z14)]) hx hb dX2_isFreeAlong_151 hl (by decide) rfl (fun ls hl => ?_)
        refine lv_aload_n hx hb dX2_isFreeAlong_153 rfl (lv_at hl 1 rfl) ?_
        refine lv_iload hx hb dX2_isFreeAlong_154 (lv_at hl 14 rfl) ?_
        refine lv_iload hx hb dX2_isFreeAlong_156 (lv_at hl 0 rfl) ?_
        refine jcall_ri (va_runV (As := [.int z14, .int s0]) (rest := []) ⟨hx, hb, hml, hown, hts⟩ (jc_Ro_isBlock l g a_r0 a_r0_met a_r0_met_bits v_r0_blocks v_r0_met_bits z14 s0 _ rfl) (cwV 2 hts gX2_isFreeAlong_X4_isBlock rfl rfl rfl (by decide +kernel) ⟨Nat.le_of_ble_eq_true rfl, Nat.le_of_ble_eq_true rfl⟩) (jpr_v hK hP (ci := 4) (q0 := 0) rfl rfl) rfl rfl hl.1 rfl (lv_room (Nat.le_of_ble_eq_true rfl)) dX2_isFreeAlong_158 ⟨Nat.zero_le _, Nat.zero_le _⟩) ?_
        refine lv_if_ne (tgt := 190) hx hb dX2_isFreeAlong_161 (by decide) (fun c_9 => ?_) (fun c_9 => ?_)
        · replace hR := Eq.trans (Eq.symm (if_neg c_9)) hR
          exact J190 z7 z8 z12 z13 z14 s0 _ (lv_sub hl [1, 2, 3, 4, 5, 6, 7, 8, 9, 12, 13, 14, 0] rfl) _ hR k
        · replace hR := Eq.trans (Eq.symm (if_pos c_9)) hR
          refine lv_aload_n hx hb dX2_isFreeAlong_164 rfl (lv_at hl 1 rfl) ?_
          refine lv_iload hx hb dX2_isFreeAlong_165 (lv_at hl 14 rfl) ?_
          refine lv_iload hx hb dX2_isFreeAlong_167 (lv_at hl 11 rfl) ?_
          refine jcall_ri (va_runV (As := [.int z14, .int z10]) (rest := []) ⟨hx, hb, hml, hown, hts⟩ (jc_Ro_isBlock l g a_r0 a_r0_met a_r0_met_bits v_r0_blocks v_r0_met_bits z14 z10 _ rfl) (cwV 2 hts gX2_isFreeAlong_X4_isBlock rfl rfl rfl (by decide +kernel) ⟨Nat.le_of_ble_eq_true rfl, Nat.le_of_ble_eq_true rfl⟩) (jpr_v hK hP (ci := 4) (q0 := 0) rfl rfl) rfl rfl hl.1 rfl (lv_room (Nat.le_of_ble_eq_true rfl)) dX2_isFreeAlong_169 ⟨Nat.zero_le _, Nat.zero_le _⟩) ?_
          refine lv_if_ne (tgt := 190) hx hb dX2_isFreeAlong_172 (by decide) (fun c_12 => ?_) (fun c_12 => ?_)
          · replace hR := Eq.trans (Eq.symm (if_neg c_12)) hR
            exact J190 z7 z8 z12 z13 z14 s0 _ (lv_sub hl [1, 2, 3, 4, 5, 6, 7, 8, 9, 12, 13, 14, 0] rfl) _ hR k
          · replace hR := Eq.trans (Eq.symm (if_pos c_12)) hR
            refine lv_aload_n hx hb dX2_isFreeAlong_175 rfl (lv_at hl 1 rfl) ?_
            refine lv_iload hx hb dX2_isFreeAlong_176 (lv_at hl 10 rfl) ?_
            refine lv_iload hx hb dX2_isFreeAlong_178 (lv_at hl 0 rfl) ?_
            refine jcall_ri (va_runV (As := [.int z9, .int s0]) (rest := []) ⟨hx, hb, hml, hown, hts⟩ (jc_Ro_isBlock l g a_r0 a_r0_met a_r0_met_bits v_r0_blocks v_r0_met_bits z9 s0 _ rfl) (cwV 2 hts gX2_isFreeAlong_X4_isBlock rfl rfl rfl (by decide +kernel) ⟨Nat.le_of_ble_eq_true rfl, Nat.le_of_ble_eq_true rfl⟩) (jpr_v hK hP (ci := 4) (q0 := 0) rfl rfl) rfl rfl hl.1 rfl (lv_room (Nat.le_of_ble_eq_true rfl)) dX2_isFreeAlong_180 ⟨Nat.zero_le _, Nat.zero_le _⟩) ?_
            refine lv_if_ne (tgt := 190) hx hb dX2_isFreeAlong_183 (by decide) (fun c_13 => ?_) (fun c_13 => ?_)
            · replace hR := Eq.trans (Eq.symm (if_neg c_13)) hR
              exact J190 z7 z8 z12 z13 z14 s0 _ (lv_sub hl [1, 2, 3, 4, 5, 6, 7, 8, 9, 12, 13, 14, 0] rfl) _ hR k
            · replace hR := Eq.trans (Eq.symm (if_pos c_13)) hR
              refine lv_iconst (v := 1) hx hb dX2_isFreeAlong_186 (by decide) ?_
              refine lv_goto (tgt := 191) hx hb dX2_isFreeAlong_187 (by decide) ?_
              exact J191 z7 z8 z12 z13 z14 s0 1 _ (lv_sub hl [1, 2, 3, 4, 5, 6, 7, 8, 9, 12, 13, 14, 0] rfl) _ hR k
      have J122 : ∀ (z7 : Int32) (z8 : Int32) (z9 : Int32) (z10 : Int32) (z12 : Int32) (z13 : Int32) (s0 : Int32) (ls : Array Slot), lv_has ls 16 [(0, .ref a_r0), (1, .int z1), (2, .int z2), (3, .int z3), (4, .int z4), (5, .int z5), (6, .int z6), (7, .int z7), (8, .int z8), (9, .int z9), (10, .int z10), (12, .int z12), (13, .int z13)] → ∀ q, jf_La_isFreeAlong_b122 (jf_La_isFreeAlong_L48 v_r0_blocks z1 z2 z3 z4 z5 z6 n) v_r0_blocks z1 z2 z3 z4 z5 z6 z7 z8 z9 z10 z12 z13 s0 = some q → (∀ ls : Array Slot, lv_has ls 16 [(11, .int q)] → W p l e jr_La_isFreeAlong s m ([.ref a_r0, .int x1, .int x2, .int x3, .int x4] : List Value).toArray below meth c s.heap [] 0 0 Q (F0 m 237 ls [])) → W p l e jr_La_isFreeAlong s m ([.ref a_r0, .int x1, .int x2, .int x3, .int x4] : List Value).toArray below meth c s.heap [] 0 0 Q (F0 m 122 ls [.int s0]) := by
        intro z7 z8 z9 z10 z12 z13 s0 ls hl q hR k
        rw [jf_La_isFreeAlong_b122] at hR
        refine lv_istore (lv' := [(14, .int s0), (0, .ref a_r0), (1, .int z1), (2, .int z2), (3, .int z3), (4, .int z4), (5, .int z5), (6, .int z6), (7, .int z7), (8, .int z8), (9, .int z9), (10, .int z10), (12, .int z12), (13, .int z13)]) hx hb dX2_isFreeAlong_122 hl (by decide) rfl (fun ls hl => ?_)
        refine lv_iload hx hb dX2_isFreeAlong_124 (lv_at hl 13 rfl) ?_
        refine lv_if_ge (tgt := 134) hx hb dX2_isFreeAlong_126 (by decide) (fun c_7 => ?_) (fun c_7 => ?_)
        · replace hR := Eq.trans (Eq.symm (if_pos c_7)) hR
          refine lv_iload hx hb dX2_isFreeAlong_134 (lv_at hl 5 rfl) ?_
          refine lv_iload_n hx hb dX2_isFreeAlong_136 rfl (lv_at hl 3 rfl) ?_
          refine lv_icmp_le (tgt := 147) hx hb dX2_isFreeAlong_137 (by decide) (fun c_8 => ?_) (fun c_8 => ?_)
          · replace hR := Eq.trans (Eq.symm (if_pos c_8)) hR
            refine lv_iload hx hb dX2_isFreeAlong_147 (lv_at hl 11 rfl) ?_
            refine lv_iconst (v := 1) hx hb dX2_isFreeAlong_149 (by decide) ?_
            refine lv_isub hx hb dX2_isFreeAlong_150 ?_
            exact J151 z7 z8 z9 z10 z12 z13 s0 (z10 - 1) _ (lv_sub hl [1, 2, 3, 4, 5, 6, 7, 8, 9, 10, 11, 12, 13, 0] rfl) _ hR k
          · replace hR := Eq.trans (Eq.symm (if_neg c_8)) hR
            refine lv_iload hx hb dX2_isFreeAlong_140 (lv_at hl 11 rfl) ?_
            refine lv_iconst (v := 1) hx hb dX2_isFreeAlong_142 (by decide) ?_
            refine lv_iadd hx hb dX2_isFreeAlong_143 ?_
            refine lv_goto (tgt := 151) hx hb dX2_isFreeAlong_144 (by decide) ?_
            exact J151 z7 z8 z9 z10 z12 z13 s0 (z10 + 1) _ (lv_sub hl [1, 2, 3, 4, 5, 6, 7, 8, 9, 10, 11, 12, 13, 0] rfl) _ hR k
        · replace hR := Eq.trans (Eq.symm (if_neg c_7)) hR
          refine lv_iload hx hb dX2_isFreeAlong_129 (lv_at hl 11 rfl) ?_
          refine lv_goto (tgt := 151) hx hb dX2_isFreeAlong_131 (by decide) ?_
          exact J151 z7 z8 z9 z10 z12 z13 s0 z10 _ (lv_sub hl [1, 2, 3, 4, 5, 6, 7, 8, 9, 10, 11, 12, 13, 0] rfl) _ hR k
      intro z7 z8 z9 z10 z11 z12 ls hl q hR k
      rw [jf_La_isFreeAlong_L48] at hR
      refine lv_iload hx hb dX2_isFreeAlong_48 (lv_at hl 12 rfl) ?_
      refine lv_bipush (v := 14) hx hb dX2_isFreeAlong_50 (by decide) ?_
      refine lv_icmp_ge (tgt := 237) hx hb dX2_isFreeAlong_52 (by decide) (fun c_2 => ?_) (fun c_2 => ?_)
      · replace hR := Eq.trans (Eq.symm (if_pos c_2)) hR
        cases hR
        exact k _ (lv_sub hl [11] rfl)
      · replace hR := Eq.trans (Eq.symm (if_neg c_2)) hR
        refine lv_iload hx hb dX2_isFreeAlong_55 (lv_at hl 11 rfl) ?_
        refine lv_if_eq (tgt := 237) hx hb dX2_isFreeAlong_57 (by decide) (fun c_3 => ?_) (fun c_3 => ?_)
        · replace hR := Eq.trans (Eq.symm (if_pos c_3)) hR
          cases hR
          exact k _ (lv_sub hl [11] rfl)
        · replace hR := Eq.trans (Eq.symm (if_neg c_3)) hR
          refine lv_iload hx hb dX2_isFreeAlong_60 (lv_at hl 7 rfl) ?_
          refine lv_iload hx hb dX2_isFreeAlong_62 (lv_at hl 8 rfl) ?_
          refine lv_iadd hx hb dX2_isFreeAlong_64 ?_
          refine lv_iload hx hb dX2_isFreeAlong_65 (lv_at hl 5 rfl) ?_
          refine lv_iload hx hb dX2_isFreeAlong_67 (lv_at hl 6 rfl) ?_
          refine lv_iadd hx hb dX2_isFreeAlong_69 ?_
          refine lv_icmp_ge (tgt := 237) hx hb dX2_isFreeAlong_70 (by decide) (fun c_4 => ?_) (fun c_4 => ?_)
          · replace hR := Eq.trans (Eq.symm (if_pos c_4)) hR
            cases hR
            exact k _ (lv_sub hl [11] rfl)
          · replace hR := Eq.trans (Eq.symm (if_neg c_4)) hR
            refine lv_iconst (v := 2) hx hb dX2_isFreeAlong_73 (by decide) ?_
            refine lv_iload hx hb dX2_isFreeAlong_74 (lv_at hl 7 rfl) ?_
            refine lv_imul hx hb dX2_isFreeAlong_76 ?_
            refine lv_iconst (v := 1) hx hb dX2_isFreeAlong_77 (by decide) ?_
            refine lv_iadd hx hb dX2_isFreeAlong_78 ?_
            refine lv_iload hx hb dX2_isFreeAlong_79 (lv_at hl 6 rfl) ?_
            refine lv_imul hx hb dX2_isFreeAlong_81 ?_
            refine lv_iconst (v := 2) hx hb dX2_isFreeAlong_82 (by decide) ?_
            refine lv_iload hx hb dX2_isFreeAlong_83 (lv_at hl 8 rfl) ?_
            refine lv_imul hx hb dX2_isFreeAlong_85 ?_
            refine lv_iconst (v := 1) hx hb dX2_isFreeAlong_86 (by decide) ?_
            refine lv_iadd hx hb dX2_isFreeAlong_87 ?_
            refine lv_iload hx hb dX2_isFreeAlong_88 (lv_at hl 5 rfl) ?_
            refine lv_imul hx hb dX2_isFreeAlong_90 ?_
            refine jcall_ri (va_runS (As := [.int (((2 * z7) + 1) * z6), .int (((2 * z8) + 1) * z5)]) (rest := []) ⟨hx, hb, hml, hown, hts⟩ (jc_In_compare l g  (((2 * z7) + 1) * z6) (((2 * z8) + 1) * z5) _ rfl) (va_cwS 2 hts gX2_isFreeAlong_J6_compare_7cf53 rfl rfl rfl (by decide +kernel) ⟨Nat.le_of_ble_eq_true rfl, Nat.le_of_ble_eq_true rfl⟩) (jpr_s hK (hP.sub (ws' := []) [] rfl)) rfl rfl hl.1 rfl (lv_room (Nat.le_of_ble_eq_true rfl)) dX2_isFreeAlong_91 ⟨Nat.zero_le _, Nat.zero_le _⟩) ?_
            refine jlet_i hR (fun y13_1 hR => ?_)
            try dsimp only at hR
            refine lv_istore (lv' := [(13, .int y13_1), (0, .ref a_r0), (1, .int z1), (2, .int z2), (3, .int z3), (4, .int z4), (5, .int z5), (6, .int z6), (7, .int z7), (8, .int z8), (9, .int z9), (10, .int z10), (11, .int z11), (12, .int z12)]) hx hb dX2_isFreeAlong_94 hl (by decide) rfl (fun ls hl => ?_)
            refine lv_iload hx hb dX2_isFreeAlong_96 (lv_at hl 0 rfl) ?_
            refine lv_if_le (tgt := 106) hx hb dX2_isFreeAlong_98 (by decide) (fun c_5 => ?_) (fun c_5 => ?_)
            · replace hR := Eq.trans (Eq.symm (if_pos c_5)) hR
              refine lv_iload_n hx hb dX2_isFreeAlong_106 rfl (lv_at hl 4 rfl) ?_
              refine lv_iload_n hx hb dX2_isFreeAlong_107 rfl (lv_at hl 2 rfl) ?_
              refine lv_icmp_le (tgt := 118) hx hb dX2_isFreeAlong_108 (by decide) (fun c_6 => ?_) (fun c_6 => ?_)
              · replace hR := Eq.trans (Eq.symm (if_pos c_6)) hR
                refine lv_iload hx hb dX2_isFreeAlong_118 (lv_at hl 10 rfl) ?_
                refine lv_iconst (v := 1) hx hb dX2_isFreeAlong_120 (by decide) ?_
                refine lv_isub hx hb dX2_isFreeAlong_121 ?_
                exact J122 z7 z8 z9 z10 z12 y13_1 (z9 - 1) _ (lv_sub hl [1, 2, 3, 4, 5, 6, 7, 8, 9, 10, 11, 13, 0] rfl) _ hR k
              · replace hR := Eq.trans (Eq.symm (if_neg c_6)) hR
                refine lv_iload hx hb dX2_isFreeAlong_111 (lv_at hl 10 rfl) ?_
                refine lv_iconst (v := 1) hx hb dX2_isFreeAlong_113 (by decide) ?_
                refine lv_iadd hx hb dX2_isFreeAlong_114 ?_
                refine lv_goto (tgt := 122) hx hb dX2_isFreeAlong_115 (by decide) ?_
                exact J122 z7 z8 z9 z10 z12 y13_1 (z9 + 1) _ (lv_sub hl [1, 2, 3, 4, 5, 6, 7, 8, 9, 10, 11, 13, 0] rfl) _ hR k
            · replace hR := Eq.trans (Eq.symm (if_neg c_5)) hR
              refine lv_iload hx hb dX2_isFreeAlong_101 (lv_at hl 10 rfl) ?_
              refine lv_goto (tgt := 122) hx hb dX2_isFreeAlong_103 (by decide) ?_
              exact J122 z7 z8 z9 z10 z12 y13_1 z9 _ (lv_sub hl [1, 2, 3, 4, 5, 6, 7, 8, 9, 10, 11, 13, 0] rfl) _ hR k
  have J43 : ∀ (z1 : Int32) (z2 : Int32) (z3 : Int32) (z4 : Int32) (z5 : Int32) (z6 : Int32) (z7 : Int32) (z8 : Int32) (z9 : Int32) (z10 : Int32) (s0 : Int32) (ls : Array Slot), lv_has ls 16 [(0, .ref a_r0), (1, .int z1), (2, .int z2), (3, .int z3), (4, .int z4), (5, .int z5), (6, .int z6), (7, .int z7), (8, .int z8), (9, .int z9), (10, .int z10)] → jf_La_isFreeAlong_b43 v_r0_blocks z1 z2 z3 z4 z5 z6 z7 z8 z9 z10 s0 = some R → W p l e jr_La_isFreeAlong s m ([.ref a_r0, .int x1, .int x2, .int x3, .int x4] : List Value).toArray below meth c s.heap [] 0 0 Q (F0 m 43 ls [.int s0]) := by
    intro z1 z2 z3 z4 z5 z6 z7 z8 z9 z10 s0 ls hl hR
    rw [jf_La_isFreeAlong_b43] at hR
    refine lv_istore (lv' := [(11, .int s0), (0, .ref a_r0), (1, .int z1), (2, .int z2), (3, .int z3), (4, .int z4), (5, .int z5), (6, .int z6), (7, .int z7), (8, .int z8), (9, .int z9), (10, .int z10)]) hx hb dX2_isFreeAlong_43 hl (by decide) rfl (fun ls hl => ?_)
    refine lv_iconst (v := 0) hx hb dX2_isFreeAlong_45 (by decide) ?_
    refine lv_istore (lv' := [(12, .int 0), (11, .int s0), (0, .ref a_r0), (1, .int z1), (2, .int z2), (3, .int z3), (4, .int z4), (5, .int z5), (6, .int z6), (7, .int z7), (8, .int z8), (9, .int z9), (10, .int z10)]) hx hb dX2_isFreeAlong_46 hl (by decide) rfl (fun ls hl => ?_)
    obtain ⟨q_1, hq_1, hR⟩ := jbind hR
    try dsimp only at hR
    refine L48 jF z1 z2 z3 z4 z5 z6 z7 z8 z9 z10 s0 0 _ (lv_sub hl [2, 3, 4, 5, 6, 7, 8, 9, 10, 11, 12, 1, 0] rfl) _ hq_1 (fun ls hl => ?_)
    refine lv_iload hx hb dX2_isFreeAlong_237 (lv_at hl 0 rfl) ?_
    exact fin _ _ _ (Option.some.inj hR) dX2_isFreeAlong_239
  rw [jf_La_isFreeAlong] at hR
  refine lv_iload_n hx hb dX2_isFreeAlong_0 rfl (lv_at hl 3 rfl) ?_
  refine lv_iload_n hx hb dX2_isFreeAlong_1 rfl (lv_at hl 1 rfl) ?_
  refine lv_isub hx hb dX2_isFreeAlong_2 ?_
  refine va_mabs hx hb (hml.trans hl.1.symm) hown (hts (.methodLink RX2 54 Lib.Math.abs.name) (by decide +kernel)) (hts (.static Lib.Math.abs.name) (by decide +kernel)) (hts (.initialized "java/lang/Math") (by decide +kernel)) (hts (.code Lib.Math.abs.name Lib.Math.abs.code 1 (some .int)) (by decide +kernel)) (Nat.le_of_ble_eq_true rfl) (Nat.le_of_ble_eq_true rfl) (Nat.le_refl _) (Nat.le_refl _) dX2_isFreeAlong_3 ?_
  refine W.eq (g2 := F0 m 6 ls [.int (jabs (x3 - x1))]) rfl ?_
  refine jlet_i hR (fun y5_1 hR => ?_)
  try dsimp only at hR
  refine lv_istore (lv' := [(5, .int y5_1), (0, .ref a_r0), (1, .int x1), (2, .int x2), (3, .int x3), (4, .int x4)]) hx hb dX2_isFreeAlong_6 hl (by decide) rfl (fun ls hl => ?_)
  refine lv_iload hx hb dX2_isFreeAlong_8 (lv_at hl 5 rfl) ?_
  refine lv_iload_n hx hb dX2_isFreeAlong_10 rfl (lv_at hl 3 rfl) ?_
  refine lv_isub hx hb dX2_isFreeAlong_11 ?_
  refine va_mabs hx hb (hml.trans hl.1.symm) hown (hts (.methodLink RX2 54 Lib.Math.abs.name) (by decide +kernel)) (hts (.static Lib.Math.abs.name) (by decide +kernel)) (hts (.initialized "java/lang/Math") (by decide +kernel)) (hts (.code Lib.Math.abs.name Lib.Math.abs.code 1 (some .int)) (by decide +kernel)) (Nat.le_of_ble_eq_true rfl) (Nat.le_of_ble_eq_true rfl) (Nat.le_refl _) (Nat.le_refl _) dX2_isFreeAlong_12 ?_
  refine W.eq (g2 := F0 m 15 ls [.int (jabs (x4 - x2))]) rfl ?_
  refine jlet_i hR (fun y6_1 hR => ?_)
  try dsimp only at hR
  refine lv_istore (lv' := [(6, .int y6_1), (5, .int y5_1), (0, .ref a_r0), (1, .int x1), (2, .int x2), (3, .int x3), (4, .int x4)]) hx hb dX2_isFreeAlong_15 hl (by decide) rfl (fun ls hl => ?_)
  refine lv_iconst (v := 0) hx hb dX2_isFreeAlong_17 (by decide) ?_
  refine lv_istore (lv' := [(7, .int 0), (6, .int y6_1), (5, .int y5_1), (0, .ref a_r0), (1, .int x1), (2, .int x2), (3, .int x3), (4, .int x4)]) hx hb dX2_isFreeAlong_18 hl (by decide) rfl (fun ls hl => ?_)
  refine lv_iconst (v := 0) hx hb dX2_isFreeAlong_20 (by decide) ?_
  refine lv_istore (lv' := [(8, .int 0), (7, .int 0), (6, .int y6_1), (5, .int y5_1), (0, .ref a_r0), (1, .int x1), (2, .int x2), (3, .int x3), (4, .int x4)]) hx hb dX2_isFreeAlong_21 hl (by decide) rfl (fun ls hl => ?_)
  refine lv_iload_n hx hb dX2_isFreeAlong_23 rfl (lv_at hl 5 rfl) ?_
  refine lv_istore (lv' := [(9, .int x1), (8, .int 0), (7, .int 0), (6, .int y6_1), (5, .int y5_1), (0, .ref a_r0), (1, .int x1), (2, .int x2), (3, .int x3), (4, .int x4)]) hx hb dX2_isFreeAlong_24 hl (by decide) rfl (fun ls hl => ?_)
  refine lv_iload_n hx hb dX2_isFreeAlong_26 rfl (lv_at hl 7 rfl) ?_
  refine lv_istore (lv' := [(10, .int x2), (9, .int x1), (8, .int 0), (7, .int 0), (6, .int y6_1), (5, .int y5_1), (0, .ref a_r0), (1, .int x1), (2, .int x2), (3, .int x3), (4, .int x4)]) hx hb dX2_isFreeAlong_27 hl (by decide) rfl (fun ls hl => ?_)
  refine lv_aload_n hx hb dX2_isFreeAlong_29 rfl (lv_at hl 6 rfl) ?_
  refine lv_iload_n hx hb dX2_isFreeAlong_30 rfl (lv_at hl 7 rfl) ?_
  refine lv_iload_n hx hb dX2_isFreeAlong_31 rfl (lv_at hl 8 rfl) ?_
  refine jcall_ri (va_runV (As := [.int x1, .int x2]) (rest := []) ⟨hx, hb, hml, hown, hts⟩ (jc_Ro_isBlock l g a_r0 a_r0_met a_r0_met_bits v_r0_blocks v_r0_met_bits x1 x2 _ rfl) (cwV 2 hts gX2_isFreeAlong_X4_isBlock rfl rfl rfl (by decide +kernel) ⟨Nat.le_of_ble_eq_true rfl, Nat.le_of_ble_eq_true rfl⟩) (jpr_v hK hP (ci := 4) (q0 := 0) rfl rfl) rfl rfl hl.1 rfl (lv_room (Nat.le_of_ble_eq_true rfl)) dX2_isFreeAlong_32 ⟨Nat.zero_le _, Nat.zero_le _⟩) ?_
  refine lv_if_ne (tgt := 42) hx hb dX2_isFreeAlong_35 (by decide) (fun c_1 => ?_) (fun c_1 => ?_)
  · replace hR := Eq.trans (Eq.symm (if_neg c_1)) hR
    refine lv_iconst (v := 0) hx hb dX2_isFreeAlong_42 (by decide) ?_
    exact J43 x1 x2 x3 x4 y5_1 y6_1 0 0 x1 x2 0 _ (lv_sub hl [6, 7, 8, 9, 10, 5, 4, 3, 2, 1, 0] rfl) hR
  · replace hR := Eq.trans (Eq.symm (if_pos c_1)) hR
    refine lv_iconst (v := 1) hx hb dX2_isFreeAlong_38 (by decide) ?_
    refine lv_goto (tgt := 43) hx hb dX2_isFreeAlong_39 (by decide) ?_
    exact J43 x1 x2 x3 x4 y5_1 y6_1 0 0 x1 x2 1 _ (lv_sub hl [6, 7, 8, 9, 10, 5, 4, 3, 2, 1, 0] rfl) hR
