/-! walks laid by wip/gen/gen.py: jf_.. what a method answers, jc_.. its contract -/
abbrev jw_Su (g : jG) (a_this a_this_right a_this_up a_this_left a_this_down a_this_spare a_this_order a_this_number : Nat) (v_numbered : Int32) (v_squares : Int32) (v_right : Nat → Int32) (v_up : Nat → Int32) (v_left : Nat → Int32) (v_down : Nat → Int32) (v_spare : Nat → Int32) (v_order : Nat → Int32) (v_number : Nat → Int32) : va_W := [(a_this, .inr (5, [.ref a_this_right, .ref a_this_up, .ref a_this_left, .ref a_this_down, .ref a_this_spare, .ref a_this_order, .ref a_this_number, .int v_numbered, .int v_squares])), (a_this_right, .inl (g.2.1, 5, .inl v_right)), (a_this_up, .inl (g.2.1, 5, .inl v_up)), (a_this_left, .inl (g.2.1, 5, .inl v_left)), (a_this_down, .inl (g.2.1, 5, .inl v_down)), (a_this_spare, .inl (g.2.1, 5, .inl v_spare)), (a_this_order, .inl (g.2.1, 5, .inl v_order)), (a_this_number, .inl (g.2.1, 5, .inl v_number))]
def jf_Su_squares (v_squares : Int32) : Int32 :=
  v_squares
abbrev jr_Su_squares : Room := { frames := 0, cells := 0, slots := 0, locals := 0 }
set_option maxRecDepth 100000 in
set_option maxHeartbeats 4000000 in
theorem jc_Su_squares (l : Launch) (g : jG) (a_this a_this_right a_this_up a_this_left a_this_down a_this_spare a_this_order a_this_number : Nat) (v_numbered : Int32) (v_squares : Int32) (v_right : Nat → Int32) (v_up : Nat → Int32) (v_left : Nat → Int32) (v_down : Nat → Int32) (v_spare : Nat → Int32) (v_order : Nat → Int32) (v_number : Nat → Int32) (R : Int32) (hR : jf_Su_squares v_squares = R) : Met l yX5_squares wsX5_squares jr_Su_squares (jPr g [.ref a_this] (jw_Su g a_this a_this_right a_this_up a_this_left a_this_down a_this_spare a_this_order a_this_number v_numbered v_squares v_right v_up v_left v_down v_spare v_order v_number)) (vp_Si (fun r => r = R)) 0 0 (fun _ => False) := by
  refine jm_ri (cc := cX5_squares) (maxL := 1) (by decide +kernel) rfl (Nat.le_of_ble_eq_true rfl) ?_
  intro p e s m below meth c Q hx hb hml hown hts hK hP fin ls hl
  have hl : lv_has ls 1 [(0, .ref a_this)] := hl
  have hown : s.vm.findClass RX5 = some m.cls := hown
  have w_X5 : ∀ w ∈ u_ws RX5 TX5 9, w ∈ wsX5_squares := by decide +kernel
  have w_f37 := hts (.fieldLink RX5 37 "Billiardry$Surface" "squares" "I") (by decide +kernel)
  rw [jf_Su_squares] at hR
  refine lv_aload_n hx hb dX5_squares_0 rfl (lv_at hl 0 rfl) ?_
  refine va_get (D := g.1) (ci := 5) (v := .int v_squares) (C := RX5) (T := TX5) (N := 9) hx hb hts w_X5 hown hK.1 hP 0 rfl rfl 8 (by decide) w_f37 (fun _ h9 => h9) rfl dX5_squares_1 ?_
  exact fin _ _ _ hR dX5_squares_4
def jf_Su_rightOf (v_right : Nat → Int32) (x1 : Int32) : Int32 :=
  (jat 5 v_right x1)
abbrev jr_Su_rightOf : Room := { frames := 1, cells := 0, slots := 0, locals := 21 }
set_option maxRecDepth 100000 in
set_option maxHeartbeats 4000000 in
theorem jc_Su_rightOf (l : Launch) (g : jG) (a_this a_this_right a_this_up a_this_left a_this_down a_this_spare a_this_order a_this_number : Nat) (v_numbered : Int32) (v_squares : Int32) (v_right : Nat → Int32) (v_up : Nat → Int32) (v_left : Nat → Int32) (v_down : Nat → Int32) (v_spare : Nat → Int32) (v_order : Nat → Int32) (v_number : Nat → Int32) (x1 : Int32) (R : Int32) (hR : jf_Su_rightOf v_right x1 = R) : Met l yX5_rightOf wsX5_rightOf jr_Su_rightOf (jPr g [.ref a_this, .int x1] (jw_Su g a_this a_this_right a_this_up a_this_left a_this_down a_this_spare a_this_order a_this_number v_numbered v_squares v_right v_up v_left v_down v_spare v_order v_number)) (vp_Si (fun r => r = R)) 0 0 (fun _ => False) := by
  refine jm_ri (cc := cX5_rightOf) (maxL := 2) (by decide +kernel) rfl (Nat.le_of_ble_eq_true rfl) ?_
  intro p e s m below meth c Q hx hb hml hown hts hK hP fin ls hl
  have hl : lv_has ls 2 [(0, .ref a_this), (1, .int x1)] := hl
  have hown : s.vm.findClass RX5 = some m.cls := hown
  have w_X5 : ∀ w ∈ u_ws RX5 TX5 9, w ∈ wsX5_rightOf := by decide +kernel
  have w_f9 := hts (.fieldLink RX5 9 "Billiardry$Surface" "right" "[I") (by decide +kernel)
  rw [jf_Su_rightOf] at hR
  refine lv_aload_n hx hb dX5_rightOf_0 rfl (lv_at hl 0 rfl) ?_
  refine va_get (D := g.1) (ci := 5) (v := .ref a_this_right) (C := RX5) (T := TX5) (N := 9) hx hb hts w_X5 hown hK.1 hP 0 rfl rfl 0 (by decide) w_f9 (fun _ h9 => h9) rfl dX5_rightOf_1 ?_
  refine lv_iload_n hx hb dX5_rightOf_4 rfl (lv_at hl 1 rfl) ?_
  refine jcall_ri (va_runSN (As := [.ref a_this_right, .int x1]) (rest := []) ⟨hx, hb, hml, hown, hts⟩ (jc_Bi_at_t l g a_this_right 5 (Nat.le_of_ble_eq_true rfl) v_right x1 _ rfl) ⟨va_cnB 2 hts gX5_rightOf_X6_at_n54 rfl rfl rfl (jN_at (q := (RX5, 54, yX6_at)) hK.2 18 rfl) (hts (.initialized RX6) (by decide +kernel)) (by decide +kernel) ⟨Nat.le_of_ble_eq_true rfl, Nat.le_of_ble_eq_true rfl⟩, hts (.static yX6_at) (by decide +kernel), trivial⟩ (jpr_s hK (hP.sub (ws' := jw_arI g a_this_right 5 v_right) [1] rfl)) rfl rfl hl.1 rfl (lv_room (Nat.le_of_ble_eq_true rfl)) dX5_rightOf_5 ⟨Nat.zero_le _, Nat.zero_le _⟩) ?_
  exact fin _ _ _ hR dX5_rightOf_8
def jf_Su_upOf (v_up : Nat → Int32) (x1 : Int32) : Int32 :=
  (jat 5 v_up x1)
abbrev jr_Su_upOf : Room := { frames := 1, cells := 0, slots := 0, locals := 21 }
set_option maxRecDepth 100000 in
set_option maxHeartbeats 4000000 in
theorem jc_Su_upOf (l : Launch) (g : jG) (a_this a_this_right a_this_up a_this_left a_this_down a_this_spare a_this_order a_this_number : Nat) (v_numbered : Int32) (v_squares : Int32) (v_right : Nat → Int32) (v_up : Nat → Int32) (v_left : Nat → Int32) (v_down : Nat → Int32) (v_spare : Nat → Int32) (v_order : Nat → Int32) (v_number : Nat → Int32) (x1 : Int32) (R : Int32) (hR : jf_Su_upOf v_up x1 = R) : Met l yX5_upOf wsX5_upOf jr_Su_upOf (jPr g [.ref a_this, .int x1] (jw_Su g a_this a_this_right a_this_up a_this_left a_this_down a_this_spare a_this_order a_this_number v_numbered v_squares v_right v_up v_left v_down v_spare v_order v_number)) (vp_Si (fun r => r = R)) 0 0 (fun _ => False) := by
  refine jm_ri (cc := cX5_upOf) (maxL := 2) (by decide +kernel) rfl (Nat.le_of_ble_eq_true rfl) ?_
  intro p e s m below meth c Q hx hb hml hown hts hK hP fin ls hl
  have hl : lv_has ls 2 [(0, .ref a_this), (1, .int x1)] := hl
  have hown : s.vm.findClass RX5 = some m.cls := hown
  have w_X5 : ∀ w ∈ u_ws RX5 TX5 9, w ∈ wsX5_upOf := by decide +kernel
  have w_f15 := hts (.fieldLink RX5 15 "Billiardry$Surface" "up" "[I") (by decide +kernel)
  rw [jf_Su_upOf] at hR
  refine lv_aload_n hx hb dX5_upOf_0 rfl (lv_at hl 0 rfl) ?_
  refine va_get (D := g.1) (ci := 5) (v := .ref a_this_up) (C := RX5) (T := TX5) (N := 9) hx hb hts w_X5 hown hK.1 hP 0 rfl rfl 1 (by decide) w_f15 (fun _ h9 => h9) rfl dX5_upOf_1 ?_
  refine lv_iload_n hx hb dX5_upOf_4 rfl (lv_at hl 1 rfl) ?_
  refine jcall_ri (va_runSN (As := [.ref a_this_up, .int x1]) (rest := []) ⟨hx, hb, hml, hown, hts⟩ (jc_Bi_at_t l g a_this_up 5 (Nat.le_of_ble_eq_true rfl) v_up x1 _ rfl) ⟨va_cnB 2 hts gX5_upOf_X6_at_n54 rfl rfl rfl (jN_at (q := (RX5, 54, yX6_at)) hK.2 18 rfl) (hts (.initialized RX6) (by decide +kernel)) (by decide +kernel) ⟨Nat.le_of_ble_eq_true rfl, Nat.le_of_ble_eq_true rfl⟩, hts (.static yX6_at) (by decide +kernel), trivial⟩ (jpr_s hK (hP.sub (ws' := jw_arI g a_this_up 5 v_up) [2] rfl)) rfl rfl hl.1 rfl (lv_room (Nat.le_of_ble_eq_true rfl)) dX5_upOf_5 ⟨Nat.zero_le _, Nat.zero_le _⟩) ?_
  exact fin _ _ _ hR dX5_upOf_8
def jf_Su_glueBack_L2 (v_squares : Int32) (v_right : Nat → Int32) (v_up : Nat → Int32) : Nat → Int32 → (Nat → Int32) → (Nat → Int32) → Option ((Nat → Int32) × (Nat → Int32))
  | 0, _, _, _ => none
  | n + 1, z1, v_left, v_down =>
    if v_squares ≤ z1 then (some (v_left, v_down)) else (jlet (jput 5 v_left (jf_Su_rightOf v_right z1) z1) (fun q_1 => jlet (jput 5 v_down (jf_Su_upOf v_up z1) z1) (fun q_2 => (jf_Su_glueBack_L2 v_squares v_right v_up n) (z1 + 1) q_1 q_2)))
def jf_Su_glueBack (v_squares : Int32) (v_right : Nat → Int32) (v_up : Nat → Int32) (v_left : Nat → Int32) (v_down : Nat → Int32) : Option ((Nat → Int32) × (Nat → Int32)) :=
  Option.bind (jf_Su_glueBack_L2 v_squares v_right v_up jF 0 v_left v_down) (fun q_3 => some (q_3.1, q_3.2))
abbrev jr_Su_glueBack : Room := { frames := 2, cells := 0, slots := 0, locals := 42 }
set_option maxRecDepth 100000 in
set_option maxHeartbeats 4000000 in
theorem jc_Su_glueBack (l : Launch) (g : jG) (a_this a_this_right a_this_up a_this_left a_this_down a_this_spare a_this_order a_this_number : Nat) (v_numbered : Int32) (v_squares : Int32) (v_right : Nat → Int32) (v_up : Nat → Int32) (v_left : Nat → Int32) (v_down : Nat → Int32) (v_spare : Nat → Int32) (v_order : Nat → Int32) (v_number : Nat → Int32) (R : (Nat → Int32) × (Nat → Int32)) (hR : jf_Su_glueBack v_squares v_right v_up v_left v_down = some R) (sz : Nat) : Met l yX5_glueBack wsX5_glueBack jr_Su_glueBack (jPw g [.ref a_this] (jw_Su g a_this a_this_right a_this_up a_this_left a_this_down a_this_spare a_this_order a_this_number v_numbered v_squares v_right v_up v_left v_down v_spare v_order v_number) sz) (jQv g (jw_Su g a_this a_this_right a_this_up a_this_left a_this_down a_this_spare a_this_order a_this_number v_numbered v_squares v_right v_up R.1 R.2 v_spare v_order v_number) (va_A (jw_Su g a_this a_this_right a_this_up a_this_left a_this_down a_this_spare a_this_order a_this_number v_numbered v_squares v_right v_up v_left v_down v_spare v_order v_number) sz)) 0 0 (va_A (jw_Su g a_this a_this_right a_this_up a_this_left a_this_down a_this_spare a_this_order a_this_number v_numbered v_squares v_right v_up v_left v_down v_spare v_order v_number) sz) := by
  refine jm_wv (cc := cX5_glueBack) (maxL := 2) (by decide +kernel) rfl (Nat.le_of_ble_eq_true rfl) ?_
  intro p e s m below meth c A Q hx hb hml hown hts hK hP hD hA hS fin ls hl
  have hl : lv_has ls 2 [(0, .ref a_this)] := hl
  have hown : s.vm.findClass RX5 = some m.cls := hown
  have w_X5 : ∀ w ∈ u_ws RX5 TX5 9, w ∈ wsX5_glueBack := by decide +kernel
  have w_f37 := hts (.fieldLink RX5 37 "Billiardry$Surface" "squares" "I") (by decide +kernel)
  have w_f18 := hts (.fieldLink RX5 18 "Billiardry$Surface" "left" "[I") (by decide +kernel)
  have w_f21 := hts (.fieldLink RX5 21 "Billiardry$Surface" "down" "[I") (by decide +kernel)
  have L2 : ∀ (n : Nat) (z1 : Int32) (v_left : Nat → Int32) (v_down : Nat → Int32) (H : Heap) (locs : List Loc), va_P g.1 vwCl (jw_Su g a_this a_this_right a_this_up a_this_left a_this_down a_this_spare a_this_order a_this_number v_numbered v_squares v_right v_up v_left v_down v_spare v_order v_number) H → va_S A s.heap H locs → ∀ (ls : Array Slot), lv_has ls 2 [(0, .ref a_this), (1, .int z1)] → ∀ q, jf_Su_glueBack_L2 v_squares v_right v_up n z1 v_left v_down = some q → (∀ (H : Heap) (locs : List Loc), va_P g.1 vwCl (jw_Su g a_this a_this_right a_this_up a_this_left a_this_down a_this_spare a_this_order a_this_number v_numbered v_squares v_right v_up q.1 q.2 v_spare v_order v_number) H → va_S A s.heap H locs → ∀ ls : Array Slot, lv_has ls 2 [] → W p l e jr_Su_glueBack s m ([.ref a_this] : List Value).toArray below meth c H locs 0 0 Q (F0 m 42 ls [])) → W p l e jr_Su_glueBack s m ([.ref a_this] : List Value).toArray below meth c H locs 0 0 Q (F0 m 2 ls []) := by
    intro n
    induction n with
    | zero =>
      intro z1 v_left v_down H locs hP hS ls hl q hR k
      cases hR
    | succ n ih =>
      intro z1 v_left v_down H locs hP hS ls hl q hR k
      rw [jf_Su_glueBack_L2] at hR
      refine lv_iload_n hx hb dX5_glueBack_2 rfl (lv_at hl 1 rfl) ?_
      refine lv_aload_n hx hb dX5_glueBack_3 rfl (lv_at hl 0 rfl) ?_
      refine va_get (D := g.1) (ci := 5) (v := .int v_squares) (C := RX5) (T := TX5) (N := 9) hx hb hts w_X5 hown hK.1 hP 0 rfl rfl 8 (by decide) w_f37 (fun _ h9 => h9) rfl dX5_glueBack_4 ?_
      refine lv_icmp_ge (tgt := 42) hx hb dX5_glueBack_7 (by decide) (fun c_1 => ?_) (fun c_1 => ?_)
      · replace hR := Eq.trans (Eq.symm (if_pos c_1)) hR
        cases hR
        exact k _ _ hP hS _ (lv_sub hl [] rfl)
      · replace hR := Eq.trans (Eq.symm (if_neg c_1)) hR
        refine lv_aload_n hx hb dX5_glueBack_10 rfl (lv_at hl 0 rfl) ?_
        refine va_get (D := g.1) (ci := 5) (v := .ref a_this_left) (C := RX5) (T := TX5) (N := 9) hx hb hts w_X5 hown hK.1 hP 0 rfl rfl 2 (by decide) w_f18 (fun _ h9 => h9) rfl dX5_glueBack_11 ?_
        refine lv_aload_n hx hb dX5_glueBack_14 rfl (lv_at hl 0 rfl) ?_
        refine lv_iload_n hx hb dX5_glueBack_15 rfl (lv_at hl 1 rfl) ?_
        refine jcall_ri (va_runV (As := [.int z1]) (rest := [.ref a_this_left]) ⟨hx, hb, hml, hown, hts⟩ (jc_Su_rightOf l g a_this a_this_right a_this_up a_this_left a_this_down a_this_spare a_this_order a_this_number v_numbered v_squares v_right v_up v_left v_down v_spare v_order v_number z1 _ rfl) (cwV 1 hts gX5_glueBack_X5_rightOf rfl rfl rfl (by decide +kernel) ⟨Nat.le_of_ble_eq_true rfl, Nat.le_of_ble_eq_true rfl⟩) (jpr_v hK hP (ci := 5) (q0 := 0) rfl rfl) rfl rfl hl.1 rfl (lv_room (Nat.le_of_ble_eq_true rfl)) dX5_glueBack_16 ⟨Nat.zero_le _, Nat.zero_le _⟩) ?_
        refine lv_iload_n hx hb dX5_glueBack_19 rfl (lv_at hl 1 rfl) ?_
        obtain ⟨q_1, hq_1, hR⟩ := jlet_b hR
        try dsimp only at hR
        refine jcall_wv (ws' := jw_Su g a_this a_this_right a_this_up a_this_left a_this_down a_this_spare a_this_order a_this_number v_numbered v_squares v_right v_up q_1 v_down v_spare v_order v_number) (va_runSN (As := [.ref a_this_left, .int (jf_Su_rightOf v_right z1), .int z1]) (rest := []) ⟨hx, hb, hml, hown, hts⟩ (jc_Bi_put_t l g a_this_left 5 (Nat.le_of_ble_eq_true rfl) v_left (jf_Su_rightOf v_right z1) z1 _ hq_1 _) ⟨va_cnB 3 hts gX5_glueBack_X6_put_n40 rfl rfl rfl (jN_at (q := (RX5, 40, yX6_put)) hK.2 17 rfl) (hts (.initialized RX6) (by decide +kernel)) (by decide +kernel) ⟨Nat.le_of_ble_eq_true rfl, Nat.le_of_ble_eq_true rfl⟩, hts (.static yX6_put) (by decide +kernel), trivial⟩ (jpw_s hK (hP.sub (ws' := jw_arI g a_this_left 5 v_left) [3] rfl) ((jD_to (ws' := jw_Su g a_this a_this_right a_this_up a_this_left a_this_down a_this_spare a_this_order a_this_number v_numbered v_squares v_right v_up v_left v_down v_spare v_order v_number) hD rfl).sub [3] (by decide) rfl)) rfl rfl hl.1 rfl (lv_room (Nat.le_of_ble_eq_true rfl)) dX5_glueBack_20 ⟨Nat.zero_le _, Nat.zero_le _⟩) hP (jD_to hD rfl) hS hA [3] [0, 1, 2, 4, 5, 6, 7] [0, 1, 2, 7, 3, 4, 5, 6] rfl (by decide) rfl (fun H locs hP hS => ?_)
        refine lv_aload_n hx hb dX5_glueBack_23 rfl (lv_at hl 0 rfl) ?_
        refine va_get (D := g.1) (ci := 5) (v := .ref a_this_down) (C := RX5) (T := TX5) (N := 9) hx hb hts w_X5 hown hK.1 hP 0 rfl rfl 3 (by decide) w_f21 (fun _ h9 => h9) rfl dX5_glueBack_24 ?_
        refine lv_aload_n hx hb dX5_glueBack_27 rfl (lv_at hl 0 rfl) ?_
        refine lv_iload_n hx hb dX5_glueBack_28 rfl (lv_at hl 1 rfl) ?_
        refine jcall_ri (va_runV (As := [.int z1]) (rest := [.ref a_this_down]) ⟨hx, hb, hml, hown, hts⟩ (jc_Su_upOf l g a_this a_this_right a_this_up a_this_left a_this_down a_this_spare a_this_order a_this_number v_numbered v_squares v_right v_up q_1 v_down v_spare v_order v_number z1 _ rfl) (cwV 1 hts gX5_glueBack_X5_upOf rfl rfl rfl (by decide +kernel) ⟨Nat.le_of_ble_eq_true rfl, Nat.le_of_ble_eq_true rfl⟩) (jpr_v hK hP (ci := 5) (q0 := 0) rfl rfl) rfl rfl hl.1 rfl (lv_room (Nat.le_of_ble_eq_true rfl)) dX5_glueBack_29 ⟨Nat.zero_le _, Nat.zero_le _⟩) ?_
        refine lv_iload_n hx hb dX5_glueBack_32 rfl (lv_at hl 1 rfl) ?_
        obtain ⟨q_2, hq_2, hR⟩ := jlet_b hR
        try dsimp only at hR
        refine jcall_wv (ws' := jw_Su g a_this a_this_right a_this_up a_this_left a_this_down a_this_spare a_this_order a_this_number v_numbered v_squares v_right v_up q_1 q_2 v_spare v_order v_number) (va_runSN (As := [.ref a_this_down, .int (jf_Su_upOf v_up z1), .int z1]) (rest := []) ⟨hx, hb, hml, hown, hts⟩ (jc_Bi_put_t l g a_this_down 5 (Nat.le_of_ble_eq_true rfl) v_down (jf_Su_upOf v_up z1) z1 _ hq_2 _) ⟨va_cnB 3 hts gX5_glueBack_X6_put_n40 rfl rfl rfl (jN_at (q := (RX5, 40, yX6_put)) hK.2 17 rfl) (hts (.initialized RX6) (by decide +kernel)) (by decide +kernel) ⟨Nat.le_of_ble_eq_true rfl, Nat.le_of_ble_eq_true rfl⟩, hts (.static yX6_put) (by decide +kernel), trivial⟩ (jpw_s hK (hP.sub (ws' := jw_arI g a_this_down 5 v_down) [4] rfl) ((jD_to (ws' := jw_Su g a_this a_this_right a_this_up a_this_left a_this_down a_this_spare a_this_order a_this_number v_numbered v_squares v_right v_up q_1 v_down v_spare v_order v_number) hD rfl).sub [4] (by decide) rfl)) rfl rfl hl.1 rfl (lv_room (Nat.le_of_ble_eq_true rfl)) dX5_glueBack_33 ⟨Nat.zero_le _, Nat.zero_le _⟩) hP (jD_to hD rfl) hS hA [4] [0, 1, 2, 3, 5, 6, 7] [0, 1, 2, 3, 7, 4, 5, 6] rfl (by decide) rfl (fun H locs hP hS => ?_)
        refine lv_iinc (v := z1 + 1) (lv' := [(1, .int (z1 + 1)), (0, .ref a_this)]) hx hb dX5_glueBack_36 hl (k := 1) rfl (by first | rfl | decide) (by decide) rfl (fun ls hl => ?_)
        refine lv_goto (tgt := 2) hx hb dX5_glueBack_39 (by decide) ?_
        exact ih (z1 + 1) q_1 q_2 _ _ hP hS _ (lv_sub hl [1, 0] rfl) _ hR k
  rw [jf_Su_glueBack] at hR
  refine lv_iconst (v := 0) hx hb dX5_glueBack_0 (by decide) ?_
  refine lv_istore_n (lv' := [(1, .int 0), (0, .ref a_this)]) hx hb dX5_glueBack_1 rfl hl (by decide) rfl (fun ls hl => ?_)
  obtain ⟨q_3, hq_3, hR⟩ := jbind hR
  try dsimp only at hR
  refine L2 jF 0 v_left v_down _ _ hP hS _ (lv_sub hl [1, 0] rfl) _ hq_3 (fun H locs hP hS ls hl => ?_)
  obtain rfl := (Option.some.inj hR)
  exact fin _ _ _ _ hP hS dX5_glueBack_42
def jf_Su_begin_L7 : Nat → Int32 → (Nat → Int32) → (Nat → Int32) → Option ((Nat → Int32) × (Nat → Int32))
  | 0, _, _, _ => none
  | n + 1, z2, v_right, v_up =>
    if 5 ≤ z2 then (some (v_right, v_up)) else (jlet (jput 5 v_right z2 z2) (fun q_1 => jlet (jput 5 v_up z2 z2) (fun q_2 => (jf_Su_begin_L7 n) (z2 + 1) q_1 q_2)))
def jf_Su_begin (v_squares : Int32) (v_right : Nat → Int32) (v_up : Nat → Int32) (v_left : Nat → Int32) (v_down : Nat → Int32) (x1 : Int32) : Option (Int32 × (Nat → Int32) × (Nat → Int32) × (Nat → Int32) × (Nat → Int32)) :=
  Option.bind (jf_Su_begin_L7 jF 0 v_right v_up) (fun q_3 => Option.bind (jf_Su_glueBack x1 q_3.1 q_3.2 v_left v_down) (fun q_4 => some (x1, q_3.1, q_3.2, q_4.1, q_4.2)))
abbrev jr_Su_begin : Room := { frames := 3, cells := 0, slots := 0, locals := 63 }
set_option maxRecDepth 100000 in
set_option maxHeartbeats 4000000 in
theorem jc_Su_begin (l : Launch) (g : jG) (a_this a_this_right a_this_up a_this_left a_this_down a_this_spare a_this_order a_this_number : Nat) (v_numbered : Int32) (v_squares : Int32) (v_right : Nat → Int32) (v_up : Nat → Int32) (v_left : Nat → Int32) (v_down : Nat → Int32) (v_spare : Nat → Int32) (v_order : Nat → Int32) (v_number : Nat → Int32) (x1 : Int32) (R : Int32 × (Nat → Int32) × (Nat → Int32) × (Nat → Int32) × (Nat → Int32)) (hR : jf_Su_begin v_squares v_right v_up v_left v_down x1 = some R) (sz : Nat) : Met l yX5_begin wsX5_begin jr_Su_begin (jPw g [.ref a_this, .int x1] (jw_Su g a_this a_this_right a_this_up a_this_left a_this_down a_this_spare a_this_order a_this_number v_numbered v_squares v_right v_up v_left v_down v_spare v_order v_number) sz) (jQv g (jw_Su g a_this a_this_right a_this_up a_this_left a_this_down a_this_spare a_this_order a_this_number v_numbered R.1 R.2.1 R.2.2.1 R.2.2.2.1 R.2.2.2.2 v_spare v_order v_number) (va_A (jw_Su g a_this a_this_right a_this_up a_this_left a_this_down a_this_spare a_this_order a_this_number v_numbered v_squares v_right v_up v_left v_down v_spare v_order v_number) sz)) 0 0 (va_A (jw_Su g a_this a_this_right a_this_up a_this_left a_this_down a_this_spare a_this_order a_this_number v_numbered v_squares v_right v_up v_left v_down v_spare v_order v_number) sz) := by
  refine jm_wv (cc := cX5_begin) (maxL := 3) (by decide +kernel) rfl (Nat.le_of_ble_eq_true rfl) ?_
  intro p e s m below meth c A Q hx hb hml hown hts hK hP hD hA hS fin ls hl
  have hl : lv_has ls 3 [(0, .ref a_this), (1, .int x1)] := hl
  have hown : s.vm.findClass RX5 = some m.cls := hown
  have w_X5 : ∀ w ∈ u_ws RX5 TX5 9, w ∈ wsX5_begin := by decide +kernel
  have w_f37 := hts (.fieldLink RX5 37 "Billiardry$Surface" "squares" "I") (by decide +kernel)
  have w_f9 := hts (.fieldLink RX5 9 "Billiardry$Surface" "right" "[I") (by decide +kernel)
  have w_f15 := hts (.fieldLink RX5 15 "Billiardry$Surface" "up" "[I") (by decide +kernel)
  have L7 : ∀ (n : Nat) (v_squares : Int32) (v_left : Nat → Int32) (v_down : Nat → Int32) (z2 : Int32) (v_right : Nat → Int32) (v_up : Nat → Int32) (H : Heap) (locs : List Loc), va_P g.1 vwCl (jw_Su g a_this a_this_right a_this_up a_this_left a_this_down a_this_spare a_this_order a_this_number v_numbered v_squares v_right v_up v_left v_down v_spare v_order v_number) H → va_S A s.heap H locs → ∀ (ls : Array Slot), lv_has ls 3 [(0, .ref a_this), (2, .int z2)] → ∀ q, jf_Su_begin_L7 n z2 v_right v_up = some q → (∀ (H : Heap) (locs : List Loc), va_P g.1 vwCl (jw_Su g a_this a_this_right a_this_up a_this_left a_this_down a_this_spare a_this_order a_this_number v_numbered v_squares q.1 q.2 v_left v_down v_spare v_order v_number) H → va_S A s.heap H locs → ∀ ls : Array Slot, lv_has ls 3 [(0, .ref a_this)] → W p l e jr_Su_begin s m ([.ref a_this, .int x1] : List Value).toArray below meth c H locs 0 0 Q (F0 m 36 ls [])) → W p l e jr_Su_begin s m ([.ref a_this, .int x1] : List Value).toArray below meth c H locs 0 0 Q (F0 m 7 ls []) := by
    intro n v_squares v_left v_down
    induction n with
    | zero =>
      intro z2 v_right v_up H locs hP hS ls hl q hR k
      cases hR
    | succ n ih =>
      intro z2 v_right v_up H locs hP hS ls hl q hR k
      rw [jf_Su_begin_L7] at hR
      refine lv_iload_n hx hb dX5_begin_7 rfl (lv_at hl 1 rfl) ?_
      refine lv_iconst (v := 5) hx hb dX5_begin_8 (by decide) ?_
      refine lv_icmp_ge (tgt := 36) hx hb dX5_begin_9 (by decide) (fun c_1 => ?_) (fun c_1 => ?_)
      · replace hR := Eq.trans (Eq.symm (if_pos c_1)) hR
        cases hR
        exact k _ _ hP hS _ (lv_sub hl [0] rfl)
      · replace hR := Eq.trans (Eq.symm (if_neg c_1)) hR
        refine lv_aload_n hx hb dX5_begin_12 rfl (lv_at hl 0 rfl) ?_
        refine va_get (D := g.1) (ci := 5) (v := .ref a_this_right) (C := RX5) (T := TX5) (N := 9) hx hb hts w_X5 hown hK.1 hP 0 rfl rfl 0 (by decide) w_f9 (fun _ h9 => h9) rfl dX5_begin_13 ?_
        refine lv_iload_n hx hb dX5_begin_16 rfl (lv_at hl 1 rfl) ?_
        refine lv_iload_n hx hb dX5_begin_17 rfl (lv_at hl 1 rfl) ?_
        obtain ⟨q_1, hq_1, hR⟩ := jlet_b hR
        try dsimp only at hR
        refine jcall_wv (ws' := jw_Su g a_this a_this_right a_this_up a_this_left a_this_down a_this_spare a_this_order a_this_number v_numbered v_squares q_1 v_up v_left v_down v_spare v_order v_number) (va_runSN (As := [.ref a_this_right, .int z2, .int z2]) (rest := []) ⟨hx, hb, hml, hown, hts⟩ (jc_Bi_put_t l g a_this_right 5 (Nat.le_of_ble_eq_true rfl) v_right z2 z2 _ hq_1 _) ⟨va_cnB 3 hts gX5_begin_X6_put_n40 rfl rfl rfl (jN_at (q := (RX5, 40, yX6_put)) hK.2 17 rfl) (hts (.initialized RX6) (by decide +kernel)) (by decide +kernel) ⟨Nat.le_of_ble_eq_true rfl, Nat.le_of_ble_eq_true rfl⟩, hts (.static yX6_put) (by decide +kernel), trivial⟩ (jpw_s hK (hP.sub (ws' := jw_arI g a_this_right 5 v_right) [1] rfl) ((jD_to (ws' := jw_Su g a_this a_this_right a_this_up a_this_left a_this_down a_this_spare a_this_order a_this_number v_numbered v_squares v_right v_up v_left v_down v_spare v_order v_number) hD rfl).sub [1] (by decide) rfl)) rfl rfl hl.1 rfl (lv_room (Nat.le_of_ble_eq_true rfl)) dX5_begin_18 ⟨Nat.zero_le _, Nat.zero_le _⟩) hP (jD_to hD rfl) hS hA [1] [0, 2, 3, 4, 5, 6, 7] [0, 7, 1, 2, 3, 4, 5, 6] rfl (by decide) rfl (fun H locs hP hS => ?_)
        refine lv_aload_n hx hb dX5_begin_21 rfl (lv_at hl 0 rfl) ?_
        refine va_get (D := g.1) (ci := 5) (v := .ref a_this_up) (C := RX5) (T := TX5) (N := 9) hx hb hts w_X5 hown hK.1 hP 0 rfl rfl 1 (by decide) w_f15 (fun _ h9 => h9) rfl dX5_begin_22 ?_
        refine lv_iload_n hx hb dX5_begin_25 rfl (lv_at hl 1 rfl) ?_
        refine lv_iload_n hx hb dX5_begin_26 rfl (lv_at hl 1 rfl) ?_
        obtain ⟨q_2, hq_2, hR⟩ := jlet_b hR
        try dsimp only at hR
        refine jcall_wv (ws' := jw_Su g a_this a_this_right a_this_up a_this_left a_this_down a_this_spare a_this_order a_this_number v_numbered v_squares q_1 q_2 v_left v_down v_spare v_order v_number) (va_runSN (As := [.ref a_this_up, .int z2, .int z2]) (rest := []) ⟨hx, hb, hml, hown, hts⟩ (jc_Bi_put_t l g a_this_up 5 (Nat.le_of_ble_eq_true rfl) v_up z2 z2 _ hq_2 _) ⟨va_cnB 3 hts gX5_begin_X6_put_n40 rfl rfl rfl (jN_at (q := (RX5, 40, yX6_put)) hK.2 17 rfl) (hts (.initialized RX6) (by decide +kernel)) (by decide +kernel) ⟨Nat.le_of_ble_eq_true rfl, Nat.le_of_ble_eq_true rfl⟩, hts (.static yX6_put) (by decide +kernel), trivial⟩ (jpw_s hK (hP.sub (ws' := jw_arI g a_this_up 5 v_up) [2] rfl) ((jD_to (ws' := jw_Su g a_this a_this_right a_this_up a_this_left a_this_down a_this_spare a_this_order a_this_number v_numbered v_squares q_1 v_up v_left v_down v_spare v_order v_number) hD rfl).sub [2] (by decide) rfl)) rfl rfl hl.1 rfl (lv_room (Nat.le_of_ble_eq_true rfl)) dX5_begin_27 ⟨Nat.zero_le _, Nat.zero_le _⟩) hP (jD_to hD rfl) hS hA [2] [0, 1, 3, 4, 5, 6, 7] [0, 1, 7, 2, 3, 4, 5, 6] rfl (by decide) rfl (fun H locs hP hS => ?_)
        refine lv_iinc (v := z2 + 1) (lv' := [(2, .int (z2 + 1)), (0, .ref a_this)]) hx hb dX5_begin_30 hl (k := 1) rfl (by first | rfl | decide) (by decide) rfl (fun ls hl => ?_)
        refine lv_goto (tgt := 7) hx hb dX5_begin_33 (by decide) ?_
        exact ih (z2 + 1) q_1 q_2 _ _ hP hS _ (lv_sub hl [1, 0] rfl) _ hR k
  rw [jf_Su_begin] at hR
  refine lv_aload_n hx hb dX5_begin_0 rfl (lv_at hl 0 rfl) ?_
  refine lv_iload_n hx hb dX5_begin_1 rfl (lv_at hl 1 rfl) ?_
  refine va_put (D := g.1) (ci := 5) (v := .int x1) (ty := .int) (C := RX5) (T := TX5) (N := 9) hx hb hts w_X5 tyX5 tyX5_ok nmX5 hown hK.1 hP (jD_to hD rfl) hS 0 rfl rfl 8 (by decide) w_f37 (fun _ h9 => h9) rfl (by decide +kernel) rfl rfl (Nat.le_of_ble_eq_true rfl) dX5_begin_2 (fun H locs hP _ hS => ?_)
  have hP : va_P g.1 vwCl (jw_Su g a_this a_this_right a_this_up a_this_left a_this_down a_this_spare a_this_order a_this_number v_numbered x1 v_right v_up v_left v_down v_spare v_order v_number) H := hP
  refine lv_iconst (v := 0) hx hb dX5_begin_5 (by decide) ?_
  refine lv_istore_n (lv' := [(2, .int 0), (0, .ref a_this), (1, .int x1)]) hx hb dX5_begin_6 rfl hl (by decide) rfl (fun ls hl => ?_)
  obtain ⟨q_3, hq_3, hR⟩ := jbind hR
  try dsimp only at hR
  refine L7 jF x1 v_left v_down 0 v_right v_up _ _ hP hS _ (lv_sub hl [1, 0] rfl) _ hq_3 (fun H locs hP hS ls hl => ?_)
  refine lv_aload_n hx hb dX5_begin_36 rfl (lv_at hl 0 rfl) ?_
  obtain ⟨q_4, hq_4, hR⟩ := jbind hR
  try dsimp only at hR
  refine jcall_wv (ws' := jw_Su g a_this a_this_right a_this_up a_this_left a_this_down a_this_spare a_this_order a_this_number v_numbered x1 q_3.1 q_3.2 q_4.1 q_4.2 v_spare v_order v_number) (va_runV (As := []) (rest := []) ⟨hx, hb, hml, hown, hts⟩ (jc_Su_glueBack l g a_this a_this_right a_this_up a_this_left a_this_down a_this_spare a_this_order a_this_number v_numbered x1 q_3.1 q_3.2 v_left v_down v_spare v_order v_number _ hq_4 _) (cwV 0 hts gX5_begin_X5_glueBack rfl rfl rfl (by decide +kernel) ⟨Nat.le_of_ble_eq_true rfl, Nat.le_of_ble_eq_true rfl⟩) (jpw_v hK hP (jD_to hD rfl) (ci := 5) (q0 := 0) rfl rfl) rfl rfl hl.1 rfl (lv_room (Nat.le_of_ble_eq_true rfl)) dX5_begin_37 ⟨Nat.zero_le _, Nat.zero_le _⟩) hP (jD_to hD rfl) hS hA [0, 1, 2, 3, 4, 5, 6, 7] [] [0, 1, 2, 3, 4, 5, 6, 7] rfl (by decide) rfl (fun H locs hP hS => ?_)
  obtain rfl := (Option.some.inj hR)
  exact fin _ _ _ _ hP hS dX5_begin_40
def jf_Su_beginFrom_L12 : Nat → Int32 → Int32 → (Nat → Int32) → (Nat → Int32) → Option ((Nat → Int32) × (Nat → Int32))
  | 0, _, _, _, _ => none
  | n + 1, z3, z4, v_right, v_up =>
    if z4 < 0 then (some (v_right, v_up)) else (jlet (jput 5 v_up z4 (z3 - z3 / 5 * 5)) (fun q_1 => jlet (z3 / 5) (fun y3_1 => jlet (jput 5 v_right z4 (y3_1 - y3_1 / 5 * 5)) (fun q_2 => jlet (y3_1 / 5) (fun y3_2 => (jf_Su_beginFrom_L12 n) y3_2 (z4 + (-1)) q_2 q_1)))))
def jf_Su_beginFrom (v_squares : Int32) (v_right : Nat → Int32) (v_up : Nat → Int32) (v_left : Nat → Int32) (v_down : Nat → Int32) (x1 : Int32) (x2 : Int32) : Option (Int32 × (Nat → Int32) × (Nat → Int32) × (Nat → Int32) × (Nat → Int32)) :=
  jlet (x2 - 1) (fun y4_1 => Option.bind (jf_Su_beginFrom_L12 jF x1 y4_1 v_right v_up) (fun q_3 => Option.bind (jf_Su_glueBack x2 q_3.1 q_3.2 v_left v_down) (fun q_4 => some (x2, q_3.1, q_3.2, q_4.1, q_4.2))))
abbrev jr_Su_beginFrom : Room := { frames := 3, cells := 0, slots := 0, locals := 63 }
set_option maxRecDepth 100000 in
set_option maxHeartbeats 4000000 in
theorem jc_Su_beginFrom (l : Launch) (g : jG) (a_this a_this_right a_this_up a_this_left a_this_down a_this_spare a_this_order a_this_number : Nat) (v_numbered : Int32) (v_squares : Int32) (v_right : Nat → Int32) (v_up : Nat → Int32) (v_left : Nat → Int32) (v_down : Nat → Int32) (v_spare : Nat → Int32) (v_order : Nat → Int32) (v_number : Nat → Int32) (x1 : Int32) (x2 : Int32) (R : Int32 × (Nat → Int32) × (Nat → Int32) × (Nat → Int32) × (Nat → Int32)) (hR : jf_Su_beginFrom v_squares v_right v_up v_left v_down x1 x2 = some R) (sz : Nat) : Met l yX5_beginFrom wsX5_beginFrom jr_Su_beginFrom (jPw g [.ref a_this, .int x1, .int x2] (jw_Su g a_this a_this_right a_this_up a_this_left a_this_down a_this_spare a_this_order a_this_number v_numbered v_squares v_right v_up v_left v_down v_spare v_order v_number) sz) (jQv g (jw_Su g a_this a_this_right a_this_up a_this_left a_this_down a_this_spare a_this_order a_this_number v_numbered R.1 R.2.1 R.2.2.1 R.2.2.2.1 R.2.2.2.2 v_spare v_order v_number) (va_A (jw_Su g a_this a_this_right a_this_up a_this_left a_this_down a_this_spare a_this_order a_this_number v_numbered v_squares v_right v_up v_left v_down v_spare v_order v_number) sz)) 0 0 (va_A (jw_Su g a_this a_this_right a_this_up a_this_left a_this_down a_this_spare a_this_order a_this_number v_numbered v_squares v_right v_up v_left v_down v_spare v_order v_number) sz) := by
  refine jm_wv (cc := cX5_beginFrom) (maxL := 5) (by decide +kernel) rfl (Nat.le_of_ble_eq_true rfl) ?_
  intro p e s m below meth c A Q hx hb hml hown hts hK hP hD hA hS fin ls hl
  have hl : lv_has ls 5 [(0, .ref a_this), (1, .int x1), (2, .int x2)] := hl
  have hown : s.vm.findClass RX5 = some m.cls := hown
  have w_X5 : ∀ w ∈ u_ws RX5 TX5 9, w ∈ wsX5_beginFrom := by decide +kernel
  have w_f37 := hts (.fieldLink RX5 37 "Billiardry$Surface" "squares" "I") (by decide +kernel)
  have w_f15 := hts (.fieldLink RX5 15 "Billiardry$Surface" "up" "[I") (by decide +kernel)
  have w_f9 := hts (.fieldLink RX5 9 "Billiardry$Surface" "right" "[I") (by decide +kernel)
  have L12 : ∀ (n : Nat) (v_squares : Int32) (v_left : Nat → Int32) (v_down : Nat → Int32) (z3 : Int32) (z4 : Int32) (v_right : Nat → Int32) (v_up : Nat → Int32) (H : Heap) (locs : List Loc), va_P g.1 vwCl (jw_Su g a_this a_this_right a_this_up a_this_left a_this_down a_this_spare a_this_order a_this_number v_numbered v_squares v_right v_up v_left v_down v_spare v_order v_number) H → va_S A s.heap H locs → ∀ (ls : Array Slot), lv_has ls 5 [(0, .ref a_this), (3, .int z3), (4, .int z4)] → ∀ q, jf_Su_beginFrom_L12 n z3 z4 v_right v_up = some q → (∀ (H : Heap) (locs : List Loc), va_P g.1 vwCl (jw_Su g a_this a_this_right a_this_up a_this_left a_this_down a_this_spare a_this_order a_this_number v_numbered v_squares q.1 q.2 v_left v_down v_spare v_order v_number) H → va_S A s.heap H locs → ∀ ls : Array Slot, lv_has ls 5 [(0, .ref a_this)] → W p l e jr_Su_beginFrom s m ([.ref a_this, .int x1, .int x2] : List Value).toArray below meth c H locs 0 0 Q (F0 m 55 ls [])) → W p l e jr_Su_beginFrom s m ([.ref a_this, .int x1, .int x2] : List Value).toArray below meth c H locs 0 0 Q (F0 m 12 ls []) := by
    intro n v_squares v_left v_down
    induction n with
    | zero =>
      intro z3 z4 v_right v_up H locs hP hS ls hl q hR k
      cases hR
    | succ n ih =>
      intro z3 z4 v_right v_up H locs hP hS ls hl q hR k
      rw [jf_Su_beginFrom_L12] at hR
      refine lv_iload hx hb dX5_beginFrom_12 (lv_at hl 2 rfl) ?_
      refine lv_if_lt (tgt := 55) hx hb dX5_beginFrom_14 (by decide) (fun c_1 => ?_) (fun c_1 => ?_)
      · replace hR := Eq.trans (Eq.symm (if_pos c_1)) hR
        cases hR
        exact k _ _ hP hS _ (lv_sub hl [0] rfl)
      · replace hR := Eq.trans (Eq.symm (if_neg c_1)) hR
        refine lv_aload_n hx hb dX5_beginFrom_17 rfl (lv_at hl 0 rfl) ?_
        refine va_get (D := g.1) (ci := 5) (v := .ref a_this_up) (C := RX5) (T := TX5) (N := 9) hx hb hts w_X5 hown hK.1 hP 0 rfl rfl 1 (by decide) w_f15 (fun _ h9 => h9) rfl dX5_beginFrom_18 ?_
        refine lv_iload hx hb dX5_beginFrom_21 (lv_at hl 2 rfl) ?_
        refine lv_iload_n hx hb dX5_beginFrom_23 rfl (lv_at hl 1 rfl) ?_
        refine lv_iconst (v := 5) hx hb dX5_beginFrom_24 (by decide) ?_
        refine lv_irem hx hb dX5_beginFrom_25 (by decide) ?_
        obtain ⟨q_1, hq_1, hR⟩ := jlet_b hR
        try dsimp only at hR
        refine jcall_wv (ws' := jw_Su g a_this a_this_right a_this_up a_this_left a_this_down a_this_spare a_this_order a_this_number v_numbered v_squares v_right q_1 v_left v_down v_spare v_order v_number) (va_runSN (As := [.ref a_this_up, .int z4, .int (z3 - z3 / 5 * 5)]) (rest := []) ⟨hx, hb, hml, hown, hts⟩ (jc_Bi_put_t l g a_this_up 5 (Nat.le_of_ble_eq_true rfl) v_up z4 (z3 - z3 / 5 * 5) _ hq_1 _) ⟨va_cnB 3 hts gX5_beginFrom_X6_put_n40 rfl rfl rfl (jN_at (q := (RX5, 40, yX6_put)) hK.2 17 rfl) (hts (.initialized RX6) (by decide +kernel)) (by decide +kernel) ⟨Nat.le_of_ble_eq_true rfl, Nat.le_of_ble_eq_true rfl⟩, hts (.static yX6_put) (by decide +kernel), trivial⟩ (jpw_s hK (hP.sub (ws' := jw_arI g a_this_up 5 v_up) [2] rfl) ((jD_to (ws' := jw_Su g a_this a_this_right a_this_up a_this_left a_this_down a_this_spare a_this_order a_this_number v_numbered v_squares v_right v_up v_left v_down v_spare v_order v_number) hD rfl).sub [2] (by decide) rfl)) rfl rfl hl.1 rfl (lv_room (Nat.le_of_ble_eq_true rfl)) dX5_beginFrom_26 ⟨Nat.zero_le _, Nat.zero_le _⟩) hP (jD_to hD rfl) hS hA [2] [0, 1, 3, 4, 5, 6, 7] [0, 1, 7, 2, 3, 4, 5, 6] rfl (by decide) rfl (fun H locs hP hS => ?_)
        refine lv_iload_n hx hb dX5_beginFrom_29 rfl (lv_at hl 1 rfl) ?_
        refine lv_iconst (v := 5) hx hb dX5_beginFrom_30 (by decide) ?_
        refine lv_idiv hx hb dX5_beginFrom_31 (by decide) ?_
        refine jlet_i hR (fun y3_1 hR => ?_)
        try dsimp only at hR
        refine lv_istore_n (lv' := [(3, .int y3_1), (0, .ref a_this), (4, .int z4)]) hx hb dX5_beginFrom_32 rfl hl (by decide) rfl (fun ls hl => ?_)
        refine lv_aload_n hx hb dX5_beginFrom_33 rfl (lv_at hl 1 rfl) ?_
        refine va_get (D := g.1) (ci := 5) (v := .ref a_this_right) (C := RX5) (T := TX5) (N := 9) hx hb hts w_X5 hown hK.1 hP 0 rfl rfl 0 (by decide) w_f9 (fun _ h9 => h9) rfl dX5_beginFrom_34 ?_
        refine lv_iload hx hb dX5_beginFrom_37 (lv_at hl 2 rfl) ?_
        refine lv_iload_n hx hb dX5_beginFrom_39 rfl (lv_at hl 0 rfl) ?_
        refine lv_iconst (v := 5) hx hb dX5_beginFrom_40 (by decide) ?_
        refine lv_irem hx hb dX5_beginFrom_41 (by decide) ?_
        obtain ⟨q_2, hq_2, hR⟩ := jlet_b hR
        try dsimp only at hR
        refine jcall_wv (ws' := jw_Su g a_this a_this_right a_this_up a_this_left a_this_down a_this_spare a_this_order a_this_number v_numbered v_squares q_2 q_1 v_left v_down v_spare v_order v_number) (va_runSN (As := [.ref a_this_right, .int z4, .int (y3_1 - y3_1 / 5 * 5)]) (rest := []) ⟨hx, hb, hml, hown, hts⟩ (jc_Bi_put_t l g a_this_right 5 (Nat.le_of_ble_eq_true rfl) v_right z4 (y3_1 - y3_1 / 5 * 5) _ hq_2 _) ⟨va_cnB 3 hts gX5_beginFrom_X6_put_n40 rfl rfl rfl (jN_at (q := (RX5, 40, yX6_put)) hK.2 17 rfl) (hts (.initialized RX6) (by decide +kernel)) (by decide +kernel) ⟨Nat.le_of_ble_eq_true rfl, Nat.le_of_ble_eq_true rfl⟩, hts (.static yX6_put) (by decide +kernel), trivial⟩ (jpw_s hK (hP.sub (ws' := jw_arI g a_this_right 5 v_right) [1] rfl) ((jD_to (ws' := jw_Su g a_this a_this_right a_this_up a_this_left a_this_down a_this_spare a_this_order a_this_number v_numbered v_squares v_right q_1 v_left v_down v_spare v_order v_number) hD rfl).sub [1] (by decide) rfl)) rfl rfl hl.1 rfl (lv_room (Nat.le_of_ble_eq_true rfl)) dX5_beginFrom_42 ⟨Nat.zero_le _, Nat.zero_le _⟩) hP (jD_to hD rfl) hS hA [1] [0, 2, 3, 4, 5, 6, 7] [0, 7, 1, 2, 3, 4, 5, 6] rfl (by decide) rfl (fun H locs hP hS => ?_)
        refine lv_iload_n hx hb dX5_beginFrom_45 rfl (lv_at hl 0 rfl) ?_
        refine lv_iconst (v := 5) hx hb dX5_beginFrom_46 (by decide) ?_
        refine lv_idiv hx hb dX5_beginFrom_47 (by decide) ?_
        refine jlet_i hR (fun y3_2 hR => ?_)
        try dsimp only at hR
        refine lv_istore_n (lv' := [(3, .int y3_2), (0, .ref a_this), (4, .int z4)]) hx hb dX5_beginFrom_48 rfl hl (by decide) rfl (fun ls hl => ?_)
        refine lv_iinc (v := z4 + (-1)) (lv' := [(4, .int (z4 + (-1))), (3, .int y3_2), (0, .ref a_this)]) hx hb dX5_beginFrom_49 hl (k := 2) rfl (by first | rfl | decide) (by decide) rfl (fun ls hl => ?_)
        refine lv_goto (tgt := 12) hx hb dX5_beginFrom_52 (by decide) ?_
        exact ih y3_2 (z4 + (-1)) q_2 q_1 _ _ hP hS _ (lv_sub hl [2, 1, 0] rfl) _ hR k
  rw [jf_Su_beginFrom] at hR
  refine lv_aload_n hx hb dX5_beginFrom_0 rfl (lv_at hl 0 rfl) ?_
  refine lv_iload_n hx hb dX5_beginFrom_1 rfl (lv_at hl 2 rfl) ?_
  refine va_put (D := g.1) (ci := 5) (v := .int x2) (ty := .int) (C := RX5) (T := TX5) (N := 9) hx hb hts w_X5 tyX5 tyX5_ok nmX5 hown hK.1 hP (jD_to hD rfl) hS 0 rfl rfl 8 (by decide) w_f37 (fun _ h9 => h9) rfl (by decide +kernel) rfl rfl (Nat.le_of_ble_eq_true rfl) dX5_beginFrom_2 (fun H locs hP _ hS => ?_)
  have hP : va_P g.1 vwCl (jw_Su g a_this a_this_right a_this_up a_this_left a_this_down a_this_spare a_this_order a_this_number v_numbered x2 v_right v_up v_left v_down v_spare v_order v_number) H := hP
  refine lv_iload_n hx hb dX5_beginFrom_5 rfl (lv_at hl 1 rfl) ?_
  refine lv_istore_n (lv' := [(3, .int x1), (0, .ref a_this), (1, .int x1), (2, .int x2)]) hx hb dX5_beginFrom_6 rfl hl (by decide) rfl (fun ls hl => ?_)
  refine lv_iload_n hx hb dX5_beginFrom_7 rfl (lv_at hl 3 rfl) ?_
  refine lv_iconst (v := 1) hx hb dX5_beginFrom_8 (by decide) ?_
  refine lv_isub hx hb dX5_beginFrom_9 ?_
  refine jlet_i hR (fun y4_1 hR => ?_)
  try dsimp only at hR
  refine lv_istore (lv' := [(4, .int y4_1), (3, .int x1), (0, .ref a_this), (1, .int x1), (2, .int x2)]) hx hb dX5_beginFrom_10 hl (by decide) rfl (fun ls hl => ?_)
  obtain ⟨q_3, hq_3, hR⟩ := jbind hR
  try dsimp only at hR
  refine L12 jF x2 v_left v_down x1 y4_1 v_right v_up _ _ hP hS _ (lv_sub hl [2, 1, 0] rfl) _ hq_3 (fun H locs hP hS ls hl => ?_)
  refine lv_aload_n hx hb dX5_beginFrom_55 rfl (lv_at hl 0 rfl) ?_
  obtain ⟨q_4, hq_4, hR⟩ := jbind hR
  try dsimp only at hR
  refine jcall_wv (ws' := jw_Su g a_this a_this_right a_this_up a_this_left a_this_down a_this_spare a_this_order a_this_number v_numbered x2 q_3.1 q_3.2 q_4.1 q_4.2 v_spare v_order v_number) (va_runV (As := []) (rest := []) ⟨hx, hb, hml, hown, hts⟩ (jc_Su_glueBack l g a_this a_this_right a_this_up a_this_left a_this_down a_this_spare a_this_order a_this_number v_numbered x2 q_3.1 q_3.2 v_left v_down v_spare v_order v_number _ hq_4 _) (cwV 0 hts gX5_beginFrom_X5_glueBack rfl rfl rfl (by decide +kernel) ⟨Nat.le_of_ble_eq_true rfl, Nat.le_of_ble_eq_true rfl⟩) (jpw_v hK hP (jD_to hD rfl) (ci := 5) (q0 := 0) rfl rfl) rfl rfl hl.1 rfl (lv_room (Nat.le_of_ble_eq_true rfl)) dX5_beginFrom_56 ⟨Nat.zero_le _, Nat.zero_le _⟩) hP (jD_to hD rfl) hS hA [0, 1, 2, 3, 4, 5, 6, 7] [] [0, 1, 2, 3, 4, 5, 6, 7] rfl (by decide) rfl (fun H locs hP hS => ?_)
  obtain rfl := (Option.some.inj hR)
  exact fin _ _ _ _ hP hS dX5_beginFrom_59
def jf_Su_leftOf (v_left : Nat → Int32) (x1 : Int32) : Int32 :=
  (jat 5 v_left x1)
abbrev jr_Su_leftOf : Room := { frames := 1, cells := 0, slots := 0, locals := 21 }
set_option maxRecDepth 100000 in
set_option maxHeartbeats 4000000 in
theorem jc_Su_leftOf (l : Launch) (g : jG) (a_this a_this_right a_this_up a_this_left a_this_down a_this_spare a_this_order a_this_number : Nat) (v_numbered : Int32) (v_squares : Int32) (v_right : Nat → Int32) (v_up : Nat → Int32) (v_left : Nat → Int32) (v_down : Nat → Int32) (v_spare : Nat → Int32) (v_order : Nat → Int32) (v_number : Nat → Int32) (x1 : Int32) (R : Int32) (hR : jf_Su_leftOf v_left x1 = R) : Met l yX5_leftOf wsX5_leftOf jr_Su_leftOf (jPr g [.ref a_this, .int x1] (jw_Su g a_this a_this_right a_this_up a_this_left a_this_down a_this_spare a_this_order a_this_number v_numbered v_squares v_right v_up v_left v_down v_spare v_order v_number)) (vp_Si (fun r => r = R)) 0 0 (fun _ => False) := by
  refine jm_ri (cc := cX5_leftOf) (maxL := 2) (by decide +kernel) rfl (Nat.le_of_ble_eq_true rfl) ?_
  intro p e s m below meth c Q hx hb hml hown hts hK hP fin ls hl
  have hl : lv_has ls 2 [(0, .ref a_this), (1, .int x1)] := hl
  have hown : s.vm.findClass RX5 = some m.cls := hown
  have w_X5 : ∀ w ∈ u_ws RX5 TX5 9, w ∈ wsX5_leftOf := by decide +kernel
  have w_f18 := hts (.fieldLink RX5 18 "Billiardry$Surface" "left" "[I") (by decide +kernel)
  rw [jf_Su_leftOf] at hR
  refine lv_aload_n hx hb dX5_leftOf_0 rfl (lv_at hl 0 rfl) ?_
  refine va_get (D := g.1) (ci := 5) (v := .ref a_this_left) (C := RX5) (T := TX5) (N := 9) hx hb hts w_X5 hown hK.1 hP 0 rfl rfl 2 (by decide) w_f18 (fun _ h9 => h9) rfl dX5_leftOf_1 ?_
  refine lv_iload_n hx hb dX5_leftOf_4 rfl (lv_at hl 1 rfl) ?_
  refine jcall_ri (va_runSN (As := [.ref a_this_left, .int x1]) (rest := []) ⟨hx, hb, hml, hown, hts⟩ (jc_Bi_at_t l g a_this_left 5 (Nat.le_of_ble_eq_true rfl) v_left x1 _ rfl) ⟨va_cnB 2 hts gX5_leftOf_X6_at_n54 rfl rfl rfl (jN_at (q := (RX5, 54, yX6_at)) hK.2 18 rfl) (hts (.initialized RX6) (by decide +kernel)) (by decide +kernel) ⟨Nat.le_of_ble_eq_true rfl, Nat.le_of_ble_eq_true rfl⟩, hts (.static yX6_at) (by decide +kernel), trivial⟩ (jpr_s hK (hP.sub (ws' := jw_arI g a_this_left 5 v_left) [3] rfl)) rfl rfl hl.1 rfl (lv_room (Nat.le_of_ble_eq_true rfl)) dX5_leftOf_5 ⟨Nat.zero_le _, Nat.zero_le _⟩) ?_
  exact fin _ _ _ hR dX5_leftOf_8
def jf_Su_downOf (v_down : Nat → Int32) (x1 : Int32) : Int32 :=
  (jat 5 v_down x1)
abbrev jr_Su_downOf : Room := { frames := 1, cells := 0, slots := 0, locals := 21 }
set_option maxRecDepth 100000 in
set_option maxHeartbeats 4000000 in
theorem jc_Su_downOf (l : Launch) (g : jG) (a_this a_this_right a_this_up a_this_left a_this_down a_this_spare a_this_order a_this_number : Nat) (v_numbered : Int32) (v_squares : Int32) (v_right : Nat → Int32) (v_up : Nat → Int32) (v_left : Nat → Int32) (v_down : Nat → Int32) (v_spare : Nat → Int32) (v_order : Nat → Int32) (v_number : Nat → Int32) (x1 : Int32) (R : Int32) (hR : jf_Su_downOf v_down x1 = R) : Met l yX5_downOf wsX5_downOf jr_Su_downOf (jPr g [.ref a_this, .int x1] (jw_Su g a_this a_this_right a_this_up a_this_left a_this_down a_this_spare a_this_order a_this_number v_numbered v_squares v_right v_up v_left v_down v_spare v_order v_number)) (vp_Si (fun r => r = R)) 0 0 (fun _ => False) := by
  refine jm_ri (cc := cX5_downOf) (maxL := 2) (by decide +kernel) rfl (Nat.le_of_ble_eq_true rfl) ?_
  intro p e s m below meth c Q hx hb hml hown hts hK hP fin ls hl
  have hl : lv_has ls 2 [(0, .ref a_this), (1, .int x1)] := hl
  have hown : s.vm.findClass RX5 = some m.cls := hown
  have w_X5 : ∀ w ∈ u_ws RX5 TX5 9, w ∈ wsX5_downOf := by decide +kernel
  have w_f21 := hts (.fieldLink RX5 21 "Billiardry$Surface" "down" "[I") (by decide +kernel)
  rw [jf_Su_downOf] at hR
  refine lv_aload_n hx hb dX5_downOf_0 rfl (lv_at hl 0 rfl) ?_
  refine va_get (D := g.1) (ci := 5) (v := .ref a_this_down) (C := RX5) (T := TX5) (N := 9) hx hb hts w_X5 hown hK.1 hP 0 rfl rfl 3 (by decide) w_f21 (fun _ h9 => h9) rfl dX5_downOf_1 ?_
  refine lv_iload_n hx hb dX5_downOf_4 rfl (lv_at hl 1 rfl) ?_
  refine jcall_ri (va_runSN (As := [.ref a_this_down, .int x1]) (rest := []) ⟨hx, hb, hml, hown, hts⟩ (jc_Bi_at_t l g a_this_down 5 (Nat.le_of_ble_eq_true rfl) v_down x1 _ rfl) ⟨va_cnB 2 hts gX5_downOf_X6_at_n54 rfl rfl rfl (jN_at (q := (RX5, 54, yX6_at)) hK.2 18 rfl) (hts (.initialized RX6) (by decide +kernel)) (by decide +kernel) ⟨Nat.le_of_ble_eq_true rfl, Nat.le_of_ble_eq_true rfl⟩, hts (.static yX6_at) (by decide +kernel), trivial⟩ (jpr_s hK (hP.sub (ws' := jw_arI g a_this_down 5 v_down) [4] rfl)) rfl rfl hl.1 rfl (lv_room (Nat.le_of_ble_eq_true rfl)) dX5_downOf_5 ⟨Nat.zero_le _, Nat.zero_le _⟩) ?_
  exact fin _ _ _ hR dX5_downOf_8
def jf_Su_exchangeTwo_b15 (v_squares : Int32) (v_right : Nat → Int32) (v_up : Nat → Int32) (v_left : Nat → Int32) (v_down : Nat → Int32) (z1 : Int32) (z2 : Int32) : Option (Int32 × (Nat → Int32) × (Nat → Int32) × (Nat → Int32) × (Nat → Int32)) :=
  jlet (jf_Bi_exchangeIn 5 v_right z1 z2) (fun q_1 => Option.bind (jf_Su_glueBack v_squares q_1 v_up v_left v_down) (fun q_2 => some ((jat 5 q_1 z1), q_1, v_up, q_2.1, q_2.2)))
def jf_Su_exchangeTwo_b15_1 (v_squares : Int32) (v_right : Nat → Int32) (v_up : Nat → Int32) (v_left : Nat → Int32) (v_down : Nat → Int32) (z1 : Int32) (z2 : Int32) : Option (Int32 × (Nat → Int32) × (Nat → Int32) × (Nat → Int32) × (Nat → Int32)) :=
  jlet (jf_Bi_exchangeIn 5 v_up z1 z2) (fun q_3 => Option.bind (jf_Su_glueBack v_squares v_right q_3 v_left v_down) (fun q_4 => some ((jat 5 q_3 z1), v_right, q_3, q_4.1, q_4.2)))
def jf_Su_exchangeTwo (v_squares : Int32) (v_right : Nat → Int32) (v_up : Nat → Int32) (v_left : Nat → Int32) (v_down : Nat → Int32) (x1 : Int32) (x2 : Int32) (x3 : Int32) : Option (Int32 × (Nat → Int32) × (Nat → Int32) × (Nat → Int32) × (Nat → Int32)) :=
  if x3 = 0 then (jf_Su_exchangeTwo_b15 v_squares v_right v_up v_left v_down x1 x2) else (jf_Su_exchangeTwo_b15_1 v_squares v_right v_up v_left v_down x1 x2)
abbrev jr_Su_exchangeTwo : Room := { frames := 3, cells := 0, slots := 0, locals := 63 }
set_option maxRecDepth 100000 in
set_option maxHeartbeats 4000000 in
theorem jc_Su_exchangeTwo (l : Launch) (g : jG) (a_this a_this_right a_this_up a_this_left a_this_down a_this_spare a_this_order a_this_number : Nat) (v_numbered : Int32) (v_squares : Int32) (v_right : Nat → Int32) (v_up : Nat → Int32) (v_left : Nat → Int32) (v_down : Nat → Int32) (v_spare : Nat → Int32) (v_order : Nat → Int32) (v_number : Nat → Int32) (x1 : Int32) (x2 : Int32) (x3 : Int32) (R : Int32 × (Nat → Int32) × (Nat → Int32) × (Nat → Int32) × (Nat → Int32)) (hR : jf_Su_exchangeTwo v_squares v_right v_up v_left v_down x1 x2 x3 = some R) (sz : Nat) : Met l yX5_exchangeTwo wsX5_exchangeTwo jr_Su_exchangeTwo (jPw g [.ref a_this, .int x1, .int x2, .int x3] (jw_Su g a_this a_this_right a_this_up a_this_left a_this_down a_this_spare a_this_order a_this_number v_numbered v_squares v_right v_up v_left v_down v_spare v_order v_number) sz) (jQi g R.1 (jw_Su g a_this a_this_right a_this_up a_this_left a_this_down a_this_spare a_this_order a_this_number v_numbered v_squares R.2.1 R.2.2.1 R.2.2.2.1 R.2.2.2.2 v_spare v_order v_number) (va_A (jw_Su g a_this a_this_right a_this_up a_this_left a_this_down a_this_spare a_this_order a_this_number v_numbered v_squares v_right v_up v_left v_down v_spare v_order v_number) sz)) 0 0 (va_A (jw_Su g a_this a_this_right a_this_up a_this_left a_this_down a_this_spare a_this_order a_this_number v_numbered v_squares v_right v_up v_left v_down v_spare v_order v_number) sz) := by
  refine jm_wi (cc := cX5_exchangeTwo) (maxL := 5) (by decide +kernel) rfl (Nat.le_of_ble_eq_true rfl) ?_
  intro p e s m below meth c A Q hx hb hml hown hts hK hP hD hA hS fin ls hl
  have hl : lv_has ls 5 [(0, .ref a_this), (1, .int x1), (2, .int x2), (3, .int x3)] := hl
  have hown : s.vm.findClass RX5 = some m.cls := hown
  have w_X5 : ∀ w ∈ u_ws RX5 TX5 9, w ∈ wsX5_exchangeTwo := by decide +kernel
  have w_f9 := hts (.fieldLink RX5 9 "Billiardry$Surface" "right" "[I") (by decide +kernel)
  have w_f15 := hts (.fieldLink RX5 15 "Billiardry$Surface" "up" "[I") (by decide +kernel)
  have J15 : ∀ (v_right : Nat → Int32) (v_up : Nat → Int32) (v_left : Nat → Int32) (v_down : Nat → Int32) (z1 : Int32) (z2 : Int32) (H : Heap) (locs : List Loc), va_P g.1 vwCl (jw_Su g a_this a_this_right a_this_up a_this_left a_this_down a_this_spare a_this_order a_this_number v_numbered v_squares v_right v_up v_left v_down v_spare v_order v_number) H → va_S A s.heap H locs → ∀ (ls : Array Slot), lv_has ls 5 [(0, .ref a_this), (1, .int z1), (2, .int z2)] → jf_Su_exchangeTwo_b15 v_squares v_right v_up v_left v_down z1 z2 = some R → W p l e jr_Su_exchangeTwo s m ([.ref a_this, .int x1, .int x2, .int x3] : List Value).toArray below meth c H locs 0 0 Q (F0 m 15 ls [.ref a_this_right]) := by
    intro v_right v_up v_left v_down z1 z2 H locs hP hS ls hl hR
    rw [jf_Su_exchangeTwo_b15] at hR
    refine lv_astore (lv' := [(4, .ref a_this_right), (0, .ref a_this), (1, .int z1), (2, .int z2)]) hx hb dX5_exchangeTwo_15 hl (by decide) rfl (fun ls hl => ?_)
    refine lv_aload hx hb dX5_exchangeTwo_17 (lv_at hl 0 rfl) ?_
    refine lv_iload_n hx hb dX5_exchangeTwo_19 rfl (lv_at hl 2 rfl) ?_
    refine lv_iload_n hx hb dX5_exchangeTwo_20 rfl (lv_at hl 3 rfl) ?_
    obtain ⟨q_1, hq_1, hR⟩ := jlet_b hR
    try dsimp only at hR
    refine jcall_wv (ws' := jw_Su g a_this a_this_right a_this_up a_this_left a_this_down a_this_spare a_this_order a_this_number v_numbered v_squares q_1 v_up v_left v_down v_spare v_order v_number) (va_runSN (As := [.ref a_this_right, .int z1, .int z2]) (rest := []) ⟨hx, hb, hml, hown, hts⟩ (jc_Bi_exchangeIn l g a_this_right 5 (Nat.le_of_ble_eq_true rfl) v_right z1 z2 _ hq_1 _) ⟨va_cnB 3 hts gX5_exchangeTwo_X6_exchangeIn_n58 rfl rfl rfl (jN_at (q := (RX5, 58, yX6_exchangeIn)) hK.2 19 rfl) (hts (.initialized RX6) (by decide +kernel)) (by decide +kernel) ⟨Nat.le_of_ble_eq_true rfl, Nat.le_of_ble_eq_true rfl⟩, hts (.static yX6_exchangeIn) (by decide +kernel), trivial⟩ (jpw_s hK (hP.sub (ws' := jw_arI g a_this_right 5 v_right) [1] rfl) ((jD_to (ws' := jw_Su g a_this a_this_right a_this_up a_this_left a_this_down a_this_spare a_this_order a_this_number v_numbered v_squares v_right v_up v_left v_down v_spare v_order v_number) hD rfl).sub [1] (by decide) rfl)) rfl rfl hl.1 rfl (lv_room (Nat.le_of_ble_eq_true rfl)) dX5_exchangeTwo_21 ⟨Nat.zero_le _, Nat.zero_le _⟩) hP (jD_to hD rfl) hS hA [1] [0, 2, 3, 4, 5, 6, 7] [0, 7, 1, 2, 3, 4, 5, 6] rfl (by decide) rfl (fun H locs hP hS => ?_)
    refine lv_aload_n hx hb dX5_exchangeTwo_24 rfl (lv_at hl 1 rfl) ?_
    obtain ⟨q_2, hq_2, hR⟩ := jbind hR
    try dsimp only at hR
    refine jcall_wv (ws' := jw_Su g a_this a_this_right a_this_up a_this_left a_this_down a_this_spare a_this_order a_this_number v_numbered v_squares q_1 v_up q_2.1 q_2.2 v_spare v_order v_number) (va_runV (As := []) (rest := []) ⟨hx, hb, hml, hown, hts⟩ (jc_Su_glueBack l g a_this a_this_right a_this_up a_this_left a_this_down a_this_spare a_this_order a_this_number v_numbered v_squares q_1 v_up v_left v_down v_spare v_order v_number _ hq_2 _) (cwV 0 hts gX5_exchangeTwo_X5_glueBack rfl rfl rfl (by decide +kernel) ⟨Nat.le_of_ble_eq_true rfl, Nat.le_of_ble_eq_true rfl⟩) (jpw_v hK hP (jD_to hD rfl) (ci := 5) (q0 := 0) rfl rfl) rfl rfl hl.1 rfl (lv_room (Nat.le_of_ble_eq_true rfl)) dX5_exchangeTwo_25 ⟨Nat.zero_le _, Nat.zero_le _⟩) hP (jD_to hD rfl) hS hA [0, 1, 2, 3, 4, 5, 6, 7] [] [0, 1, 2, 3, 4, 5, 6, 7] rfl (by decide) rfl (fun H locs hP hS => ?_)
    refine lv_aload hx hb dX5_exchangeTwo_28 (lv_at hl 0 rfl) ?_
    refine lv_iload_n hx hb dX5_exchangeTwo_30 rfl (lv_at hl 2 rfl) ?_
    refine jcall_ri (va_runSN (As := [.ref a_this_right, .int z1]) (rest := []) ⟨hx, hb, hml, hown, hts⟩ (jc_Bi_at_t l g a_this_right 5 (Nat.le_of_ble_eq_true rfl) q_1 z1 _ rfl) ⟨va_cnB 2 hts gX5_exchangeTwo_X6_at_n54 rfl rfl rfl (jN_at (q := (RX5, 54, yX6_at)) hK.2 18 rfl) (hts (.initialized RX6) (by decide +kernel)) (by decide +kernel) ⟨Nat.le_of_ble_eq_true rfl, Nat.le_of_ble_eq_true rfl⟩, hts (.static yX6_at) (by decide +kernel), trivial⟩ (jpr_s hK (hP.sub (ws' := jw_arI g a_this_right 5 q_1) [1] rfl)) rfl rfl hl.1 rfl (lv_room (Nat.le_of_ble_eq_true rfl)) dX5_exchangeTwo_31 ⟨Nat.zero_le _, Nat.zero_le _⟩) ?_
    obtain rfl := (Option.some.inj hR)
    exact fin _ _ _ _ _ rfl hP hS dX5_exchangeTwo_34
  have J15_1 : ∀ (v_right : Nat → Int32) (v_up : Nat → Int32) (v_left : Nat → Int32) (v_down : Nat → Int32) (z1 : Int32) (z2 : Int32) (H : Heap) (locs : List Loc), va_P g.1 vwCl (jw_Su g a_this a_this_right a_this_up a_this_left a_this_down a_this_spare a_this_order a_this_number v_numbered v_squares v_right v_up v_left v_down v_spare v_order v_number) H → va_S A s.heap H locs → ∀ (ls : Array Slot), lv_has ls 5 [(0, .ref a_this), (1, .int z1), (2, .int z2)] → jf_Su_exchangeTwo_b15_1 v_squares v_right v_up v_left v_down z1 z2 = some R → W p l e jr_Su_exchangeTwo s m ([.ref a_this, .int x1, .int x2, .int x3] : List Value).toArray below meth c H locs 0 0 Q (F0 m 15 ls [.ref a_this_up]) := by
    intro v_right v_up v_left v_down z1 z2 H locs hP hS ls hl hR
    rw [jf_Su_exchangeTwo_b15_1] at hR
    refine lv_astore (lv' := [(4, .ref a_this_up), (0, .ref a_this), (1, .int z1), (2, .int z2)]) hx hb dX5_exchangeTwo_15 hl (by decide) rfl (fun ls hl => ?_)
    refine lv_aload hx hb dX5_exchangeTwo_17 (lv_at hl 0 rfl) ?_
    refine lv_iload_n hx hb dX5_exchangeTwo_19 rfl (lv_at hl 2 rfl) ?_
    refine lv_iload_n hx hb dX5_exchangeTwo_20 rfl (lv_at hl 3 rfl) ?_
    obtain ⟨q_3, hq_3, hR⟩ := jlet_b hR
    try dsimp only at hR
    refine jcall_wv (ws' := jw_Su g a_this a_this_right a_this_up a_this_left a_this_down a_this_spare a_this_order a_this_number v_numbered v_squares v_right q_3 v_left v_down v_spare v_order v_number) (va_runSN (As := [.ref a_this_up, .int z1, .int z2]) (rest := []) ⟨hx, hb, hml, hown, hts⟩ (jc_Bi_exchangeIn l g a_this_up 5 (Nat.le_of_ble_eq_true rfl) v_up z1 z2 _ hq_3 _) ⟨va_cnB 3 hts gX5_exchangeTwo_X6_exchangeIn_n58 rfl rfl rfl (jN_at (q := (RX5, 58, yX6_exchangeIn)) hK.2 19 rfl) (hts (.initialized RX6) (by decide +kernel)) (by decide +kernel) ⟨Nat.le_of_ble_eq_true rfl, Nat.le_of_ble_eq_true rfl⟩, hts (.static yX6_exchangeIn) (by decide +kernel), trivial⟩ (jpw_s hK (hP.sub (ws' := jw_arI g a_this_up 5 v_up) [2] rfl) ((jD_to (ws' := jw_Su g a_this a_this_right a_this_up a_this_left a_this_down a_this_spare a_this_order a_this_number v_numbered v_squares v_right v_up v_left v_down v_spare v_order v_number) hD rfl).sub [2] (by decide) rfl)) rfl rfl hl.1 rfl (lv_room (Nat.le_of_ble_eq_true rfl)) dX5_exchangeTwo_21 ⟨Nat.zero_le _, Nat.zero_le _⟩) hP (jD_to hD rfl) hS hA [2] [0, 1, 3, 4, 5, 6, 7] [0, 1, 7, 2, 3, 4, 5, 6] rfl (by decide) rfl (fun H locs hP hS => ?_)
    refine lv_aload_n hx hb dX5_exchangeTwo_24 rfl (lv_at hl 1 rfl) ?_
    obtain ⟨q_4, hq_4, hR⟩ := jbind hR
    try dsimp only at hR
    refine jcall_wv (ws' := jw_Su g a_this a_this_right a_this_up a_this_left a_this_down a_this_spare a_this_order a_this_number v_numbered v_squares v_right q_3 q_4.1 q_4.2 v_spare v_order v_number) (va_runV (As := []) (rest := []) ⟨hx, hb, hml, hown, hts⟩ (jc_Su_glueBack l g a_this a_this_right a_this_up a_this_left a_this_down a_this_spare a_this_order a_this_number v_numbered v_squares v_right q_3 v_left v_down v_spare v_order v_number _ hq_4 _) (cwV 0 hts gX5_exchangeTwo_X5_glueBack rfl rfl rfl (by decide +kernel) ⟨Nat.le_of_ble_eq_true rfl, Nat.le_of_ble_eq_true rfl⟩) (jpw_v hK hP (jD_to hD rfl) (ci := 5) (q0 := 0) rfl rfl) rfl rfl hl.1 rfl (lv_room (Nat.le_of_ble_eq_true rfl)) dX5_exchangeTwo_25 ⟨Nat.zero_le _, Nat.zero_le _⟩) hP (jD_to hD rfl) hS hA [0, 1, 2, 3, 4, 5, 6, 7] [] [0, 1, 2, 3, 4, 5, 6, 7] rfl (by decide) rfl (fun H locs hP hS => ?_)
    refine lv_aload hx hb dX5_exchangeTwo_28 (lv_at hl 0 rfl) ?_
    refine lv_iload_n hx hb dX5_exchangeTwo_30 rfl (lv_at hl 2 rfl) ?_
    refine jcall_ri (va_runSN (As := [.ref a_this_up, .int z1]) (rest := []) ⟨hx, hb, hml, hown, hts⟩ (jc_Bi_at_t l g a_this_up 5 (Nat.le_of_ble_eq_true rfl) q_3 z1 _ rfl) ⟨va_cnB 2 hts gX5_exchangeTwo_X6_at_n54 rfl rfl rfl (jN_at (q := (RX5, 54, yX6_at)) hK.2 18 rfl) (hts (.initialized RX6) (by decide +kernel)) (by decide +kernel) ⟨Nat.le_of_ble_eq_true rfl, Nat.le_of_ble_eq_true rfl⟩, hts (.static yX6_at) (by decide +kernel), trivial⟩ (jpr_s hK (hP.sub (ws' := jw_arI g a_this_up 5 q_3) [2] rfl)) rfl rfl hl.1 rfl (lv_room (Nat.le_of_ble_eq_true rfl)) dX5_exchangeTwo_31 ⟨Nat.zero_le _, Nat.zero_le _⟩) ?_
    obtain rfl := (Option.some.inj hR)
    exact fin _ _ _ _ _ rfl hP hS dX5_exchangeTwo_34
  rw [jf_Su_exchangeTwo] at hR
  refine lv_iload_n hx hb dX5_exchangeTwo_0 rfl (lv_at hl 3 rfl) ?_
  refine lv_if_eq (tgt := 11) hx hb dX5_exchangeTwo_1 (by decide) (fun c_1 => ?_) (fun c_1 => ?_)
  · replace hR := Eq.trans (Eq.symm (if_pos c_1)) hR
    refine lv_aload_n hx hb dX5_exchangeTwo_11 rfl (lv_at hl 0 rfl) ?_
    refine va_get (D := g.1) (ci := 5) (v := .ref a_this_right) (C := RX5) (T := TX5) (N := 9) hx hb hts w_X5 hown hK.1 hP 0 rfl rfl 0 (by decide) w_f9 (fun _ h9 => h9) rfl dX5_exchangeTwo_12 ?_
    exact J15 v_right v_up v_left v_down x1 x2 _ _ hP hS _ (lv_sub hl [0, 1, 2] rfl) hR
  · replace hR := Eq.trans (Eq.symm (if_neg c_1)) hR
    refine lv_aload_n hx hb dX5_exchangeTwo_4 rfl (lv_at hl 0 rfl) ?_
    refine va_get (D := g.1) (ci := 5) (v := .ref a_this_up) (C := RX5) (T := TX5) (N := 9) hx hb hts w_X5 hown hK.1 hP 0 rfl rfl 1 (by decide) w_f15 (fun _ h9 => h9) rfl dX5_exchangeTwo_5 ?_
    refine lv_goto (tgt := 15) hx hb dX5_exchangeTwo_8 (by decide) ?_
    exact J15_1 v_right v_up v_left v_down x1 x2 _ _ hP hS _ (lv_sub hl [0, 1, 2] rfl) hR
def jf_Su_shearAll_L2 (v_squares : Int32) (v_right : Nat → Int32) (v_up : Nat → Int32) : Nat → Int32 → (Nat → Int32) → Option (Nat → Int32)
  | 0, _, _ => none
  | n + 1, z1, v_spare =>
    if v_squares ≤ z1 then (some v_spare) else (jlet (jput 5 v_spare z1 (jf_Su_upOf v_up (jf_Su_rightOf v_right z1))) (fun q_1 => (jf_Su_shearAll_L2 v_squares v_right v_up n) (z1 + 1) q_1))
def jf_Su_shearAll_L35 (v_squares : Int32) (v_spare : Nat → Int32) : Nat → Int32 → (Nat → Int32) → Option (Nat → Int32)
  | 0, _, _ => none
  | n + 1, z1, v_up =>
    if v_squares ≤ z1 then (some v_up) else (jlet (jput 5 v_up z1 (jat 5 v_spare z1)) (fun q_3 => (jf_Su_shearAll_L35 v_squares v_spare n) (z1 + 1) q_3))
def jf_Su_shearAll (v_squares : Int32) (v_right : Nat → Int32) (v_up : Nat → Int32) (v_left : Nat → Int32) (v_down : Nat → Int32) (v_spare : Nat → Int32) : Option ((Nat → Int32) × (Nat → Int32) × (Nat → Int32) × (Nat → Int32)) :=
  Option.bind (jf_Su_shearAll_L2 v_squares v_right v_up jF 0 v_spare) (fun q_2 => Option.bind (jf_Su_shearAll_L35 v_squares q_2 jF 0 v_up) (fun q_4 => Option.bind (jf_Su_glueBack v_squares v_right q_4 v_left v_down) (fun q_5 => some (q_4, q_5.1, q_5.2, q_2))))
abbrev jr_Su_shearAll : Room := { frames := 3, cells := 0, slots := 0, locals := 63 }
set_option maxRecDepth 100000 in
set_option maxHeartbeats 4000000 in
theorem jc_Su_shearAll (l : Launch) (g : jG) (a_this a_this_right a_this_up a_this_left a_this_down a_this_spare a_this_order a_this_number : Nat) (v_numbered : Int32) (v_squares : Int32) (v_right : Nat → Int32) (v_up : Nat → Int32) (v_left : Nat → Int32) (v_down : Nat → Int32) (v_spare : Nat → Int32) (v_order : Nat → Int32) (v_number : Nat → Int32) (R : (Nat → Int32) × (Nat → Int32) × (Nat → Int32) × (Nat → Int32)) (hR : jf_Su_shearAll v_squares v_right v_up v_left v_down v_spare = some R) (sz : Nat) : Met l yX5_shearAll wsX5_shearAll jr_Su_shearAll (jPw g [.ref a_this] (jw_Su g a_this a_this_right a_this_up a_this_left a_this_down a_this_spare a_this_order a_this_number v_numbered v_squares v_right v_up v_left v_down v_spare v_order v_number) sz) (jQv g (jw_Su g a_this a_this_right a_this_up a_this_left a_this_down a_this_spare a_this_order a_this_number v_numbered v_squares v_right R.1 R.2.1 R.2.2.1 R.2.2.2 v_order v_number) (va_A (jw_Su g a_this a_this_right a_this_up a_this_left a_this_down a_this_spare a_this_order a_this_number v_numbered v_squares v_right v_up v_left v_down v_spare v_order v_number) sz)) 0 0 (va_A (jw_Su g a_this a_this_right a_this_up a_this_left a_this_down a_this_spare a_this_order a_this_number v_numbered v_squares v_right v_up v_left v_down v_spare v_order v_number) sz) := by
  refine jm_wv (cc := cX5_shearAll) (maxL := 2) (by decide +kernel) rfl (Nat.le_of_ble_eq_true rfl) ?_
  intro p e s m below meth c A Q hx hb hml hown hts hK hP hD hA hS fin ls hl
  have hl : lv_has ls 2 [(0, .ref a_this)] := hl
  have hown : s.vm.findClass RX5 = some m.cls := hown
  have w_X5 : ∀ w ∈ u_ws RX5 TX5 9, w ∈ wsX5_shearAll := by decide +kernel
  have w_f37 := hts (.fieldLink RX5 37 "Billiardry$Surface" "squares" "I") (by decide +kernel)
  have w_f24 := hts (.fieldLink RX5 24 "Billiardry$Surface" "spare" "[I") (by decide +kernel)
  have w_f15 := hts (.fieldLink RX5 15 "Billiardry$Surface" "up" "[I") (by decide +kernel)
  have L2 : ∀ (n : Nat) (v_up : Nat → Int32) (v_left : Nat → Int32) (v_down : Nat → Int32) (z1 : Int32) (v_spare : Nat → Int32) (H : Heap) (locs : List Loc), va_P g.1 vwCl (jw_Su g a_this a_this_right a_this_up a_this_left a_this_down a_this_spare a_this_order a_this_number v_numbered v_squares v_right v_up v_left v_down v_spare v_order v_number) H → va_S A s.heap H locs → ∀ (ls : Array Slot), lv_has ls 2 [(0, .ref a_this), (1, .int z1)] → ∀ q, jf_Su_shearAll_L2 v_squares v_right v_up n z1 v_spare = some q → (∀ (H : Heap) (locs : List Loc), va_P g.1 vwCl (jw_Su g a_this a_this_right a_this_up a_this_left a_this_down a_this_spare a_this_order a_this_number v_numbered v_squares v_right v_up v_left v_down q v_order v_number) H → va_S A s.heap H locs → ∀ ls : Array Slot, lv_has ls 2 [(0, .ref a_this)] → W p l e jr_Su_shearAll s m ([.ref a_this] : List Value).toArray below meth c H locs 0 0 Q (F0 m 33 ls [])) → W p l e jr_Su_shearAll s m ([.ref a_this] : List Value).toArray below meth c H locs 0 0 Q (F0 m 2 ls []) := by
    intro n v_up v_left v_down
    induction n with
    | zero =>
      intro z1 v_spare H locs hP hS ls hl q hR k
      cases hR
    | succ n ih =>
      intro z1 v_spare H locs hP hS ls hl q hR k
      rw [jf_Su_shearAll_L2] at hR
      refine lv_iload_n hx hb dX5_shearAll_2 rfl (lv_at hl 1 rfl) ?_
      refine lv_aload_n hx hb dX5_shearAll_3 rfl (lv_at hl 0 rfl) ?_
      refine va_get (D := g.1) (ci := 5) (v := .int v_squares) (C := RX5) (T := TX5) (N := 9) hx hb hts w_X5 hown hK.1 hP 0 rfl rfl 8 (by decide) w_f37 (fun _ h9 => h9) rfl dX5_shearAll_4 ?_
      refine lv_icmp_ge (tgt := 33) hx hb dX5_shearAll_7 (by decide) (fun c_1 => ?_) (fun c_1 => ?_)
      · replace hR := Eq.trans (Eq.symm (if_pos c_1)) hR
        cases hR
        exact k _ _ hP hS _ (lv_sub hl [0] rfl)
      · replace hR := Eq.trans (Eq.symm (if_neg c_1)) hR
        refine lv_aload_n hx hb dX5_shearAll_10 rfl (lv_at hl 0 rfl) ?_
        refine va_get (D := g.1) (ci := 5) (v := .ref a_this_spare) (C := RX5) (T := TX5) (N := 9) hx hb hts w_X5 hown hK.1 hP 0 rfl rfl 4 (by decide) w_f24 (fun _ h9 => h9) rfl dX5_shearAll_11 ?_
        refine lv_iload_n hx hb dX5_shearAll_14 rfl (lv_at hl 1 rfl) ?_
        refine lv_aload_n hx hb dX5_shearAll_15 rfl (lv_at hl 0 rfl) ?_
        refine lv_aload_n hx hb dX5_shearAll_16 rfl (lv_at hl 0 rfl) ?_
        refine lv_iload_n hx hb dX5_shearAll_17 rfl (lv_at hl 1 rfl) ?_
        refine jcall_ri (va_runV (As := [.int z1]) (rest := [.ref a_this, .int z1, .ref a_this_spare]) ⟨hx, hb, hml, hown, hts⟩ (jc_Su_rightOf l g a_this a_this_right a_this_up a_this_left a_this_down a_this_spare a_this_order a_this_number v_numbered v_squares v_right v_up v_left v_down v_spare v_order v_number z1 _ rfl) (cwV 1 hts gX5_shearAll_X5_rightOf rfl rfl rfl (by decide +kernel) ⟨Nat.le_of_ble_eq_true rfl, Nat.le_of_ble_eq_true rfl⟩) (jpr_v hK hP (ci := 5) (q0 := 0) rfl rfl) rfl rfl hl.1 rfl (lv_room (Nat.le_of_ble_eq_true rfl)) dX5_shearAll_18 ⟨Nat.zero_le _, Nat.zero_le _⟩) ?_
        refine jcall_ri (va_runV (As := [.int (jf_Su_rightOf v_right z1)]) (rest := [.int z1, .ref a_this_spare]) ⟨hx, hb, hml, hown, hts⟩ (jc_Su_upOf l g a_this a_this_right a_this_up a_this_left a_this_down a_this_spare a_this_order a_this_number v_numbered v_squares v_right v_up v_left v_down v_spare v_order v_number (jf_Su_rightOf v_right z1) _ rfl) (cwV 1 hts gX5_shearAll_X5_upOf rfl rfl rfl (by decide +kernel) ⟨Nat.le_of_ble_eq_true rfl, Nat.le_of_ble_eq_true rfl⟩) (jpr_v hK hP (ci := 5) (q0 := 0) rfl rfl) rfl rfl hl.1 rfl (lv_room (Nat.le_of_ble_eq_true rfl)) dX5_shearAll_21 ⟨Nat.zero_le _, Nat.zero_le _⟩) ?_
        obtain ⟨q_1, hq_1, hR⟩ := jlet_b hR
        try dsimp only at hR
        refine jcall_wv (ws' := jw_Su g a_this a_this_right a_this_up a_this_left a_this_down a_this_spare a_this_order a_this_number v_numbered v_squares v_right v_up v_left v_down q_1 v_order v_number) (va_runSN (As := [.ref a_this_spare, .int z1, .int (jf_Su_upOf v_up (jf_Su_rightOf v_right z1))]) (rest := []) ⟨hx, hb, hml, hown, hts⟩ (jc_Bi_put_t l g a_this_spare 5 (Nat.le_of_ble_eq_true rfl) v_spare z1 (jf_Su_upOf v_up (jf_Su_rightOf v_right z1)) _ hq_1 _) ⟨va_cnB 3 hts gX5_shearAll_X6_put_n40 rfl rfl rfl (jN_at (q := (RX5, 40, yX6_put)) hK.2 17 rfl) (hts (.initialized RX6) (by decide +kernel)) (by decide +kernel) ⟨Nat.le_of_ble_eq_true rfl, Nat.le_of_ble_eq_true rfl⟩, hts (.static yX6_put) (by decide +kernel), trivial⟩ (jpw_s hK (hP.sub (ws' := jw_arI g a_this_spare 5 v_spare) [5] rfl) ((jD_to (ws' := jw_Su g a_this a_this_right a_this_up a_this_left a_this_down a_this_spare a_this_order a_this_number v_numbered v_squares v_right v_up v_left v_down v_spare v_order v_number) hD rfl).sub [5] (by decide) rfl)) rfl rfl hl.1 rfl (lv_room (Nat.le_of_ble_eq_true rfl)) dX5_shearAll_24 ⟨Nat.zero_le _, Nat.zero_le _⟩) hP (jD_to hD rfl) hS hA [5] [0, 1, 2, 3, 4, 6, 7] [0, 1, 2, 3, 4, 7, 5, 6] rfl (by decide) rfl (fun H locs hP hS => ?_)
        refine lv_iinc (v := z1 + 1) (lv' := [(1, .int (z1 + 1)), (0, .ref a_this)]) hx hb dX5_shearAll_27 hl (k := 1) rfl (by first | rfl | decide) (by decide) rfl (fun ls hl => ?_)
        refine lv_goto (tgt := 2) hx hb dX5_shearAll_30 (by decide) ?_
        exact ih (z1 + 1) q_1 _ _ hP hS _ (lv_sub hl [1, 0] rfl) _ hR k
  have L35 : ∀ (n : Nat) (v_left : Nat → Int32) (v_down : Nat → Int32) (v_spare : Nat → Int32) (z1 : Int32) (v_up : Nat → Int32) (H : Heap) (locs : List Loc), va_P g.1 vwCl (jw_Su g a_this a_this_right a_this_up a_this_left a_this_down a_this_spare a_this_order a_this_number v_numbered v_squares v_right v_up v_left v_down v_spare v_order v_number) H → va_S A s.heap H locs → ∀ (ls : Array Slot), lv_has ls 2 [(0, .ref a_this), (1, .int z1)] → ∀ q, jf_Su_shearAll_L35 v_squares v_spare n z1 v_up = some q → (∀ (H : Heap) (locs : List Loc), va_P g.1 vwCl (jw_Su g a_this a_this_right a_this_up a_this_left a_this_down a_this_spare a_this_order a_this_number v_numbered v_squares v_right q v_left v_down v_spare v_order v_number) H → va_S A s.heap H locs → ∀ ls : Array Slot, lv_has ls 2 [(0, .ref a_this)] → W p l e jr_Su_shearAll s m ([.ref a_this] : List Value).toArray below meth c H locs 0 0 Q (F0 m 65 ls [])) → W p l e jr_Su_shearAll s m ([.ref a_this] : List Value).toArray below meth c H locs 0 0 Q (F0 m 35 ls []) := by
    intro n v_left v_down v_spare
    induction n with
    | zero =>
      intro z1 v_up H locs hP hS ls hl q hR k
      cases hR
    | succ n ih =>
      intro z1 v_up H locs hP hS ls hl q hR k
      rw [jf_Su_shearAll_L35] at hR
      refine lv_iload_n hx hb dX5_shearAll_35 rfl (lv_at hl 1 rfl) ?_
      refine lv_aload_n hx hb dX5_shearAll_36 rfl (lv_at hl 0 rfl) ?_
      refine va_get (D := g.1) (ci := 5) (v := .int v_squares) (C := RX5) (T := TX5) (N := 9) hx hb hts w_X5 hown hK.1 hP 0 rfl rfl 8 (by decide) w_f37 (fun _ h9 => h9) rfl dX5_shearAll_37 ?_
      refine lv_icmp_ge (tgt := 65) hx hb dX5_shearAll_40 (by decide) (fun c_2 => ?_) (fun c_2 => ?_)
      · replace hR := Eq.trans (Eq.symm (if_pos c_2)) hR
        cases hR
        exact k _ _ hP hS _ (lv_sub hl [0] rfl)
      · replace hR := Eq.trans (Eq.symm (if_neg c_2)) hR
        refine lv_aload_n hx hb dX5_shearAll_43 rfl (lv_at hl 0 rfl) ?_
        refine va_get (D := g.1) (ci := 5) (v := .ref a_this_up) (C := RX5) (T := TX5) (N := 9) hx hb hts w_X5 hown hK.1 hP 0 rfl rfl 1 (by decide) w_f15 (fun _ h9 => h9) rfl dX5_shearAll_44 ?_
        refine lv_iload_n hx hb dX5_shearAll_47 rfl (lv_at hl 1 rfl) ?_
        refine lv_aload_n hx hb dX5_shearAll_48 rfl (lv_at hl 0 rfl) ?_
        refine va_get (D := g.1) (ci := 5) (v := .ref a_this_spare) (C := RX5) (T := TX5) (N := 9) hx hb hts w_X5 hown hK.1 hP 0 rfl rfl 4 (by decide) w_f24 (fun _ h9 => h9) rfl dX5_shearAll_49 ?_
        refine lv_iload_n hx hb dX5_shearAll_52 rfl (lv_at hl 1 rfl) ?_
        refine jcall_ri (va_runSN (As := [.ref a_this_spare, .int z1]) (rest := [.int z1, .ref a_this_up]) ⟨hx, hb, hml, hown, hts⟩ (jc_Bi_at_t l g a_this_spare 5 (Nat.le_of_ble_eq_true rfl) v_spare z1 _ rfl) ⟨va_cnB 2 hts gX5_shearAll_X6_at_n54 rfl rfl rfl (jN_at (q := (RX5, 54, yX6_at)) hK.2 18 rfl) (hts (.initialized RX6) (by decide +kernel)) (by decide +kernel) ⟨Nat.le_of_ble_eq_true rfl, Nat.le_of_ble_eq_true rfl⟩, hts (.static yX6_at) (by decide +kernel), trivial⟩ (jpr_s hK (hP.sub (ws' := jw_arI g a_this_spare 5 v_spare) [5] rfl)) rfl rfl hl.1 rfl (lv_room (Nat.le_of_ble_eq_true rfl)) dX5_shearAll_53 ⟨Nat.zero_le _, Nat.zero_le _⟩) ?_
        obtain ⟨q_3, hq_3, hR⟩ := jlet_b hR
        try dsimp only at hR
        refine jcall_wv (ws' := jw_Su g a_this a_this_right a_this_up a_this_left a_this_down a_this_spare a_this_order a_this_number v_numbered v_squares v_right q_3 v_left v_down v_spare v_order v_number) (va_runSN (As := [.ref a_this_up, .int z1, .int (jat 5 v_spare z1)]) (rest := []) ⟨hx, hb, hml, hown, hts⟩ (jc_Bi_put_t l g a_this_up 5 (Nat.le_of_ble_eq_true rfl) v_up z1 (jat 5 v_spare z1) _ hq_3 _) ⟨va_cnB 3 hts gX5_shearAll_X6_put_n40 rfl rfl rfl (jN_at (q := (RX5, 40, yX6_put)) hK.2 17 rfl) (hts (.initialized RX6) (by decide +kernel)) (by decide +kernel) ⟨Nat.le_of_ble_eq_true rfl, Nat.le_of_ble_eq_true rfl⟩, hts (.static yX6_put) (by decide +kernel), trivial⟩ (jpw_s hK (hP.sub (ws' := jw_arI g a_this_up 5 v_up) [2] rfl) ((jD_to (ws' := jw_Su g a_this a_this_right a_this_up a_this_left a_this_down a_this_spare a_this_order a_this_number v_numbered v_squares v_right v_up v_left v_down v_spare v_order v_number) hD rfl).sub [2] (by decide) rfl)) rfl rfl hl.1 rfl (lv_room (Nat.le_of_ble_eq_true rfl)) dX5_shearAll_56 ⟨Nat.zero_le _, Nat.zero_le _⟩) hP (jD_to hD rfl) hS hA [2] [0, 1, 3, 4, 5, 6, 7] [0, 1, 7, 2, 3, 4, 5, 6] rfl (by decide) rfl (fun H locs hP hS => ?_)
        refine lv_iinc (v := z1 + 1) (lv' := [(1, .int (z1 + 1)), (0, .ref a_this)]) hx hb dX5_shearAll_59 hl (k := 1) rfl (by first | rfl | decide) (by decide) rfl (fun ls hl => ?_)
        refine lv_goto (tgt := 35) hx hb dX5_shearAll_62 (by decide) ?_
        exact ih (z1 + 1) q_3 _ _ hP hS _ (lv_sub hl [1, 0] rfl) _ hR k
  rw [jf_Su_shearAll] at hR
  refine lv_iconst (v := 0) hx hb dX5_shearAll_0 (by decide) ?_
  refine lv_istore_n (lv' := [(1, .int 0), (0, .ref a_this)]) hx hb dX5_shearAll_1 rfl hl (by decide) rfl (fun ls hl => ?_)
  obtain ⟨q_2, hq_2, hR⟩ := jbind hR
  try dsimp only at hR
  refine L2 jF v_up v_left v_down 0 v_spare _ _ hP hS _ (lv_sub hl [1, 0] rfl) _ hq_2 (fun H locs hP hS ls hl => ?_)
  refine lv_iconst (v := 0) hx hb dX5_shearAll_33 (by decide) ?_
  refine lv_istore_n (lv' := [(1, .int 0), (0, .ref a_this)]) hx hb dX5_shearAll_34 rfl hl (by decide) rfl (fun ls hl => ?_)
  obtain ⟨q_4, hq_4, hR⟩ := jbind hR
  try dsimp only at hR
  refine L35 jF v_left v_down q_2 0 v_up _ _ hP hS _ (lv_sub hl [1, 0] rfl) _ hq_4 (fun H locs hP hS ls hl => ?_)
  refine lv_aload_n hx hb dX5_shearAll_65 rfl (lv_at hl 0 rfl) ?_
  obtain ⟨q_5, hq_5, hR⟩ := jbind hR
  try dsimp only at hR
  refine jcall_wv (ws' := jw_Su g a_this a_this_right a_this_up a_this_left a_this_down a_this_spare a_this_order a_this_number v_numbered v_squares v_right q_4 q_5.1 q_5.2 q_2 v_order v_number) (va_runV (As := []) (rest := []) ⟨hx, hb, hml, hown, hts⟩ (jc_Su_glueBack l g a_this a_this_right a_this_up a_this_left a_this_down a_this_spare a_this_order a_this_number v_numbered v_squares v_right q_4 v_left v_down q_2 v_order v_number _ hq_5 _) (cwV 0 hts gX5_shearAll_X5_glueBack rfl rfl rfl (by decide +kernel) ⟨Nat.le_of_ble_eq_true rfl, Nat.le_of_ble_eq_true rfl⟩) (jpw_v hK hP (jD_to hD rfl) (ci := 5) (q0 := 0) rfl rfl) rfl rfl hl.1 rfl (lv_room (Nat.le_of_ble_eq_true rfl)) dX5_shearAll_66 ⟨Nat.zero_le _, Nat.zero_le _⟩) hP (jD_to hD rfl) hS hA [0, 1, 2, 3, 4, 5, 6, 7] [] [0, 1, 2, 3, 4, 5, 6, 7] rfl (by decide) rfl (fun H locs hP hS => ?_)
  obtain rfl := (Option.some.inj hR)
  exact fin _ _ _ _ hP hS dX5_shearAll_69
def jf_Su_turnAll_L2 (v_squares : Int32) (v_left : Nat → Int32) : Nat → Int32 → (Nat → Int32) → Option (Nat → Int32)
  | 0, _, _ => none
  | n + 1, z1, v_spare =>
    if v_squares ≤ z1 then (some v_spare) else (jlet (jput 5 v_spare z1 (jf_Su_leftOf v_left z1)) (fun q_1 => (jf_Su_turnAll_L2 v_squares v_left n) (z1 + 1) q_1))
def jf_Su_turnAll_L31 (v_squares : Int32) (v_spare : Nat → Int32) : Nat → Int32 → (Nat → Int32) → (Nat → Int32) → Option ((Nat → Int32) × (Nat → Int32))
  | 0, _, _, _ => none
  | n + 1, z1, v_right, v_up =>
    if v_squares ≤ z1 then (some (v_right, v_up)) else (jlet (jput 5 v_right z1 (jf_Su_upOf v_up z1)) (fun q_3 => jlet (jput 5 v_up z1 (jat 5 v_spare z1)) (fun q_4 => (jf_Su_turnAll_L31 v_squares v_spare n) (z1 + 1) q_3 q_4)))
def jf_Su_turnAll (v_squares : Int32) (v_right : Nat → Int32) (v_up : Nat → Int32) (v_left : Nat → Int32) (v_down : Nat → Int32) (v_spare : Nat → Int32) : Option ((Nat → Int32) × (Nat → Int32) × (Nat → Int32) × (Nat → Int32) × (Nat → Int32)) :=
  Option.bind (jf_Su_turnAll_L2 v_squares v_left jF 0 v_spare) (fun q_2 => Option.bind (jf_Su_turnAll_L31 v_squares q_2 jF 0 v_right v_up) (fun q_5 => Option.bind (jf_Su_glueBack v_squares q_5.1 q_5.2 v_left v_down) (fun q_6 => some (q_5.1, q_5.2, q_6.1, q_6.2, q_2))))
abbrev jr_Su_turnAll : Room := { frames := 3, cells := 0, slots := 0, locals := 63 }
set_option maxRecDepth 100000 in
set_option maxHeartbeats 4000000 in
theorem jc_Su_turnAll (l : Launch) (g : jG) (a_this a_this_right a_this_up a_this_left a_this_down a_this_spare a_this_order a_this_number : Nat) (v_numbered : Int32) (v_squares : Int32) (v_right : Nat → Int32) (v_up : Nat → Int32) (v_left : Nat → Int32) (v_down : Nat → Int32) (v_spare : Nat → Int32) (v_order : Nat → Int32) (v_number : Nat → Int32) (R : (Nat → Int32) × (Nat → Int32) × (Nat → Int32) × (Nat → Int32) × (Nat → Int32)) (hR : jf_Su_turnAll v_squares v_right v_up v_left v_down v_spare = some R) (sz : Nat) : Met l yX5_turnAll wsX5_turnAll jr_Su_turnAll (jPw g [.ref a_this] (jw_Su g a_this a_this_right a_this_up a_this_left a_this_down a_this_spare a_this_order a_this_number v_numbered v_squares v_right v_up v_left v_down v_spare v_order v_number) sz) (jQv g (jw_Su g a_this a_this_right a_this_up a_this_left a_this_down a_this_spare a_this_order a_this_number v_numbered v_squares R.1 R.2.1 R.2.2.1 R.2.2.2.1 R.2.2.2.2 v_order v_number) (va_A (jw_Su g a_this a_this_right a_this_up a_this_left a_this_down a_this_spare a_this_order a_this_number v_numbered v_squares v_right v_up v_left v_down v_spare v_order v_number) sz)) 0 0 (va_A (jw_Su g a_this a_this_right a_this_up a_this_left a_this_down a_this_spare a_this_order a_this_number v_numbered v_squares v_right v_up v_left v_down v_spare v_order v_number) sz) := by
  refine jm_wv (cc := cX5_turnAll) (maxL := 2) (by decide +kernel) rfl (Nat.le_of_ble_eq_true rfl) ?_
  intro p e s m below meth c A Q hx hb hml hown hts hK hP hD hA hS fin ls hl
  have hl : lv_has ls 2 [(0, .ref a_this)] := hl
  have hown : s.vm.findClass RX5 = some m.cls := hown
  have w_X5 : ∀ w ∈ u_ws RX5 TX5 9, w ∈ wsX5_turnAll := by decide +kernel
  have w_f37 := hts (.fieldLink RX5 37 "Billiardry$Surface" "squares" "I") (by decide +kernel)
  have w_f24 := hts (.fieldLink RX5 24 "Billiardry$Surface" "spare" "[I") (by decide +kernel)
  have w_f9 := hts (.fieldLink RX5 9 "Billiardry$Surface" "right" "[I") (by decide +kernel)
  have w_f15 := hts (.fieldLink RX5 15 "Billiardry$Surface" "up" "[I") (by decide +kernel)
  have L2 : ∀ (n : Nat) (v_right : Nat → Int32) (v_up : Nat → Int32) (v_left : Nat → Int32) (v_down : Nat → Int32) (z1 : Int32) (v_spare : Nat → Int32) (H : Heap) (locs : List Loc), va_P g.1 vwCl (jw_Su g a_this a_this_right a_this_up a_this_left a_this_down a_this_spare a_this_order a_this_number v_numbered v_squares v_right v_up v_left v_down v_spare v_order v_number) H → va_S A s.heap H locs → ∀ (ls : Array Slot), lv_has ls 2 [(0, .ref a_this), (1, .int z1)] → ∀ q, jf_Su_turnAll_L2 v_squares v_left n z1 v_spare = some q → (∀ (H : Heap) (locs : List Loc), va_P g.1 vwCl (jw_Su g a_this a_this_right a_this_up a_this_left a_this_down a_this_spare a_this_order a_this_number v_numbered v_squares v_right v_up v_left v_down q v_order v_number) H → va_S A s.heap H locs → ∀ ls : Array Slot, lv_has ls 2 [(0, .ref a_this)] → W p l e jr_Su_turnAll s m ([.ref a_this] : List Value).toArray below meth c H locs 0 0 Q (F0 m 29 ls [])) → W p l e jr_Su_turnAll s m ([.ref a_this] : List Value).toArray below meth c H locs 0 0 Q (F0 m 2 ls []) := by
    intro n v_right v_up v_left v_down
    induction n with
    | zero =>
      intro z1 v_spare H locs hP hS ls hl q hR k
      cases hR
    | succ n ih =>
      intro z1 v_spare H locs hP hS ls hl q hR k
      rw [jf_Su_turnAll_L2] at hR
      refine lv_iload_n hx hb dX5_turnAll_2 rfl (lv_at hl 1 rfl) ?_
      refine lv_aload_n hx hb dX5_turnAll_3 rfl (lv_at hl 0 rfl) ?_
      refine va_get (D := g.1) (ci := 5) (v := .int v_squares) (C := RX5) (T := TX5) (N := 9) hx hb hts w_X5 hown hK.1 hP 0 rfl rfl 8 (by decide) w_f37 (fun _ h9 => h9) rfl dX5_turnAll_4 ?_
      refine lv_icmp_ge (tgt := 29) hx hb dX5_turnAll_7 (by decide) (fun c_1 => ?_) (fun c_1 => ?_)
      · replace hR := Eq.trans (Eq.symm (if_pos c_1)) hR
        cases hR
        exact k _ _ hP hS _ (lv_sub hl [0] rfl)
      · replace hR := Eq.trans (Eq.symm (if_neg c_1)) hR
        refine lv_aload_n hx hb dX5_turnAll_10 rfl (lv_at hl 0 rfl) ?_
        refine va_get (D := g.1) (ci := 5) (v := .ref a_this_spare) (C := RX5) (T := TX5) (N := 9) hx hb hts w_X5 hown hK.1 hP 0 rfl rfl 4 (by decide) w_f24 (fun _ h9 => h9) rfl dX5_turnAll_11 ?_
        refine lv_iload_n hx hb dX5_turnAll_14 rfl (lv_at hl 1 rfl) ?_
        refine lv_aload_n hx hb dX5_turnAll_15 rfl (lv_at hl 0 rfl) ?_
        refine lv_iload_n hx hb dX5_turnAll_16 rfl (lv_at hl 1 rfl) ?_
        refine jcall_ri (va_runV (As := [.int z1]) (rest := [.int z1, .ref a_this_spare]) ⟨hx, hb, hml, hown, hts⟩ (jc_Su_leftOf l g a_this a_this_right a_this_up a_this_left a_this_down a_this_spare a_this_order a_this_number v_numbered v_squares v_right v_up v_left v_down v_spare v_order v_number z1 _ rfl) (cwV 1 hts gX5_turnAll_X5_leftOf rfl rfl rfl (by decide +kernel) ⟨Nat.le_of_ble_eq_true rfl, Nat.le_of_ble_eq_true rfl⟩) (jpr_v hK hP (ci := 5) (q0 := 0) rfl rfl) rfl rfl hl.1 rfl (lv_room (Nat.le_of_ble_eq_true rfl)) dX5_turnAll_17 ⟨Nat.zero_le _, Nat.zero_le _⟩) ?_
        obtain ⟨q_1, hq_1, hR⟩ := jlet_b hR
        try dsimp only at hR
        refine jcall_wv (ws' := jw_Su g a_this a_this_right a_this_up a_this_left a_this_down a_this_spare a_this_order a_this_number v_numbered v_squares v_right v_up v_left v_down q_1 v_order v_number) (va_runSN (As := [.ref a_this_spare, .int z1, .int (jf_Su_leftOf v_left z1)]) (rest := []) ⟨hx, hb, hml, hown, hts⟩ (jc_Bi_put_t l g a_this_spare 5 (Nat.le_of_ble_eq_true rfl) v_spare z1 (jf_Su_leftOf v_left z1) _ hq_1 _) ⟨va_cnB 3 hts gX5_turnAll_X6_put_n40 rfl rfl rfl (jN_at (q := (RX5, 40, yX6_put)) hK.2 17 rfl) (hts (.initialized RX6) (by decide +kernel)) (by decide +kernel) ⟨Nat.le_of_ble_eq_true rfl, Nat.le_of_ble_eq_true rfl⟩, hts (.static yX6_put) (by decide +kernel), trivial⟩ (jpw_s hK (hP.sub (ws' := jw_arI g a_this_spare 5 v_spare) [5] rfl) ((jD_to (ws' := jw_Su g a_this a_this_right a_this_up a_this_left a_this_down a_this_spare a_this_order a_this_number v_numbered v_squares v_right v_up v_left v_down v_spare v_order v_number) hD rfl).sub [5] (by decide) rfl)) rfl rfl hl.1 rfl (lv_room (Nat.le_of_ble_eq_true rfl)) dX5_turnAll_20 ⟨Nat.zero_le _, Nat.zero_le _⟩) hP (jD_to hD rfl) hS hA [5] [0, 1, 2, 3, 4, 6, 7] [0, 1, 2, 3, 4, 7, 5, 6] rfl (by decide) rfl (fun H locs hP hS => ?_)
        refine lv_iinc (v := z1 + 1) (lv' := [(1, .int (z1 + 1)), (0, .ref a_this)]) hx hb dX5_turnAll_23 hl (k := 1) rfl (by first | rfl | decide) (by decide) rfl (fun ls hl => ?_)
        refine lv_goto (tgt := 2) hx hb dX5_turnAll_26 (by decide) ?_
        exact ih (z1 + 1) q_1 _ _ hP hS _ (lv_sub hl [1, 0] rfl) _ hR k
  have L31 : ∀ (n : Nat) (v_left : Nat → Int32) (v_down : Nat → Int32) (v_spare : Nat → Int32) (z1 : Int32) (v_right : Nat → Int32) (v_up : Nat → Int32) (H : Heap) (locs : List Loc), va_P g.1 vwCl (jw_Su g a_this a_this_right a_this_up a_this_left a_this_down a_this_spare a_this_order a_this_number v_numbered v_squares v_right v_up v_left v_down v_spare v_order v_number) H → va_S A s.heap H locs → ∀ (ls : Array Slot), lv_has ls 2 [(0, .ref a_this), (1, .int z1)] → ∀ q, jf_Su_turnAll_L31 v_squares v_spare n z1 v_right v_up = some q → (∀ (H : Heap) (locs : List Loc), va_P g.1 vwCl (jw_Su g a_this a_this_right a_this_up a_this_left a_this_down a_this_spare a_this_order a_this_number v_numbered v_squares q.1 q.2 v_left v_down v_spare v_order v_number) H → va_S A s.heap H locs → ∀ ls : Array Slot, lv_has ls 2 [(0, .ref a_this)] → W p l e jr_Su_turnAll s m ([.ref a_this] : List Value).toArray below meth c H locs 0 0 Q (F0 m 74 ls [])) → W p l e jr_Su_turnAll s m ([.ref a_this] : List Value).toArray below meth c H locs 0 0 Q (F0 m 31 ls []) := by
    intro n v_left v_down v_spare
    induction n with
    | zero =>
      intro z1 v_right v_up H locs hP hS ls hl q hR k
      cases hR
    | succ n ih =>
      intro z1 v_right v_up H locs hP hS ls hl q hR k
      rw [jf_Su_turnAll_L31] at hR
      refine lv_iload_n hx hb dX5_turnAll_31 rfl (lv_at hl 1 rfl) ?_
      refine lv_aload_n hx hb dX5_turnAll_32 rfl (lv_at hl 0 rfl) ?_
      refine va_get (D := g.1) (ci := 5) (v := .int v_squares) (C := RX5) (T := TX5) (N := 9) hx hb hts w_X5 hown hK.1 hP 0 rfl rfl 8 (by decide) w_f37 (fun _ h9 => h9) rfl dX5_turnAll_33 ?_
      refine lv_icmp_ge (tgt := 74) hx hb dX5_turnAll_36 (by decide) (fun c_2 => ?_) (fun c_2 => ?_)
      · replace hR := Eq.trans (Eq.symm (if_pos c_2)) hR
        cases hR
        exact k _ _ hP hS _ (lv_sub hl [0] rfl)
      · replace hR := Eq.trans (Eq.symm (if_neg c_2)) hR
        refine lv_aload_n hx hb dX5_turnAll_39 rfl (lv_at hl 0 rfl) ?_
        refine va_get (D := g.1) (ci := 5) (v := .ref a_this_right) (C := RX5) (T := TX5) (N := 9) hx hb hts w_X5 hown hK.1 hP 0 rfl rfl 0 (by decide) w_f9 (fun _ h9 => h9) rfl dX5_turnAll_40 ?_
        refine lv_iload_n hx hb dX5_turnAll_43 rfl (lv_at hl 1 rfl) ?_
        refine lv_aload_n hx hb dX5_turnAll_44 rfl (lv_at hl 0 rfl) ?_
        refine lv_iload_n hx hb dX5_turnAll_45 rfl (lv_at hl 1 rfl) ?_
        refine jcall_ri (va_runV (As := [.int z1]) (rest := [.int z1, .ref a_this_right]) ⟨hx, hb, hml, hown, hts⟩ (jc_Su_upOf l g a_this a_this_right a_this_up a_this_left a_this_down a_this_spare a_this_order a_this_number v_numbered v_squares v_right v_up v_left v_down v_spare v_order v_number z1 _ rfl) (cwV 1 hts gX5_turnAll_X5_upOf rfl rfl rfl (by decide +kernel) ⟨Nat.le_of_ble_eq_true rfl, Nat.le_of_ble_eq_true rfl⟩) (jpr_v hK hP (ci := 5) (q0 := 0) rfl rfl) rfl rfl hl.1 rfl (lv_room (Nat.le_of_ble_eq_true rfl)) dX5_turnAll_46 ⟨Nat.zero_le _, Nat.zero_le _⟩) ?_
        obtain ⟨q_3, hq_3, hR⟩ := jlet_b hR
        try dsimp only at hR
        refine jcall_wv (ws' := jw_Su g a_this a_this_right a_this_up a_this_left a_this_down a_this_spare a_this_order a_this_number v_numbered v_squares q_3 v_up v_left v_down v_spare v_order v_number) (va_runSN (As := [.ref a_this_right, .int z1, .int (jf_Su_upOf v_up z1)]) (rest := []) ⟨hx, hb, hml, hown, hts⟩ (jc_Bi_put_t l g a_this_right 5 (Nat.le_of_ble_eq_true rfl) v_right z1 (jf_Su_upOf v_up z1) _ hq_3 _) ⟨va_cnB 3 hts gX5_turnAll_X6_put_n40 rfl rfl rfl (jN_at (q := (RX5, 40, yX6_put)) hK.2 17 rfl) (hts (.initialized RX6) (by decide +kernel)) (by decide +kernel) ⟨Nat.le_of_ble_eq_true rfl, Nat.le_of_ble_eq_true rfl⟩, hts (.static yX6_put) (by decide +kernel), trivial⟩ (jpw_s hK (hP.sub (ws' := jw_arI g a_this_right 5 v_right) [1] rfl) ((jD_to (ws' := jw_Su g a_this a_this_right a_this_up a_this_left a_this_down a_this_spare a_this_order a_this_number v_numbered v_squares v_right v_up v_left v_down v_spare v_order v_number) hD rfl).sub [1] (by decide) rfl)) rfl rfl hl.1 rfl (lv_room (Nat.le_of_ble_eq_true rfl)) dX5_turnAll_49 ⟨Nat.zero_le _, Nat.zero_le _⟩) hP (jD_to hD rfl) hS hA [1] [0, 2, 3, 4, 5, 6, 7] [0, 7, 1, 2, 3, 4, 5, 6] rfl (by decide) rfl (fun H locs hP hS => ?_)
        refine lv_aload_n hx hb dX5_turnAll_52 rfl (lv_at hl 0 rfl) ?_
        refine va_get (D := g.1) (ci := 5) (v := .ref a_this_up) (C := RX5) (T := TX5) (N := 9) hx hb hts w_X5 hown hK.1 hP 0 rfl rfl 1 (by decide) w_f15 (fun _ h9 => h9) rfl dX5_turnAll_53 ?_
        refine lv_iload_n hx hb dX5_turnAll_56 rfl (lv_at hl 1 rfl) ?_
        refine lv_aload_n hx hb dX5_turnAll_57 rfl (lv_at hl 0 rfl) ?_
        refine va_get (D := g.1) (ci := 5) (v := .ref a_this_spare) (C := RX5) (T := TX5) (N := 9) hx hb hts w_X5 hown hK.1 hP 0 rfl rfl 4 (by decide) w_f24 (fun _ h9 => h9) rfl dX5_turnAll_58 ?_
        refine lv_iload_n hx hb dX5_turnAll_61 rfl (lv_at hl 1 rfl) ?_
        refine jcall_ri (va_runSN (As := [.ref a_this_spare, .int z1]) (rest := [.int z1, .ref a_this_up]) ⟨hx, hb, hml, hown, hts⟩ (jc_Bi_at_t l g a_this_spare 5 (Nat.le_of_ble_eq_true rfl) v_spare z1 _ rfl) ⟨va_cnB 2 hts gX5_turnAll_X6_at_n54 rfl rfl rfl (jN_at (q := (RX5, 54, yX6_at)) hK.2 18 rfl) (hts (.initialized RX6) (by decide +kernel)) (by decide +kernel) ⟨Nat.le_of_ble_eq_true rfl, Nat.le_of_ble_eq_true rfl⟩, hts (.static yX6_at) (by decide +kernel), trivial⟩ (jpr_s hK (hP.sub (ws' := jw_arI g a_this_spare 5 v_spare) [5] rfl)) rfl rfl hl.1 rfl (lv_room (Nat.le_of_ble_eq_true rfl)) dX5_turnAll_62 ⟨Nat.zero_le _, Nat.zero_le _⟩) ?_
        obtain ⟨q_4, hq_4, hR⟩ := jlet_b hR
        try dsimp only at hR
        refine jcall_wv (ws' := jw_Su g a_this a_this_right a_this_up a_this_left a_this_down a_this_spare a_this_order a_this_number v_numbered v_squares q_3 q_4 v_left v_down v_spare v_order v_number) (va_runSN (As := [.ref a_this_up, .int z1, .int (jat 5 v_spare z1)]) (rest := []) ⟨hx, hb, hml, hown, hts⟩ (jc_Bi_put_t l g a_this_up 5 (Nat.le_of_ble_eq_true rfl) v_up z1 (jat 5 v_spare z1) _ hq_4 _) ⟨va_cnB 3 hts gX5_turnAll_X6_put_n40 rfl rfl rfl (jN_at (q := (RX5, 40, yX6_put)) hK.2 17 rfl) (hts (.initialized RX6) (by decide +kernel)) (by decide +kernel) ⟨Nat.le_of_ble_eq_true rfl, Nat.le_of_ble_eq_true rfl⟩, hts (.static yX6_put) (by decide +kernel), trivial⟩ (jpw_s hK (hP.sub (ws' := jw_arI g a_this_up 5 v_up) [2] rfl) ((jD_to (ws' := jw_Su g a_this a_this_right a_this_up a_this_left a_this_down a_this_spare a_this_order a_this_number v_numbered v_squares q_3 v_up v_left v_down v_spare v_order v_number) hD rfl).sub [2] (by decide) rfl)) rfl rfl hl.1 rfl (lv_room (Nat.le_of_ble_eq_true rfl)) dX5_turnAll_65 ⟨Nat.zero_le _, Nat.zero_le _⟩) hP (jD_to hD rfl) hS hA [2] [0, 1, 3, 4, 5, 6, 7] [0, 1, 7, 2, 3, 4, 5, 6] rfl (by decide) rfl (fun H locs hP hS => ?_)
        refine lv_iinc (v := z1 + 1) (lv' := [(1, .int (z1 + 1)), (0, .ref a_this)]) hx hb dX5_turnAll_68 hl (k := 1) rfl (by first | rfl | decide) (by decide) rfl (fun ls hl => ?_)
        refine lv_goto (tgt := 31) hx hb dX5_turnAll_71 (by decide) ?_
        exact ih (z1 + 1) q_3 q_4 _ _ hP hS _ (lv_sub hl [1, 0] rfl) _ hR k
  rw [jf_Su_turnAll] at hR
  refine lv_iconst (v := 0) hx hb dX5_turnAll_0 (by decide) ?_
  refine lv_istore_n (lv' := [(1, .int 0), (0, .ref a_this)]) hx hb dX5_turnAll_1 rfl hl (by decide) rfl (fun ls hl => ?_)
  obtain ⟨q_2, hq_2, hR⟩ := jbind hR
  try dsimp only at hR
  refine L2 jF v_right v_up v_left v_down 0 v_spare _ _ hP hS _ (lv_sub hl [1, 0] rfl) _ hq_2 (fun H locs hP hS ls hl => ?_)
  refine lv_iconst (v := 0) hx hb dX5_turnAll_29 (by decide) ?_
  refine lv_istore_n (lv' := [(1, .int 0), (0, .ref a_this)]) hx hb dX5_turnAll_30 rfl hl (by decide) rfl (fun ls hl => ?_)
  obtain ⟨q_5, hq_5, hR⟩ := jbind hR
  try dsimp only at hR
  refine L31 jF v_left v_down q_2 0 v_right v_up _ _ hP hS _ (lv_sub hl [1, 0] rfl) _ hq_5 (fun H locs hP hS ls hl => ?_)
  refine lv_aload_n hx hb dX5_turnAll_74 rfl (lv_at hl 0 rfl) ?_
  obtain ⟨q_6, hq_6, hR⟩ := jbind hR
  try dsimp only at hR
  refine jcall_wv (ws' := jw_Su g a_this a_this_right a_this_up a_this_left a_this_down a_this_spare a_this_order a_this_number v_numbered v_squares q_5.1 q_5.2 q_6.1 q_6.2 q_2 v_order v_number) (va_runV (As := []) (rest := []) ⟨hx, hb, hml, hown, hts⟩ (jc_Su_glueBack l g a_this a_this_right a_this_up a_this_left a_this_down a_this_spare a_this_order a_this_number v_numbered v_squares q_5.1 q_5.2 v_left v_down q_2 v_order v_number _ hq_6 _) (cwV 0 hts gX5_turnAll_X5_glueBack rfl rfl rfl (by decide +kernel) ⟨Nat.le_of_ble_eq_true rfl, Nat.le_of_ble_eq_true rfl⟩) (jpw_v hK hP (jD_to hD rfl) (ci := 5) (q0 := 0) rfl rfl) rfl rfl hl.1 rfl (lv_room (Nat.le_of_ble_eq_true rfl)) dX5_turnAll_75 ⟨Nat.zero_le _, Nat.zero_le _⟩) hP (jD_to hD rfl) hS hA [0, 1, 2, 3, 4, 5, 6, 7] [] [0, 1, 2, 3, 4, 5, 6, 7] rfl (by decide) rfl (fun H locs hP hS => ?_)
  obtain rfl := (Option.some.inj hR)
  exact fin _ _ _ _ hP hS dX5_turnAll_78
def jf_Su_roundCorner (v_right : Nat → Int32) (v_up : Nat → Int32) (v_left : Nat → Int32) (v_down : Nat → Int32) (x1 : Int32) : Int32 :=
  (jat 5 v_down (jat 5 v_left (jat 5 v_up (jat 5 v_right x1))))
abbrev jr_Su_roundCorner : Room := { frames := 1, cells := 0, slots := 0, locals := 21 }
set_option maxRecDepth 100000 in
set_option maxHeartbeats 4000000 in
theorem jc_Su_roundCorner (l : Launch) (g : jG) (a_this a_this_right a_this_up a_this_left a_this_down a_this_spare a_this_order a_this_number : Nat) (v_numbered : Int32) (v_squares : Int32) (v_right : Nat → Int32) (v_up : Nat → Int32) (v_left : Nat → Int32) (v_down : Nat → Int32) (v_spare : Nat → Int32) (v_order : Nat → Int32) (v_number : Nat → Int32) (x1 : Int32) (R : Int32) (hR : jf_Su_roundCorner v_right v_up v_left v_down x1 = R) : Met l yX5_roundCorner wsX5_roundCorner jr_Su_roundCorner (jPr g [.ref a_this, .int x1] (jw_Su g a_this a_this_right a_this_up a_this_left a_this_down a_this_spare a_this_order a_this_number v_numbered v_squares v_right v_up v_left v_down v_spare v_order v_number)) (vp_Si (fun r => r = R)) 0 0 (fun _ => False) := by
  refine jm_ri (cc := cX5_roundCorner) (maxL := 2) (by decide +kernel) rfl (Nat.le_of_ble_eq_true rfl) ?_
  intro p e s m below meth c Q hx hb hml hown hts hK hP fin ls hl
  have hl : lv_has ls 2 [(0, .ref a_this), (1, .int x1)] := hl
  have hown : s.vm.findClass RX5 = some m.cls := hown
  have w_X5 : ∀ w ∈ u_ws RX5 TX5 9, w ∈ wsX5_roundCorner := by decide +kernel
  have w_f21 := hts (.fieldLink RX5 21 "Billiardry$Surface" "down" "[I") (by decide +kernel)
  have w_f18 := hts (.fieldLink RX5 18 "Billiardry$Surface" "left" "[I") (by decide +kernel)
  have w_f15 := hts (.fieldLink RX5 15 "Billiardry$Surface" "up" "[I") (by decide +kernel)
  have w_f9 := hts (.fieldLink RX5 9 "Billiardry$Surface" "right" "[I") (by decide +kernel)
  rw [jf_Su_roundCorner] at hR
  refine lv_aload_n hx hb dX5_roundCorner_0 rfl (lv_at hl 0 rfl) ?_
  refine va_get (D := g.1) (ci := 5) (v := .ref a_this_down) (C := RX5) (T := TX5) (N := 9) hx hb hts w_X5 hown hK.1 hP 0 rfl rfl 3 (by decide) w_f21 (fun _ h9 => h9) rfl dX5_roundCorner_1 ?_
  refine lv_aload_n hx hb dX5_roundCorner_4 rfl (lv_at hl 0 rfl) ?_
  refine va_get (D := g.1) (ci := 5) (v := .ref a_this_left) (C := RX5) (T := TX5) (N := 9) hx hb hts w_X5 hown hK.1 hP 0 rfl rfl 2 (by decide) w_f18 (fun _ h9 => h9) rfl dX5_roundCorner_5 ?_
  refine lv_aload_n hx hb dX5_roundCorner_8 rfl (lv_at hl 0 rfl) ?_
  refine va_get (D := g.1) (ci := 5) (v := .ref a_this_up) (C := RX5) (T := TX5) (N := 9) hx hb hts w_X5 hown hK.1 hP 0 rfl rfl 1 (by decide) w_f15 (fun _ h9 => h9) rfl dX5_roundCorner_9 ?_
  refine lv_aload_n hx hb dX5_roundCorner_12 rfl (lv_at hl 0 rfl) ?_
  refine va_get (D := g.1) (ci := 5) (v := .ref a_this_right) (C := RX5) (T := TX5) (N := 9) hx hb hts w_X5 hown hK.1 hP 0 rfl rfl 0 (by decide) w_f9 (fun _ h9 => h9) rfl dX5_roundCorner_13 ?_
  refine lv_iload_n hx hb dX5_roundCorner_16 rfl (lv_at hl 1 rfl) ?_
  refine jcall_ri (va_runSN (As := [.ref a_this_right, .int x1]) (rest := [.ref a_this_up, .ref a_this_left, .ref a_this_down]) ⟨hx, hb, hml, hown, hts⟩ (jc_Bi_at_t l g a_this_right 5 (Nat.le_of_ble_eq_true rfl) v_right x1 _ rfl) ⟨va_cnB 2 hts gX5_roundCorner_X6_at_n54 rfl rfl rfl (jN_at (q := (RX5, 54, yX6_at)) hK.2 18 rfl) (hts (.initialized RX6) (by decide +kernel)) (by decide +kernel) ⟨Nat.le_of_ble_eq_true rfl, Nat.le_of_ble_eq_true rfl⟩, hts (.static yX6_at) (by decide +kernel), trivial⟩ (jpr_s hK (hP.sub (ws' := jw_arI g a_this_right 5 v_right) [1] rfl)) rfl rfl hl.1 rfl (lv_room (Nat.le_of_ble_eq_true rfl)) dX5_roundCorner_17 ⟨Nat.zero_le _, Nat.zero_le _⟩) ?_
  refine jcall_ri (va_runSN (As := [.ref a_this_up, .int (jat 5 v_right x1)]) (rest := [.ref a_this_left, .ref a_this_down]) ⟨hx, hb, hml, hown, hts⟩ (jc_Bi_at_t l g a_this_up 5 (Nat.le_of_ble_eq_true rfl) v_up (jat 5 v_right x1) _ rfl) ⟨va_cnB 2 hts gX5_roundCorner_X6_at_n54 rfl rfl rfl (jN_at (q := (RX5, 54, yX6_at)) hK.2 18 rfl) (hts (.initialized RX6) (by decide +kernel)) (by decide +kernel) ⟨Nat.le_of_ble_eq_true rfl, Nat.le_of_ble_eq_true rfl⟩, hts (.static yX6_at) (by decide +kernel), trivial⟩ (jpr_s hK (hP.sub (ws' := jw_arI g a_this_up 5 v_up) [2] rfl)) rfl rfl hl.1 rfl (lv_room (Nat.le_of_ble_eq_true rfl)) dX5_roundCorner_20 ⟨Nat.zero_le _, Nat.zero_le _⟩) ?_
  refine jcall_ri (va_runSN (As := [.ref a_this_left, .int (jat 5 v_up (jat 5 v_right x1))]) (rest := [.ref a_this_down]) ⟨hx, hb, hml, hown, hts⟩ (jc_Bi_at_t l g a_this_left 5 (Nat.le_of_ble_eq_true rfl) v_left (jat 5 v_up (jat 5 v_right x1)) _ rfl) ⟨va_cnB 2 hts gX5_roundCorner_X6_at_n54 rfl rfl rfl (jN_at (q := (RX5, 54, yX6_at)) hK.2 18 rfl) (hts (.initialized RX6) (by decide +kernel)) (by decide +kernel) ⟨Nat.le_of_ble_eq_true rfl, Nat.le_of_ble_eq_true rfl⟩, hts (.static yX6_at) (by decide +kernel), trivial⟩ (jpr_s hK (hP.sub (ws' := jw_arI g a_this_left 5 v_left) [3] rfl)) rfl rfl hl.1 rfl (lv_room (Nat.le_of_ble_eq_true rfl)) dX5_roundCorner_23 ⟨Nat.zero_le _, Nat.zero_le _⟩) ?_
  refine jcall_ri (va_runSN (As := [.ref a_this_down, .int (jat 5 v_left (jat 5 v_up (jat 5 v_right x1)))]) (rest := []) ⟨hx, hb, hml, hown, hts⟩ (jc_Bi_at_t l g a_this_down 5 (Nat.le_of_ble_eq_true rfl) v_down (jat 5 v_left (jat 5 v_up (jat 5 v_right x1))) _ rfl) ⟨va_cnB 2 hts gX5_roundCorner_X6_at_n54 rfl rfl rfl (jN_at (q := (RX5, 54, yX6_at)) hK.2 18 rfl) (hts (.initialized RX6) (by decide +kernel)) (by decide +kernel) ⟨Nat.le_of_ble_eq_true rfl, Nat.le_of_ble_eq_true rfl⟩, hts (.static yX6_at) (by decide +kernel), trivial⟩ (jpr_s hK (hP.sub (ws' := jw_arI g a_this_down 5 v_down) [4] rfl)) rfl rfl hl.1 rfl (lv_room (Nat.le_of_ble_eq_true rfl)) dX5_roundCorner_26 ⟨Nat.zero_le _, Nat.zero_le _⟩) ?_
  exact fin _ _ _ hR dX5_roundCorner_29
def jf_Su_withBoth (x0 : Int32) (x1 : Int32) (x2 : Int32) : Int32 :=
  jlet ((1 <<< (x1 &&& 31)) ||| (1 <<< (x2 &&& 31))) (fun y3_1 => if x0 &&& y3_1 = 0 then x0 else (x0 ||| y3_1))
abbrev jr_Su_withBoth : Room := { frames := 0, cells := 0, slots := 0, locals := 0 }
set_option maxRecDepth 100000 in
set_option maxHeartbeats 4000000 in
theorem jc_Su_withBoth (l : Launch) (g : jG) (x0 : Int32) (x1 : Int32) (x2 : Int32) (R : Int32) (hR : jf_Su_withBoth x0 x1 x2 = R) : Met l yX5_withBoth wsX5_withBoth jr_Su_withBoth (jPr g [.int x0, .int x1, .int x2] ([])) (vp_Si (fun r => r = R)) 0 0 (fun _ => False) := by
  refine jm_ri (cc := cX5_withBoth) (maxL := 4) (by decide +kernel) rfl (Nat.le_of_ble_eq_true rfl) ?_
  intro p e s m below meth c Q hx hb hml hown hts hK hP fin ls hl
  have hl : lv_has ls 4 [(0, .int x0), (1, .int x1), (2, .int x2)] := hl
  have hown : s.vm.findClass RX5 = some m.cls := hown
  rw [jf_Su_withBoth] at hR
  refine lv_iconst (v := 1) hx hb dX5_withBoth_0 (by decide) ?_
  refine lv_iload_n hx hb dX5_withBoth_1 rfl (lv_at hl 1 rfl) ?_
  refine lv_ishl hx hb dX5_withBoth_2 ?_
  refine lv_iconst (v := 1) hx hb dX5_withBoth_3 (by decide) ?_
  refine lv_iload_n hx hb dX5_withBoth_4 rfl (lv_at hl 2 rfl) ?_
  refine lv_ishl hx hb dX5_withBoth_5 ?_
  refine lv_ior hx hb dX5_withBoth_6 ?_
  refine jlet_i hR (fun y3_1 hR => ?_)
  try dsimp only at hR
  refine lv_istore_n (lv' := [(3, .int y3_1), (0, .int x0), (1, .int x1), (2, .int x2)]) hx hb dX5_withBoth_7 rfl hl (by decide) rfl (fun ls hl => ?_)
  refine lv_iload_n hx hb dX5_withBoth_8 rfl (lv_at hl 1 rfl) ?_
  refine lv_iload_n hx hb dX5_withBoth_9 rfl (lv_at hl 0 rfl) ?_
  refine lv_iand hx hb dX5_withBoth_10 ?_
  refine lv_if_eq (tgt := 20) hx hb dX5_withBoth_11 (by decide) (fun c_1 => ?_) (fun c_1 => ?_)
  · replace hR := Eq.trans (Eq.symm (if_pos c_1)) hR
    refine lv_iload_n hx hb dX5_withBoth_20 rfl (lv_at hl 1 rfl) ?_
    exact fin _ _ _ hR dX5_withBoth_21
  · replace hR := Eq.trans (Eq.symm (if_neg c_1)) hR
    refine lv_iload_n hx hb dX5_withBoth_14 rfl (lv_at hl 1 rfl) ?_
    refine lv_iload_n hx hb dX5_withBoth_15 rfl (lv_at hl 0 rfl) ?_
    refine lv_ior hx hb dX5_withBoth_16 ?_
    refine lv_goto (tgt := 21) hx hb dX5_withBoth_17 (by decide) ?_
    exact fin _ _ _ hR dX5_withBoth_21
def jf_Su_isRowFlat_L4 (v_squares : Int32) (v_right : Nat → Int32) (v_up : Nat → Int32) (v_left : Nat → Int32) (v_down : Nat → Int32) : Nat → Int32 → Int32 → Option (Unit ⊕ Unit)
  | 0, _, _ => none
  | n + 1, z2, z3 =>
    if v_squares ≤ z3 then (some (.inr ())) else (if (jf_Su_roundCorner v_right v_up v_left v_down z2) = z2 then (jlet (jf_Su_rightOf v_right z2) (fun y2_1 => (jf_Su_isRowFlat_L4 v_squares v_right v_up v_left v_down n) y2_1 (z3 + 1))) else (some (.inl ())))
def jf_Su_isRowFlat (v_squares : Int32) (v_right : Nat → Int32) (v_up : Nat → Int32) (v_left : Nat → Int32) (v_down : Nat → Int32) (x1 : Int32) : Option Int32 :=
  Option.bind (jf_Su_isRowFlat_L4 v_squares v_right v_up v_left v_down jF x1 0) (fun q_1 => jsum (fun o_1 => some 0) (fun o_2 => some 1) q_1)
abbrev jr_Su_isRowFlat : Room := { frames := 2, cells := 0, slots := 0, locals := 42 }
set_option maxRecDepth 100000 in
set_option maxHeartbeats 4000000 in
theorem jc_Su_isRowFlat (l : Launch) (g : jG) (a_this a_this_right a_this_up a_this_left a_this_down a_this_spare a_this_order a_this_number : Nat) (v_numbered : Int32) (v_squares : Int32) (v_right : Nat → Int32) (v_up : Nat → Int32) (v_left : Nat → Int32) (v_down : Nat → Int32) (v_spare : Nat → Int32) (v_order : Nat → Int32) (v_number : Nat → Int32) (x1 : Int32) (R : Int32) (hR : jf_Su_isRowFlat v_squares v_right v_up v_left v_down x1 = some R) : Met l yX5_isRowFlat wsX5_isRowFlat jr_Su_isRowFlat (jPr g [.ref a_this, .int x1] (jw_Su g a_this a_this_right a_this_up a_this_left a_this_down a_this_spare a_this_order a_this_number v_numbered v_squares v_right v_up v_left v_down v_spare v_order v_number)) (vp_Si (fun r => r = R)) 0 0 (fun _ => False) := by
  refine jm_rz (cc := cX5_isRowFlat) (maxL := 4) (by decide +kernel) rfl (Nat.le_of_ble_eq_true rfl) ?_
  intro p e s m below meth c Q hx hb hml hown hts hK hP fin ls hl
  have hl : lv_has ls 4 [(0, .ref a_this), (1, .int x1)] := hl
  have hown : s.vm.findClass RX5 = some m.cls := hown
  have w_X5 : ∀ w ∈ u_ws RX5 TX5 9, w ∈ wsX5_isRowFlat := by decide +kernel
  have w_f37 := hts (.fieldLink RX5 37 "Billiardry$Surface" "squares" "I") (by decide +kernel)
  have L4 : ∀ (n : Nat) (z2 : Int32) (z3 : Int32) (ls : Array Slot), lv_has ls 4 [(0, .ref a_this), (2, .int z2), (3, .int z3)] → ∀ q, jf_Su_isRowFlat_L4 v_squares v_right v_up v_left v_down n z2 z3 = some q → ((∀ o, q = .inl o → ∀ ls : Array Slot, lv_has ls 4 [] → W p l e jr_Su_isRowFlat s m ([.ref a_this, .int x1] : List Value).toArray below meth c s.heap [] 0 0 Q (F0 m 21 ls [])) ∧ (∀ o, q = .inr o → ∀ ls : Array Slot, lv_has ls 4 [] → W p l e jr_Su_isRowFlat s m ([.ref a_this, .int x1] : List Value).toArray below meth c s.heap [] 0 0 Q (F0 m 35 ls []))) → W p l e jr_Su_isRowFlat s m ([.ref a_this, .int x1] : List Value).toArray below meth c s.heap [] 0 0 Q (F0 m 4 ls []) := by
    intro n
    induction n with
    | zero =>
      intro z2 z3 ls hl q hR k
      cases hR
    | succ n ih =>
      intro z2 z3 ls hl q hR k
      rw [jf_Su_isRowFlat_L4] at hR
      refine lv_iload_n hx hb dX5_isRowFlat_4 rfl (lv_at hl 2 rfl) ?_
      refine lv_aload_n hx hb dX5_isRowFlat_5 rfl (lv_at hl 0 rfl) ?_
      refine va_get (D := g.1) (ci := 5) (v := .int v_squares) (C := RX5) (T := TX5) (N := 9) hx hb hts w_X5 hown hK.1 hP 0 rfl rfl 8 (by decide) w_f37 (fun _ h9 => h9) rfl dX5_isRowFlat_6 ?_
      refine lv_icmp_ge (tgt := 35) hx hb dX5_isRowFlat_9 (by decide) (fun c_1 => ?_) (fun c_1 => ?_)
      · replace hR := Eq.trans (Eq.symm (if_pos c_1)) hR
        cases hR
        exact k.2 _ rfl _ (lv_sub hl [] rfl)
      · replace hR := Eq.trans (Eq.symm (if_neg c_1)) hR
        refine lv_aload_n hx hb dX5_isRowFlat_12 rfl (lv_at hl 0 rfl) ?_
        refine lv_iload_n hx hb dX5_isRowFlat_13 rfl (lv_at hl 1 rfl) ?_
        refine jcall_ri (va_runV (As := [.int z2]) (rest := []) ⟨hx, hb, hml, hown, hts⟩ (jc_Su_roundCorner l g a_this a_this_right a_this_up a_this_left a_this_down a_this_spare a_this_order a_this_number v_numbered v_squares v_right v_up v_left v_down v_spare v_order v_number z2 _ rfl) (cwV 1 hts gX5_isRowFlat_X5_roundCorner rfl rfl rfl (by decide +kernel) ⟨Nat.le_of_ble_eq_true rfl, Nat.le_of_ble_eq_true rfl⟩) (jpr_v hK hP (ci := 5) (q0 := 0) rfl rfl) rfl rfl hl.1 rfl (lv_room (Nat.le_of_ble_eq_true rfl)) dX5_isRowFlat_14 ⟨Nat.zero_le _, Nat.zero_le _⟩) ?_
        refine lv_iload_n hx hb dX5_isRowFlat_17 rfl (lv_at hl 1 rfl) ?_
        refine lv_icmp_eq (tgt := 23) hx hb dX5_isRowFlat_18 (by decide) (fun c_2 => ?_) (fun c_2 => ?_)
        · replace hR := Eq.trans (Eq.symm (if_pos c_2)) hR
          refine lv_aload_n hx hb dX5_isRowFlat_23 rfl (lv_at hl 0 rfl) ?_
          refine lv_iload_n hx hb dX5_isRowFlat_24 rfl (lv_at hl 1 rfl) ?_
          refine jcall_ri (va_runV (As := [.int z2]) (rest := []) ⟨hx, hb, hml, hown, hts⟩ (jc_Su_rightOf l g a_this a_this_right a_this_up a_this_left a_this_down a_this_spare a_this_order a_this_number v_numbered v_squares v_right v_up v_left v_down v_spare v_order v_number z2 _ rfl) (cwV 1 hts gX5_isRowFlat_X5_rightOf rfl rfl rfl (by decide +kernel) ⟨Nat.le_of_ble_eq_true rfl, Nat.le_of_ble_eq_true rfl⟩) (jpr_v hK hP (ci := 5) (q0 := 0) rfl rfl) rfl rfl hl.1 rfl (lv_room (Nat.le_of_ble_eq_true rfl)) dX5_isRowFlat_25 ⟨Nat.zero_le _, Nat.zero_le _⟩) ?_
          refine jlet_i hR (fun y2_1 hR => ?_)
          try dsimp only at hR
          refine lv_istore_n (lv' := [(2, .int y2_1), (0, .ref a_this), (3, .int z3)]) hx hb dX5_isRowFlat_28 rfl hl (by decide) rfl (fun ls hl => ?_)
          refine lv_iinc (v := z3 + 1) (lv' := [(3, .int (z3 + 1)), (2, .int y2_1), (0, .ref a_this)]) hx hb dX5_isRowFlat_29 hl (k := 2) rfl (by first | rfl | decide) (by decide) rfl (fun ls hl => ?_)
          refine lv_goto (tgt := 4) hx hb dX5_isRowFlat_32 (by decide) ?_
          exact ih y2_1 (z3 + 1) _ (lv_sub hl [2, 1, 0] rfl) _ hR k
        · replace hR := Eq.trans (Eq.symm (if_neg c_2)) hR
          cases hR
          exact k.1 _ rfl _ (lv_sub hl [] rfl)
  rw [jf_Su_isRowFlat] at hR
  refine lv_iload_n hx hb dX5_isRowFlat_0 rfl (lv_at hl 1 rfl) ?_
  refine lv_istore_n (lv' := [(2, .int x1), (0, .ref a_this), (1, .int x1)]) hx hb dX5_isRowFlat_1 rfl hl (by decide) rfl (fun ls hl => ?_)
  refine lv_iconst (v := 0) hx hb dX5_isRowFlat_2 (by decide) ?_
  refine lv_istore_n (lv' := [(3, .int 0), (2, .int x1), (0, .ref a_this), (1, .int x1)]) hx hb dX5_isRowFlat_3 rfl hl (by decide) rfl (fun ls hl => ?_)
  obtain ⟨q_1, hq_1, hR⟩ := jbind hR
  refine L4 jF x1 0 _ (lv_sub hl [2, 1, 0] rfl) _ hq_1 ⟨fun o_1 ho ls hl => ?_, fun o_2 ho ls hl => ?_⟩
  · rw [ho] at hR
    try dsimp only [jsum] at hR
    refine lv_iconst (v := 0) hx hb dX5_isRowFlat_21 (by decide) ?_
    exact fin _ _ _ (Eq.trans (by decide) (Option.some.inj hR)) dX5_isRowFlat_22
  · rw [ho] at hR
    try dsimp only [jsum] at hR
    refine lv_iconst (v := 1) hx hb dX5_isRowFlat_35 (by decide) ?_
    exact fin _ _ _ (Eq.trans (by decide) (Option.some.inj hR)) dX5_isRowFlat_36
def jf_Su_grown_b46 (v_up : Nat → Int32) (z2 : Int32) (z4 : Int32) : Option Int32 :=
  jlet (jf_Su_withBoth z4 z2 (jf_Su_upOf v_up z2)) (fun y4_2 => some y4_2)
def jf_Su_grown (v_squares : Int32) (v_right : Nat → Int32) (v_up : Nat → Int32) (v_left : Nat → Int32) (v_down : Nat → Int32) (x1 : Int32) (x2 : Int32) (x3 : Int32) : Option Int32 :=
  if x3 = 1 then (some (jf_Su_withBoth x1 x2 (jf_Su_roundCorner v_right v_up v_left v_down x2))) else (jlet (jf_Su_withBoth x1 x2 (jf_Su_rightOf v_right x2)) (fun y4_1 => if x3 = 2 then (jf_Su_grown_b46 v_up x2 y4_1) else (if x3 = 4 then (Option.bind (jf_Su_isRowFlat v_squares v_right v_up v_left v_down x2) (fun q_1 => if q_1 = 0 then (some y4_1) else (jf_Su_grown_b46 v_up x2 y4_1))) else (some y4_1))))
abbrev jr_Su_grown : Room := { frames := 3, cells := 0, slots := 0, locals := 65 }
set_option maxRecDepth 100000 in
set_option maxHeartbeats 4000000 in
theorem jc_Su_grown (l : Launch) (g : jG) (a_this a_this_right a_this_up a_this_left a_this_down a_this_spare a_this_order a_this_number : Nat) (v_numbered : Int32) (v_squares : Int32) (v_right : Nat → Int32) (v_up : Nat → Int32) (v_left : Nat → Int32) (v_down : Nat → Int32) (v_spare : Nat → Int32) (v_order : Nat → Int32) (v_number : Nat → Int32) (x1 : Int32) (x2 : Int32) (x3 : Int32) (R : Int32) (hR : jf_Su_grown v_squares v_right v_up v_left v_down x1 x2 x3 = some R) : Met l yX5_grown wsX5_grown jr_Su_grown (jPr g [.ref a_this, .int x1, .int x2, .int x3] (jw_Su g a_this a_this_right a_this_up a_this_left a_this_down a_this_spare a_this_order a_this_number v_numbered v_squares v_right v_up v_left v_down v_spare v_order v_number)) (vp_Si (fun r => r = R)) 0 0 (fun _ => False) := by
  refine jm_ri (cc := cX5_grown) (maxL := 5) (by decide +kernel) rfl (Nat.le_of_ble_eq_true rfl) ?_
  intro p e s m below meth c Q hx hb hml hown hts hK hP fin ls hl
  have hl : lv_has ls 5 [(0, .ref a_this), (1, .int x1), (2, .int x2), (3, .int x3)] := hl
  have hown : s.vm.findClass RX5 = some m.cls := hown
  have J46 : ∀ (z2 : Int32) (z4 : Int32) (ls : Array Slot), lv_has ls 5 [(0, .ref a_this), (2, .int z2), (4, .int z4)] → jf_Su_grown_b46 v_up z2 z4 = some R → W p l e jr_Su_grown s m ([.ref a_this, .int x1, .int x2, .int x3] : List Value).toArray below meth c s.heap [] 0 0 Q (F0 m 46 ls []) := by
    intro z2 z4 ls hl hR
    rw [jf_Su_grown_b46] at hR
    refine lv_iload hx hb dX5_grown_46 (lv_at hl 2 rfl) ?_
    refine lv_iload_n hx hb dX5_grown_48 rfl (lv_at hl 1 rfl) ?_
    refine lv_aload_n hx hb dX5_grown_49 rfl (lv_at hl 0 rfl) ?_
    refine lv_iload_n hx hb dX5_grown_50 rfl (lv_at hl 1 rfl) ?_
    refine jcall_ri (va_runV (As := [.int z2]) (rest := [.int z2, .int z4]) ⟨hx, hb, hml, hown, hts⟩ (jc_Su_upOf l g a_this a_this_right a_this_up a_this_left a_this_down a_this_spare a_this_order a_this_number v_numbered v_squares v_right v_up v_left v_down v_spare v_order v_number z2 _ rfl) (cwV 1 hts gX5_grown_X5_upOf rfl rfl rfl (by decide +kernel) ⟨Nat.le_of_ble_eq_true rfl, Nat.le_of_ble_eq_true rfl⟩) (jpr_v hK hP (ci := 5) (q0 := 0) rfl rfl) rfl rfl hl.1 rfl (lv_room (Nat.le_of_ble_eq_true rfl)) dX5_grown_51 ⟨Nat.zero_le _, Nat.zero_le _⟩) ?_
    refine jcall_ri (va_runS (As := [.int z4, .int z2, .int (jf_Su_upOf v_up z2)]) (rest := []) ⟨hx, hb, hml, hown, hts⟩ (jc_Su_withBoth l g  z4 z2 (jf_Su_upOf v_up z2) _ rfl) (va_cwS 3 hts gX5_grown_X5_withBoth rfl rfl rfl (by decide +kernel) ⟨Nat.le_of_ble_eq_true rfl, Nat.le_of_ble_eq_true rfl⟩) (jpr_s hK (hP.sub (ws' := []) [] rfl)) rfl rfl hl.1 rfl (lv_room (Nat.le_of_ble_eq_true rfl)) dX5_grown_54 ⟨Nat.zero_le _, Nat.zero_le _⟩) ?_
    refine jlet_i hR (fun y4_2 hR => ?_)
    try dsimp only at hR
    refine lv_istore (lv' := [(4, .int y4_2), (0, .ref a_this), (2, .int z2)]) hx hb dX5_grown_57 hl (by decide) rfl (fun ls hl => ?_)
    refine lv_iload hx hb dX5_grown_59 (lv_at hl 0 rfl) ?_
    exact fin _ _ _ (Option.some.inj hR) dX5_grown_61
  rw [jf_Su_grown] at hR
  refine lv_iload_n hx hb dX5_grown_0 rfl (lv_at hl 3 rfl) ?_
  refine lv_iconst (v := 1) hx hb dX5_grown_1 (by decide) ?_
  refine lv_icmp_ne (tgt := 16) hx hb dX5_grown_2 (by decide) (fun c_1 => ?_) (fun c_1 => ?_)
  · replace hR := Eq.trans (Eq.symm (if_neg c_1)) hR
    refine lv_iload_n hx hb dX5_grown_16 rfl (lv_at hl 1 rfl) ?_
    refine lv_iload_n hx hb dX5_grown_17 rfl (lv_at hl 2 rfl) ?_
    refine lv_aload_n hx hb dX5_grown_18 rfl (lv_at hl 0 rfl) ?_
    refine lv_iload_n hx hb dX5_grown_19 rfl (lv_at hl 2 rfl) ?_
    refine jcall_ri (va_runV (As := [.int x2]) (rest := [.int x2, .int x1]) ⟨hx, hb, hml, hown, hts⟩ (jc_Su_rightOf l g a_this a_this_right a_this_up a_this_left a_this_down a_this_spare a_this_order a_this_number v_numbered v_squares v_right v_up v_left v_down v_spare v_order v_number x2 _ rfl) (cwV 1 hts gX5_grown_X5_rightOf rfl rfl rfl (by decide +kernel) ⟨Nat.le_of_ble_eq_true rfl, Nat.le_of_ble_eq_true rfl⟩) (jpr_v hK hP (ci := 5) (q0 := 0) rfl rfl) rfl rfl hl.1 rfl (lv_room (Nat.le_of_ble_eq_true rfl)) dX5_grown_20 ⟨Nat.zero_le _, Nat.zero_le _⟩) ?_
    refine jcall_ri (va_runS (As := [.int x1, .int x2, .int (jf_Su_rightOf v_right x2)]) (rest := []) ⟨hx, hb, hml, hown, hts⟩ (jc_Su_withBoth l g  x1 x2 (jf_Su_rightOf v_right x2) _ rfl) (va_cwS 3 hts gX5_grown_X5_withBoth rfl rfl rfl (by decide +kernel) ⟨Nat.le_of_ble_eq_true rfl, Nat.le_of_ble_eq_true rfl⟩) (jpr_s hK (hP.sub (ws' := []) [] rfl)) rfl rfl hl.1 rfl (lv_room (Nat.le_of_ble_eq_true rfl)) dX5_grown_23 ⟨Nat.zero_le _, Nat.zero_le _⟩) ?_
    refine jlet_i hR (fun y4_1 hR => ?_)
    try dsimp only at hR
    refine lv_istore (lv' := [(4, .int y4_1), (0, .ref a_this), (1, .int x1), (2, .int x2), (3, .int x3)]) hx hb dX5_grown_26 hl (by decide) rfl (fun ls hl => ?_)
    refine lv_iload_n hx hb dX5_grown_28 rfl (lv_at hl 4 rfl) ?_
    refine lv_iconst (v := 2) hx hb dX5_grown_29 (by decide) ?_
    refine lv_icmp_eq (tgt := 46) hx hb dX5_grown_30 (by decide) (fun c_2 => ?_) (fun c_2 => ?_)
    · replace hR := Eq.trans (Eq.symm (if_pos c_2)) hR
      exact J46 x2 y4_1 _ (lv_sub hl [1, 3, 0] rfl) hR
    · replace hR := Eq.trans (Eq.symm (if_neg c_2)) hR
      refine lv_iload_n hx hb dX5_grown_33 rfl (lv_at hl 4 rfl) ?_
      refine lv_iconst (v := 4) hx hb dX5_grown_34 (by decide) ?_
      refine lv_icmp_ne (tgt := 59) hx hb dX5_grown_35 (by decide) (fun c_3 => ?_) (fun c_3 => ?_)
      · replace hR := Eq.trans (Eq.symm (if_neg c_3)) hR
        refine lv_iload hx hb dX5_grown_59 (lv_at hl 0 rfl) ?_
        exact fin _ _ _ (Option.some.inj hR) dX5_grown_61
      · replace hR := Eq.trans (Eq.symm (if_pos c_3)) hR
        refine lv_aload_n hx hb dX5_grown_38 rfl (lv_at hl 1 rfl) ?_
        refine lv_iload_n hx hb dX5_grown_39 rfl (lv_at hl 3 rfl) ?_
        obtain ⟨q_1, hq_1, hR⟩ := jbind hR
        try dsimp only at hR
        refine jcall_ri (va_runV (As := [.int x2]) (rest := []) ⟨hx, hb, hml, hown, hts⟩ (jc_Su_isRowFlat l g a_this a_this_right a_this_up a_this_left a_this_down a_this_spare a_this_order a_this_number v_numbered v_squares v_right v_up v_left v_down v_spare v_order v_number x2 _ hq_1) (cwV 1 hts gX5_grown_X5_isRowFlat rfl rfl rfl (by decide +kernel) ⟨Nat.le_of_ble_eq_true rfl, Nat.le_of_ble_eq_true rfl⟩) (jpr_v hK hP (ci := 5) (q0 := 0) rfl rfl) rfl rfl hl.1 rfl (lv_room (Nat.le_of_ble_eq_true rfl)) dX5_grown_40 ⟨Nat.zero_le _, Nat.zero_le _⟩) ?_
        refine lv_if_eq (tgt := 59) hx hb dX5_grown_43 (by decide) (fun c_4 => ?_) (fun c_4 => ?_)
        · replace hR := Eq.trans (Eq.symm (if_pos c_4)) hR
          refine lv_iload hx hb dX5_grown_59 (lv_at hl 0 rfl) ?_
          exact fin _ _ _ (Option.some.inj hR) dX5_grown_61
        · replace hR := Eq.trans (Eq.symm (if_neg c_4)) hR
          exact J46 x2 y4_1 _ (lv_sub hl [1, 3, 0] rfl) hR
  · replace hR := Eq.trans (Eq.symm (if_pos c_1)) hR
    refine lv_iload_n hx hb dX5_grown_5 rfl (lv_at hl 1 rfl) ?_
    refine lv_iload_n hx hb dX5_grown_6 rfl (lv_at hl 2 rfl) ?_
    refine lv_aload_n hx hb dX5_grown_7 rfl (lv_at hl 0 rfl) ?_
    refine lv_iload_n hx hb dX5_grown_8 rfl (lv_at hl 2 rfl) ?_
    refine jcall_ri (va_runV (As := [.int x2]) (rest := [.int x2, .int x1]) ⟨hx, hb, hml, hown, hts⟩ (jc_Su_roundCorner l g a_this a_this_right a_this_up a_this_left a_this_down a_this_spare a_this_order a_this_number v_numbered v_squares v_right v_up v_left v_down v_spare v_order v_number x2 _ rfl) (cwV 1 hts gX5_grown_X5_roundCorner rfl rfl rfl (by decide +kernel) ⟨Nat.le_of_ble_eq_true rfl, Nat.le_of_ble_eq_true rfl⟩) (jpr_v hK hP (ci := 5) (q0 := 0) rfl rfl) rfl rfl hl.1 rfl (lv_room (Nat.le_of_ble_eq_true rfl)) dX5_grown_9 ⟨Nat.zero_le _, Nat.zero_le _⟩) ?_
    refine jcall_ri (va_runS (As := [.int x1, .int x2, .int (jf_Su_roundCorner v_right v_up v_left v_down x2)]) (rest := []) ⟨hx, hb, hml, hown, hts⟩ (jc_Su_withBoth l g  x1 x2 (jf_Su_roundCorner v_right v_up v_left v_down x2) _ rfl) (va_cwS 3 hts gX5_grown_X5_withBoth rfl rfl rfl (by decide +kernel) ⟨Nat.le_of_ble_eq_true rfl, Nat.le_of_ble_eq_true rfl⟩) (jpr_s hK (hP.sub (ws' := []) [] rfl)) rfl rfl hl.1 rfl (lv_room (Nat.le_of_ble_eq_true rfl)) dX5_grown_12 ⟨Nat.zero_le _, Nat.zero_le _⟩) ?_
    exact fin _ _ _ (Option.some.inj hR) dX5_grown_15
def jf_Su_groupOf_L19 (v_squares : Int32) (v_right : Nat → Int32) (v_up : Nat → Int32) (v_left : Nat → Int32) (v_down : Nat → Int32) (z2 : Int32) (z4 : Int32) : Nat → Int32 → Int32 → Option Int32
  | 0, _, _ => none
  | n + 1, z3, z5 =>
    if v_squares ≤ z5 then (some z3) else (Option.bind (jf_Su_grown v_squares v_right v_up v_left v_down z3 z5 z2) (fun q_1 => (jf_Su_groupOf_L19 v_squares v_right v_up v_left v_down z2 z4 n) q_1 (z5 + 1)))
def jf_Su_groupOf_L7 (v_squares : Int32) (v_right : Nat → Int32) (v_up : Nat → Int32) (v_left : Nat → Int32) (v_down : Nat → Int32) (z2 : Int32) : Nat → Int32 → Int32 → Option Int32
  | 0, _, _ => none
  | n + 1, z3, z4 =>
    if v_squares ≤ z4 then (some z3) else (Option.bind (jf_Su_groupOf_L19 v_squares v_right v_up v_left v_down z2 z4 jF z3 0) (fun q_2 => (jf_Su_groupOf_L7 v_squares v_right v_up v_left v_down z2 n) q_2 (z4 + 1)))
def jf_Su_groupOf (v_squares : Int32) (v_right : Nat → Int32) (v_up : Nat → Int32) (v_left : Nat → Int32) (v_down : Nat → Int32) (x1 : Int32) (x2 : Int32) : Option Int32 :=
  jlet (1 <<< (x1 &&& 31)) (fun y3_1 => Option.bind (jf_Su_groupOf_L7 v_squares v_right v_up v_left v_down x2 jF y3_1 0) (fun q_3 => some q_3))
abbrev jr_Su_groupOf : Room := { frames := 4, cells := 0, slots := 0, locals := 89 }
set_option maxRecDepth 100000 in
set_option maxHeartbeats 4000000 in
theorem jc_Su_groupOf (l : Launch) (g : jG) (a_this a_this_right a_this_up a_this_left a_this_down a_this_spare a_this_order a_this_number : Nat) (v_numbered : Int32) (v_squares : Int32) (v_right : Nat → Int32) (v_up : Nat → Int32) (v_left : Nat → Int32) (v_down : Nat → Int32) (v_spare : Nat → Int32) (v_order : Nat → Int32) (v_number : Nat → Int32) (x1 : Int32) (x2 : Int32) (R : Int32) (hR : jf_Su_groupOf v_squares v_right v_up v_left v_down x1 x2 = some R) : Met l yX5_groupOf wsX5_groupOf jr_Su_groupOf (jPr g [.ref a_this, .int x1, .int x2] (jw_Su g a_this a_this_right a_this_up a_this_left a_this_down a_this_spare a_this_order a_this_number v_numbered v_squares v_right v_up v_left v_down v_spare v_order v_number)) (vp_Si (fun r => r = R)) 0 0 (fun _ => False) := by
  refine jm_ri (cc := cX5_groupOf) (maxL := 6) (by decide +kernel) rfl (Nat.le_of_ble_eq_true rfl) ?_
  intro p e s m below meth c Q hx hb hml hown hts hK hP fin ls hl
  have hl : lv_has ls 6 [(0, .ref a_this), (1, .int x1), (2, .int x2)] := hl
  have hown : s.vm.findClass RX5 = some m.cls := hown
  have w_X5 : ∀ w ∈ u_ws RX5 TX5 9, w ∈ wsX5_groupOf := by decide +kernel
  have w_f37 := hts (.fieldLink RX5 37 "Billiardry$Surface" "squares" "I") (by decide +kernel)
  have L7 : ∀ (n : Nat) (z2 : Int32) (z3 : Int32) (z4 : Int32) (ls : Array Slot), lv_has ls 6 [(0, .ref a_this), (2, .int z2), (3, .int z3), (4, .int z4)] → ∀ q, jf_Su_groupOf_L7 v_squares v_right v_up v_left v_down z2 n z3 z4 = some q → (∀ ls : Array Slot, lv_has ls 6 [(3, .int q)] → W p l e jr_Su_groupOf s m ([.ref a_this, .int x1, .int x2] : List Value).toArray below meth c s.heap [] 0 0 Q (F0 m 49 ls [])) → W p l e jr_Su_groupOf s m ([.ref a_this, .int x1, .int x2] : List Value).toArray below meth c s.heap [] 0 0 Q (F0 m 7 ls []) := by
    intro n z2
    induction n with
    | zero =>
      intro z3 z4 ls hl q hR k
      cases hR
    | succ n ih =>
      have L19 : ∀ (n : Nat) (z2 : Int32) (z4 : Int32) (z3 : Int32) (z5 : Int32) (ls : Array Slot), lv_has ls 6 [(0, .ref a_this), (2, .int z2), (3, .int z3), (4, .int z4), (5, .int z5)] → ∀ q, jf_Su_groupOf_L19 v_squares v_right v_up v_left v_down z2 z4 n z3 z5 = some q → (∀ ls : Array Slot, lv_has ls 6 [(0, .ref a_this), (2, .int z2), (3, .int q), (4, .int z4)] → W p l e jr_Su_groupOf s m ([.ref a_this, .int x1, .int x2] : List Value).toArray below meth c s.heap [] 0 0 Q (F0 m 43 ls [])) → W p l e jr_Su_groupOf s m ([.ref a_this, .int x1, .int x2] : List Value).toArray below meth c s.heap [] 0 0 Q (F0 m 19 ls []) := by
        intro n z2 z4
        induction n with
        | zero =>
          intro z3 z5 ls hl q hR k
          cases hR
        | succ n ih =>
          intro z3 z5 ls hl q hR k
          rw [jf_Su_groupOf_L19] at hR
          refine lv_iload hx hb dX5_groupOf_19 (lv_at hl 4 rfl) ?_
          refine lv_aload_n hx hb dX5_groupOf_21 rfl (lv_at hl 0 rfl) ?_
          refine va_get (D := g.1) (ci := 5) (v := .int v_squares) (C := RX5) (T := TX5) (N := 9) hx hb hts w_X5 hown hK.1 hP 0 rfl rfl 8 (by decide) w_f37 (fun _ h9 => h9) rfl dX5_groupOf_22 ?_
          refine lv_icmp_ge (tgt := 43) hx hb dX5_groupOf_25 (by decide) (fun c_2 => ?_) (fun c_2 => ?_)
          · replace hR := Eq.trans (Eq.symm (if_pos c_2)) hR
            cases hR
            exact k _ (lv_sub hl [0, 1, 2, 3] rfl)
          · replace hR := Eq.trans (Eq.symm (if_neg c_2)) hR
            refine lv_aload_n hx hb dX5_groupOf_28 rfl (lv_at hl 0 rfl) ?_
            refine lv_iload_n hx hb dX5_groupOf_29 rfl (lv_at hl 2 rfl) ?_
            refine lv_iload hx hb dX5_groupOf_30 (lv_at hl 4 rfl) ?_
            refine lv_iload_n hx hb dX5_groupOf_32 rfl (lv_at hl 1 rfl) ?_
            obtain ⟨q_1, hq_1, hR⟩ := jbind hR
            try dsimp only at hR
            refine jcall_ri (va_runV (As := [.int z3, .int z5, .int z2]) (rest := []) ⟨hx, hb, hml, hown, hts⟩ (jc_Su_grown l g a_this a_this_right a_this_up a_this_left a_this_down a_this_spare a_this_order a_this_number v_numbered v_squares v_right v_up v_left v_down v_spare v_order v_number z3 z5 z2 _ hq_1) (cwV 3 hts gX5_groupOf_X5_grown rfl rfl rfl (by decide +kernel) ⟨Nat.le_of_ble_eq_true rfl, Nat.le_of_ble_eq_true rfl⟩) (jpr_v hK hP (ci := 5) (q0 := 0) rfl rfl) rfl rfl hl.1 rfl (lv_room (Nat.le_of_ble_eq_true rfl)) dX5_groupOf_33 ⟨Nat.zero_le _, Nat.zero_le _⟩) ?_
            refine lv_istore_n (lv' := [(3, .int q_1), (0, .ref a_this), (2, .int z2), (4, .int z4), (5, .int z5)]) hx hb dX5_groupOf_36 rfl hl (by decide) rfl (fun ls hl => ?_)
            refine lv_iinc (v := z5 + 1) (lv' := [(5, .int (z5 + 1)), (3, .int q_1), (0, .ref a_this), (2, .int z2), (4, .int z4)]) hx hb dX5_groupOf_37 hl (k := 4) rfl (by first | rfl | decide) (by decide) rfl (fun ls hl => ?_)
            refine lv_goto (tgt := 19) hx hb dX5_groupOf_40 (by decide) ?_
            exact ih q_1 (z5 + 1) _ (lv_sub hl [2, 3, 1, 4, 0] rfl) _ hR k
      intro z3 z4 ls hl q hR k
      rw [jf_Su_groupOf_L7] at hR
      refine lv_iload hx hb dX5_groupOf_7 (lv_at hl 3 rfl) ?_
      refine lv_aload_n hx hb dX5_groupOf_9 rfl (lv_at hl 0 rfl) ?_
      refine va_get (D := g.1) (ci := 5) (v := .int v_squares) (C := RX5) (T := TX5) (N := 9) hx hb hts w_X5 hown hK.1 hP 0 rfl rfl 8 (by decide) w_f37 (fun _ h9 => h9) rfl dX5_groupOf_10 ?_
      refine lv_icmp_ge (tgt := 49) hx hb dX5_groupOf_13 (by decide) (fun c_1 => ?_) (fun c_1 => ?_)
      · replace hR := Eq.trans (Eq.symm (if_pos c_1)) hR
        cases hR
        exact k _ (lv_sub hl [2] rfl)
      · replace hR := Eq.trans (Eq.symm (if_neg c_1)) hR
        refine lv_iconst (v := 0) hx hb dX5_groupOf_16 (by decide) ?_
        refine lv_istore (lv' := [(5, .int 0), (0, .ref a_this), (2, .int z2), (3, .int z3), (4, .int z4)]) hx hb dX5_groupOf_17 hl (by decide) rfl (fun ls hl => ?_)
        obtain ⟨q_2, hq_2, hR⟩ := jbind hR
        try dsimp only at hR
        refine L19 jF z2 z4 z3 0 _ (lv_sub hl [1, 2, 3, 4, 0] rfl) _ hq_2 (fun ls hl => ?_)
        refine lv_iinc (v := z4 + 1) (lv' := [(4, .int (z4 + 1)), (0, .ref a_this), (2, .int z2), (3, .int q_2)]) hx hb dX5_groupOf_43 hl (k := 3) rfl (by first | rfl | decide) (by decide) rfl (fun ls hl => ?_)
        refine lv_goto (tgt := 7) hx hb dX5_groupOf_46 (by decide) ?_
        exact ih q_2 (z4 + 1) _ (lv_sub hl [1, 2, 3, 0] rfl) _ hR k
  rw [jf_Su_groupOf] at hR
  refine lv_iconst (v := 1) hx hb dX5_groupOf_0 (by decide) ?_
  refine lv_iload_n hx hb dX5_groupOf_1 rfl (lv_at hl 1 rfl) ?_
  refine lv_ishl hx hb dX5_groupOf_2 ?_
  refine jlet_i hR (fun y3_1 hR => ?_)
  try dsimp only at hR
  refine lv_istore_n (lv' := [(3, .int y3_1), (0, .ref a_this), (1, .int x1), (2, .int x2)]) hx hb dX5_groupOf_3 rfl hl (by decide) rfl (fun ls hl => ?_)
  refine lv_iconst (v := 0) hx hb dX5_groupOf_4 (by decide) ?_
  refine lv_istore (lv' := [(4, .int 0), (3, .int y3_1), (0, .ref a_this), (1, .int x1), (2, .int x2)]) hx hb dX5_groupOf_5 hl (by decide) rfl (fun ls hl => ?_)
  obtain ⟨q_3, hq_3, hR⟩ := jbind hR
  try dsimp only at hR
  refine L7 jF x2 y3_1 0 _ (lv_sub hl [2, 4, 1, 0] rfl) _ hq_3 (fun ls hl => ?_)
  refine lv_iload_n hx hb dX5_groupOf_49 rfl (lv_at hl 0 rfl) ?_
  exact fin _ _ _ (Option.some.inj hR) dX5_groupOf_50
def jf_Su_sizeOf (v_squares : Int32) (v_right : Nat → Int32) (v_up : Nat → Int32) (v_left : Nat → Int32) (v_down : Nat → Int32) (x1 : Int32) (x2 : Int32) : Option Int32 :=
  Option.bind (jf_Su_groupOf v_squares v_right v_up v_left v_down x1 x2) (fun q_1 => some (jf_In_bitCount q_1))
abbrev jr_Su_sizeOf : Room := { frames := 5, cells := 0, slots := 0, locals := 114 }
set_option maxRecDepth 100000 in
set_option maxHeartbeats 4000000 in
theorem jc_Su_sizeOf (l : Launch) (g : jG) (a_this a_this_right a_this_up a_this_left a_this_down a_this_spare a_this_order a_this_number : Nat) (v_numbered : Int32) (v_squares : Int32) (v_right : Nat → Int32) (v_up : Nat → Int32) (v_left : Nat → Int32) (v_down : Nat → Int32) (v_spare : Nat → Int32) (v_order : Nat → Int32) (v_number : Nat → Int32) (x1 : Int32) (x2 : Int32) (R : Int32) (hR : jf_Su_sizeOf v_squares v_right v_up v_left v_down x1 x2 = some R) : Met l yX5_sizeOf wsX5_sizeOf jr_Su_sizeOf (jPr g [.ref a_this, .int x1, .int x2] (jw_Su g a_this a_this_right a_this_up a_this_left a_this_down a_this_spare a_this_order a_this_number v_numbered v_squares v_right v_up v_left v_down v_spare v_order v_number)) (vp_Si (fun r => r = R)) 0 0 (fun _ => False) := by
  refine jm_ri (cc := cX5_sizeOf) (maxL := 3) (by decide +kernel) rfl (Nat.le_of_ble_eq_true rfl) ?_
  intro p e s m below meth c Q hx hb hml hown hts hK hP fin ls hl
  have hl : lv_has ls 3 [(0, .ref a_this), (1, .int x1), (2, .int x2)] := hl
  have hown : s.vm.findClass RX5 = some m.cls := hown
  rw [jf_Su_sizeOf] at hR
  refine lv_aload_n hx hb dX5_sizeOf_0 rfl (lv_at hl 0 rfl) ?_
  refine lv_iload_n hx hb dX5_sizeOf_1 rfl (lv_at hl 1 rfl) ?_
  refine lv_iload_n hx hb dX5_sizeOf_2 rfl (lv_at hl 2 rfl) ?_
  obtain ⟨q_1, hq_1, hR⟩ := jbind hR
  try dsimp only at hR
  refine jcall_ri (va_runV (As := [.int x1, .int x2]) (rest := []) ⟨hx, hb, hml, hown, hts⟩ (jc_Su_groupOf l g a_this a_this_right a_this_up a_this_left a_this_down a_this_spare a_this_order a_this_number v_numbered v_squares v_right v_up v_left v_down v_spare v_order v_number x1 x2 _ hq_1) (cwV 2 hts gX5_sizeOf_X5_groupOf rfl rfl rfl (by decide +kernel) ⟨Nat.le_of_ble_eq_true rfl, Nat.le_of_ble_eq_true rfl⟩) (jpr_v hK hP (ci := 5) (q0 := 0) rfl rfl) rfl rfl hl.1 rfl (lv_room (Nat.le_of_ble_eq_true rfl)) dX5_sizeOf_3 ⟨Nat.zero_le _, Nat.zero_le _⟩) ?_
  refine jcall_ri (va_runS (As := [.int q_1]) (rest := []) ⟨hx, hb, hml, hown, hts⟩ (jc_In_bitCount l g  q_1 _ rfl) (va_cwS 1 hts gX5_sizeOf_J6_bitCount_0f7a4 rfl rfl rfl (by decide +kernel) ⟨Nat.le_of_ble_eq_true rfl, Nat.le_of_ble_eq_true rfl⟩) (jpr_s hK (hP.sub (ws' := []) [] rfl)) rfl rfl hl.1 rfl (lv_room (Nat.le_of_ble_eq_true rfl)) dX5_sizeOf_6 ⟨Nat.zero_le _, Nat.zero_le _⟩) ?_
  exact fin _ _ _ (Option.some.inj hR) dX5_sizeOf_9
def jf_Su_groups_b38 (self : Int32 → Int32 → Int32 → Option Int32) (v_squares : Int32) (v_right : Nat → Int32) (v_up : Nat → Int32) (v_left : Nat → Int32) (v_down : Nat → Int32) (z1 : Int32) (z2 : Int32) (z3 : Int32) (z4 : Int32) : Option Int32 :=
  self z2 z3 (z4 + 1)
def jf_Su_groups_L7 (v_squares : Int32) (v_right : Nat → Int32) (v_up : Nat → Int32) (v_left : Nat → Int32) (v_down : Nat → Int32) (z1 : Int32) : Nat → Int32 → Int32 → Int32 → Option Int32
  | 0, _, _, _ => none
  | n + 1, z2, z3, z4 =>
    if v_squares ≤ z4 then (some z3) else (if (z2 >>> (z4 &&& 31)) &&& 1 = 0 then (Option.bind (jf_Su_groupOf v_squares v_right v_up v_left v_down z4 z1) (fun q_1 => jlet (z2 ||| q_1) (fun y2_1 => jf_Su_groups_b38 (jf_Su_groups_L7 v_squares v_right v_up v_left v_down z1 n) v_squares v_right v_up v_left v_down z1 y2_1 (z3 + 1) z4))) else (jf_Su_groups_b38 (jf_Su_groups_L7 v_squares v_right v_up v_left v_down z1 n) v_squares v_right v_up v_left v_down z1 z2 z3 z4))
def jf_Su_groups (v_squares : Int32) (v_right : Nat → Int32) (v_up : Nat → Int32) (v_left : Nat → Int32) (v_down : Nat → Int32) (x1 : Int32) : Option Int32 :=
  Option.bind (jf_Su_groups_L7 v_squares v_right v_up v_left v_down x1 jF 0 0 0) (fun q_2 => some q_2)
abbrev jr_Su_groups : Room := { frames := 5, cells := 0, slots := 0, locals := 114 }
set_option maxRecDepth 100000 in
set_option maxHeartbeats 4000000 in
theorem jc_Su_groups (l : Launch) (g : jG) (a_this a_this_right a_this_up a_this_left a_this_down a_this_spare a_this_order a_this_number : Nat) (v_numbered : Int32) (v_squares : Int32) (v_right : Nat → Int32) (v_up : Nat → Int32) (v_left : Nat → Int32) (v_down : Nat → Int32) (v_spare : Nat → Int32) (v_order : Nat → Int32) (v_number : Nat → Int32) (x1 : Int32) (R : Int32) (hR : jf_Su_groups v_squares v_right v_up v_left v_down x1 = some R) : Met l yX5_groups wsX5_groups jr_Su_groups (jPr g [.ref a_this, .int x1] (jw_Su g a_this a_this_right a_this_up a_this_left a_this_down a_this_spare a_this_order a_this_number v_numbered v_squares v_right v_up v_left v_down v_spare v_order v_number)) (vp_Si (fun r => r = R)) 0 0 (fun _ => False) := by
  refine jm_ri (cc := cX5_groups) (maxL := 5) (by decide +kernel) rfl (Nat.le_of_ble_eq_true rfl) ?_
  intro p e s m below meth c Q hx hb hml hown hts hK hP fin ls hl
  have hl : lv_has ls 5 [(0, .ref a_this), (1, .int x1)] := hl
  have hown : s.vm.findClass RX5 = some m.cls := hown
  have w_X5 : ∀ w ∈ u_ws RX5 TX5 9, w ∈ wsX5_groups := by decide +kernel
  have w_f37 := hts (.fieldLink RX5 37 "Billiardry$Surface" "squares" "I") (by decide +kernel)
  have L7 : ∀ (n : Nat) (z1 : Int32) (z2 : Int32) (z3 : Int32) (z4 : Int32) (ls : Array Slot), lv_has ls 5 [(0, .ref a_this), (1, .int z1), (2, .int z2), (3, .int z3), (4, .int z4)] → ∀ q, jf_Su_groups_L7 v_squares v_right v_up v_left v_down z1 n z2 z3 z4 = some q → (∀ ls : Array Slot, lv_has ls 5 [(3, .int q)] → W p l e jr_Su_groups s m ([.ref a_this, .int x1] : List Value).toArray below meth c s.heap [] 0 0 Q (F0 m 44 ls [])) → W p l e jr_Su_groups s m ([.ref a_this, .int x1] : List Value).toArray below meth c s.heap [] 0 0 Q (F0 m 7 ls []) := by
    intro n z1
    induction n with
    | zero =>
      intro z2 z3 z4 ls hl q hR k
      cases hR
    | succ n ih =>
      have J38 : ∀ (z2 : Int32) (z3 : Int32) (z4 : Int32) (ls : Array Slot), lv_has ls 5 [(0, .ref a_this), (1, .int z1), (2, .int z2), (3, .int z3), (4, .int z4)] → ∀ q, jf_Su_groups_b38 (jf_Su_groups_L7 v_squares v_right v_up v_left v_down z1 n) v_squares v_right v_up v_left v_down z1 z2 z3 z4 = some q → (∀ ls : Array Slot, lv_has ls 5 [(3, .int q)] → W p l e jr_Su_groups s m ([.ref a_this, .int x1] : List Value).toArray below meth c s.heap [] 0 0 Q (F0 m 44 ls [])) → W p l e jr_Su_groups s m ([.ref a_this, .int x1] : List Value).toArray below meth c s.heap [] 0 0 Q (F0 m 38 ls []) := by
        intro z2 z3 z4 ls hl q hR k
        rw [jf_Su_groups_b38] at hR
        refine lv_iinc (v := z4 + 1) (lv' := [(4, .int (z4 + 1)), (0, .ref a_this), (1, .int z1), (2, .int z2), (3, .int z3)]) hx hb dX5_groups_38 hl (k := 4) rfl (by first | rfl | decide) (by decide) rfl (fun ls hl => ?_)
        refine lv_goto (tgt := 7) hx hb dX5_groups_41 (by decide) ?_
        exact ih z2 z3 (z4 + 1) _ (lv_sub hl [1, 2, 3, 4, 0] rfl) _ hR k
      intro z2 z3 z4 ls hl q hR k
      rw [jf_Su_groups_L7] at hR
      refine lv_iload hx hb dX5_groups_7 (lv_at hl 4 rfl) ?_
      refine lv_aload_n hx hb dX5_groups_9 rfl (lv_at hl 0 rfl) ?_
      refine va_get (D := g.1) (ci := 5) (v := .int v_squares) (C := RX5) (T := TX5) (N := 9) hx hb hts w_X5 hown hK.1 hP 0 rfl rfl 8 (by decide) w_f37 (fun _ h9 => h9) rfl dX5_groups_10 ?_
      refine lv_icmp_ge (tgt := 44) hx hb dX5_groups_13 (by decide) (fun c_1 => ?_) (fun c_1 => ?_)
      · replace hR := Eq.trans (Eq.symm (if_pos c_1)) hR
        cases hR
        exact k _ (lv_sub hl [3] rfl)
      · replace hR := Eq.trans (Eq.symm (if_neg c_1)) hR
        refine lv_iload_n hx hb dX5_groups_16 rfl (lv_at hl 2 rfl) ?_
        refine lv_iload hx hb dX5_groups_17 (lv_at hl 4 rfl) ?_
        refine lv_ishr hx hb dX5_groups_19 ?_
        refine lv_iconst (v := 1) hx hb dX5_groups_20 (by decide) ?_
        refine lv_iand hx hb dX5_groups_21 ?_
        refine lv_if_ne (tgt := 38) hx hb dX5_groups_22 (by decide) (fun c_2 => ?_) (fun c_2 => ?_)
        · replace hR := Eq.trans (Eq.symm (if_neg c_2)) hR
          exact J38 z2 z3 z4 _ (lv_sub hl [0, 1, 2, 3, 4] rfl) _ hR k
        · replace hR := Eq.trans (Eq.symm (if_pos c_2)) hR
          refine lv_iinc (v := z3 + 1) (lv' := [(3, .int (z3 + 1)), (0, .ref a_this), (1, .int z1), (2, .int z2), (4, .int z4)]) hx hb dX5_groups_25 hl (k := 3) rfl (by first | rfl | decide) (by decide) rfl (fun ls hl => ?_)
          refine lv_iload_n hx hb dX5_groups_28 rfl (lv_at hl 3 rfl) ?_
          refine lv_aload_n hx hb dX5_groups_29 rfl (lv_at hl 1 rfl) ?_
          refine lv_iload hx hb dX5_groups_30 (lv_at hl 4 rfl) ?_
          refine lv_iload_n hx hb dX5_groups_32 rfl (lv_at hl 2 rfl) ?_
          obtain ⟨q_1, hq_1, hR⟩ := jbind hR
          try dsimp only at hR
          refine jcall_ri (va_runV (As := [.int z4, .int z1]) (rest := [.int z2]) ⟨hx, hb, hml, hown, hts⟩ (jc_Su_groupOf l g a_this a_this_right a_this_up a_this_left a_this_down a_this_spare a_this_order a_this_number v_numbered v_squares v_right v_up v_left v_down v_spare v_order v_number z4 z1 _ hq_1) (cwV 2 hts gX5_groups_X5_groupOf rfl rfl rfl (by decide +kernel) ⟨Nat.le_of_ble_eq_true rfl, Nat.le_of_ble_eq_true rfl⟩) (jpr_v hK hP (ci := 5) (q0 := 0) rfl rfl) rfl rfl hl.1 rfl (lv_room (Nat.le_of_ble_eq_true rfl)) dX5_groups_33 ⟨Nat.zero_le _, Nat.zero_le _⟩) ?_
          refine lv_ior hx hb dX5_groups_36 ?_
          refine jlet_i hR (fun y2_1 hR => ?_)
          try dsimp only at hR
          refine lv_istore_n (lv' := [(2, .int y2_1), (3, .int (z3 + 1)), (0, .ref a_this), (1, .int z1), (4, .int z4)]) hx hb dX5_groups_37 rfl hl (by decide) rfl (fun ls hl => ?_)
          exact J38 y2_1 (z3 + 1) z4 _ (lv_sub hl [2, 3, 0, 1, 4] rfl) _ hR k
  rw [jf_Su_groups] at hR
  refine lv_iconst (v := 0) hx hb dX5_groups_0 (by decide) ?_
  refine lv_istore_n (lv' := [(2, .int 0), (0, .ref a_this), (1, .int x1)]) hx hb dX5_groups_1 rfl hl (by decide) rfl (fun ls hl => ?_)
  refine lv_iconst (v := 0) hx hb dX5_groups_2 (by decide) ?_
  refine lv_istore_n (lv' := [(3, .int 0), (2, .int 0), (0, .ref a_this), (1, .int x1)]) hx hb dX5_groups_3 rfl hl (by decide) rfl (fun ls hl => ?_)
  refine lv_iconst (v := 0) hx hb dX5_groups_4 (by decide) ?_
  refine lv_istore (lv' := [(4, .int 0), (3, .int 0), (2, .int 0), (0, .ref a_this), (1, .int x1)]) hx hb dX5_groups_5 hl (by decide) rfl (fun ls hl => ?_)
  obtain ⟨q_2, hq_2, hR⟩ := jbind hR
  try dsimp only at hR
  refine L7 jF x1 0 0 0 _ (lv_sub hl [3, 4, 2, 1, 0] rfl) _ hq_2 (fun ls hl => ?_)
  refine lv_iload_n hx hb dX5_groups_44 rfl (lv_at hl 0 rfl) ?_
  exact fin _ _ _ (Option.some.inj hR) dX5_groups_45
def jf_Su_numberNext (v_numbered : Int32) (v_order : Nat → Int32) (v_number : Nat → Int32) (x1 : Int32) : Int32 × (Nat → Int32) × (Nat → Int32) :=
  if (v_numbered >>> (x1 &&& 31)) &&& 1 = 0 then (jlet (jf_In_bitCount v_numbered) (fun y2_1 => jlet (jput 5 v_order y2_1 x1) (fun q_1 => jlet (jput 5 v_number x1 y2_1) (fun q_2 => (v_numbered ||| (1 <<< (x1 &&& 31)), q_1, q_2))))) else (v_numbered, v_order, v_number)
abbrev jr_Su_numberNext : Room := { frames := 1, cells := 0, slots := 0, locals := 22 }
set_option maxRecDepth 100000 in
set_option maxHeartbeats 4000000 in
theorem jc_Su_numberNext (l : Launch) (g : jG) (a_this a_this_right a_this_up a_this_left a_this_down a_this_spare a_this_order a_this_number : Nat) (v_numbered : Int32) (v_squares : Int32) (v_right : Nat → Int32) (v_up : Nat → Int32) (v_left : Nat → Int32) (v_down : Nat → Int32) (v_spare : Nat → Int32) (v_order : Nat → Int32) (v_number : Nat → Int32) (x1 : Int32) (R : Int32 × (Nat → Int32) × (Nat → Int32)) (hR : jf_Su_numberNext v_numbered v_order v_number x1 = R) (sz : Nat) : Met l yX5_numberNext wsX5_numberNext jr_Su_numberNext (jPw g [.ref a_this, .int x1] (jw_Su g a_this a_this_right a_this_up a_this_left a_this_down a_this_spare a_this_order a_this_number v_numbered v_squares v_right v_up v_left v_down v_spare v_order v_number) sz) (jQv g (jw_Su g a_this a_this_right a_this_up a_this_left a_this_down a_this_spare a_this_order a_this_number R.1 v_squares v_right v_up v_left v_down v_spare R.2.1 R.2.2) (va_A (jw_Su g a_this a_this_right a_this_up a_this_left a_this_down a_this_spare a_this_order a_this_number v_numbered v_squares v_right v_up v_left v_down v_spare v_order v_number) sz)) 0 0 (va_A (jw_Su g a_this a_this_right a_this_up a_this_left a_this_down a_this_spare a_this_order a_this_number v_numbered v_squares v_right v_up v_left v_down v_spare v_order v_number) sz) := by
  refine jm_wv (cc := cX5_numberNext) (maxL := 3) (by decide +kernel) rfl (Nat.le_of_ble_eq_true rfl) ?_
  intro p e s m below meth c A Q hx hb hml hown hts hK hP hD hA hS fin ls hl
  have hl : lv_has ls 3 [(0, .ref a_this), (1, .int x1)] := hl
  have hown : s.vm.findClass RX5 = some m.cls := hown
  have w_X5 : ∀ w ∈ u_ws RX5 TX5 9, w ∈ wsX5_numberNext := by decide +kernel
  have w_f33 := hts (.fieldLink RX5 33 "Billiardry$Surface" "numbered" "I") (by decide +kernel)
  have w_f27 := hts (.fieldLink RX5 27 "Billiardry$Surface" "order" "[I") (by decide +kernel)
  have w_f30 := hts (.fieldLink RX5 30 "Billiardry$Surface" "number" "[I") (by decide +kernel)
  rw [jf_Su_numberNext] at hR
  refine lv_aload_n hx hb dX5_numberNext_0 rfl (lv_at hl 0 rfl) ?_
  refine va_get (D := g.1) (ci := 5) (v := .int v_numbered) (C := RX5) (T := TX5) (N := 9) hx hb hts w_X5 hown hK.1 hP 0 rfl rfl 7 (by decide) w_f33 (fun _ h9 => h9) rfl dX5_numberNext_1 ?_
  refine lv_iload_n hx hb dX5_numberNext_4 rfl (lv_at hl 1 rfl) ?_
  refine lv_ishr hx hb dX5_numberNext_5 ?_
  refine lv_iconst (v := 1) hx hb dX5_numberNext_6 (by decide) ?_
  refine lv_iand hx hb dX5_numberNext_7 ?_
  refine lv_if_ne (tgt := 49) hx hb dX5_numberNext_8 (by decide) (fun c_1 => ?_) (fun c_1 => ?_)
  · replace hR := Eq.trans (Eq.symm (if_neg c_1)) hR
    subst hR
    exact fin _ _ _ _ hP hS dX5_numberNext_49
  · replace hR := Eq.trans (Eq.symm (if_pos c_1)) hR
    refine lv_aload_n hx hb dX5_numberNext_11 rfl (lv_at hl 0 rfl) ?_
    refine va_get (D := g.1) (ci := 5) (v := .int v_numbered) (C := RX5) (T := TX5) (N := 9) hx hb hts w_X5 hown hK.1 hP 0 rfl rfl 7 (by decide) w_f33 (fun _ h9 => h9) rfl dX5_numberNext_12 ?_
    refine jcall_ri (va_runS (As := [.int v_numbered]) (rest := []) ⟨hx, hb, hml, hown, hts⟩ (jc_In_bitCount l g  v_numbered _ rfl) (va_cwS 1 hts gX5_numberNext_J6_bitCount_0f7a4 rfl rfl rfl (by decide +kernel) ⟨Nat.le_of_ble_eq_true rfl, Nat.le_of_ble_eq_true rfl⟩) (jpr_s hK (hP.sub (ws' := []) [] rfl)) rfl rfl hl.1 rfl (lv_room (Nat.le_of_ble_eq_true rfl)) dX5_numberNext_15 ⟨Nat.zero_le _, Nat.zero_le _⟩) ?_
    refine jlet_i hR (fun y2_1 hR => ?_)
    try dsimp only at hR
    refine lv_istore_n (lv' := [(2, .int y2_1), (0, .ref a_this), (1, .int x1)]) hx hb dX5_numberNext_18 rfl hl (by decide) rfl (fun ls hl => ?_)
    refine lv_aload_n hx hb dX5_numberNext_19 rfl (lv_at hl 1 rfl) ?_
    refine va_get (D := g.1) (ci := 5) (v := .ref a_this_order) (C := RX5) (T := TX5) (N := 9) hx hb hts w_X5 hown hK.1 hP 0 rfl rfl 5 (by decide) w_f27 (fun _ h9 => h9) rfl dX5_numberNext_20 ?_
    refine lv_iload_n hx hb dX5_numberNext_23 rfl (lv_at hl 0 rfl) ?_
    refine lv_iload_n hx hb dX5_numberNext_24 rfl (lv_at hl 2 rfl) ?_
    obtain ⟨q_1, hq_1, hR⟩ := jlet_b hR
    try dsimp only at hR
    refine jcall_wv (ws' := jw_Su g a_this a_this_right a_this_up a_this_left a_this_down a_this_spare a_this_order a_this_number v_numbered v_squares v_right v_up v_left v_down v_spare q_1 v_number) (va_runSN (As := [.ref a_this_order, .int y2_1, .int x1]) (rest := []) ⟨hx, hb, hml, hown, hts⟩ (jc_Bi_put_t l g a_this_order 5 (Nat.le_of_ble_eq_true rfl) v_order y2_1 x1 _ hq_1 _) ⟨va_cnB 3 hts gX5_numberNext_X6_put_n40 rfl rfl rfl (jN_at (q := (RX5, 40, yX6_put)) hK.2 17 rfl) (hts (.initialized RX6) (by decide +kernel)) (by decide +kernel) ⟨Nat.le_of_ble_eq_true rfl, Nat.le_of_ble_eq_true rfl⟩, hts (.static yX6_put) (by decide +kernel), trivial⟩ (jpw_s hK (hP.sub (ws' := jw_arI g a_this_order 5 v_order) [6] rfl) ((jD_to (ws' := jw_Su g a_this a_this_right a_this_up a_this_left a_this_down a_this_spare a_this_order a_this_number v_numbered v_squares v_right v_up v_left v_down v_spare v_order v_number) hD rfl).sub [6] (by decide) rfl)) rfl rfl hl.1 rfl (lv_room (Nat.le_of_ble_eq_true rfl)) dX5_numberNext_25 ⟨Nat.zero_le _, Nat.zero_le _⟩) hP (jD_to hD rfl) hS hA [6] [0, 1, 2, 3, 4, 5, 7] [0, 1, 2, 3, 4, 5, 7, 6] rfl (by decide) rfl (fun H locs hP hS => ?_)
    refine lv_aload_n hx hb dX5_numberNext_28 rfl (lv_at hl 1 rfl) ?_
    refine va_get (D := g.1) (ci := 5) (v := .ref a_this_number) (C := RX5) (T := TX5) (N := 9) hx hb hts w_X5 hown hK.1 hP 0 rfl rfl 6 (by decide) w_f30 (fun _ h9 => h9) rfl dX5_numberNext_29 ?_
    refine lv_iload_n hx hb dX5_numberNext_32 rfl (lv_at hl 2 rfl) ?_
    refine lv_iload_n hx hb dX5_numberNext_33 rfl (lv_at hl 0 rfl) ?_
    obtain ⟨q_2, hq_2, hR⟩ := jlet_b hR
    try dsimp only at hR
    refine jcall_wv (ws' := jw_Su g a_this a_this_right a_this_up a_this_left a_this_down a_this_spare a_this_order a_this_number v_numbered v_squares v_right v_up v_left v_down v_spare q_1 q_2) (va_runSN (As := [.ref a_this_number, .int x1, .int y2_1]) (rest := []) ⟨hx, hb, hml, hown, hts⟩ (jc_Bi_put_t l g a_this_number 5 (Nat.le_of_ble_eq_true rfl) v_number x1 y2_1 _ hq_2 _) ⟨va_cnB 3 hts gX5_numberNext_X6_put_n40 rfl rfl rfl (jN_at (q := (RX5, 40, yX6_put)) hK.2 17 rfl) (hts (.initialized RX6) (by decide +kernel)) (by decide +kernel) ⟨Nat.le_of_ble_eq_true rfl, Nat.le_of_ble_eq_true rfl⟩, hts (.static yX6_put) (by decide +kernel), trivial⟩ (jpw_s hK (hP.sub (ws' := jw_arI g a_this_number 5 v_number) [7] rfl) ((jD_to (ws' := jw_Su g a_this a_this_right a_this_up a_this_left a_this_down a_this_spare a_this_order a_this_number v_numbered v_squares v_right v_up v_left v_down v_spare q_1 v_number) hD rfl).sub [7] (by decide) rfl)) rfl rfl hl.1 rfl (lv_room (Nat.le_of_ble_eq_true rfl)) dX5_numberNext_34 ⟨Nat.zero_le _, Nat.zero_le _⟩) hP (jD_to hD rfl) hS hA [7] [0, 1, 2, 3, 4, 5, 6] [0, 1, 2, 3, 4, 5, 6, 7] rfl (by decide) rfl (fun H locs hP hS => ?_)
    refine lv_aload_n hx hb dX5_numberNext_37 rfl (lv_at hl 1 rfl) ?_
    refine lv_dup hx hb dX5_numberNext_38 rfl ?_
    refine va_get (D := g.1) (ci := 5) (v := .int v_numbered) (C := RX5) (T := TX5) (N := 9) hx hb hts w_X5 hown hK.1 hP 0 rfl rfl 7 (by decide) w_f33 (fun _ h9 => h9) rfl dX5_numberNext_39 ?_
    refine lv_iconst (v := 1) hx hb dX5_numberNext_42 (by decide) ?_
    refine lv_iload_n hx hb dX5_numberNext_43 rfl (lv_at hl 2 rfl) ?_
    refine lv_ishl hx hb dX5_numberNext_44 ?_
    refine lv_ior hx hb dX5_numberNext_45 ?_
    refine va_put (D := g.1) (ci := 5) (v := .int (v_numbered ||| (1 <<< (x1 &&& 31)))) (ty := .int) (C := RX5) (T := TX5) (N := 9) hx hb hts w_X5 tyX5 tyX5_ok nmX5 hown hK.1 hP (jD_to hD rfl) hS 0 rfl rfl 7 (by decide) w_f33 (fun _ h9 => h9) rfl (by decide +kernel) rfl rfl (Nat.le_of_ble_eq_true rfl) dX5_numberNext_46 (fun H locs hP _ hS => ?_)
    have hP : va_P g.1 vwCl (jw_Su g a_this a_this_right a_this_up a_this_left a_this_down a_this_spare a_this_order a_this_number (v_numbered ||| (1 <<< (x1 &&& 31))) v_squares v_right v_up v_left v_down v_spare q_1 q_2) H := hP
    subst hR
    exact fin _ _ _ _ hP hS dX5_numberNext_49
def jf_Su_numberFrom_b108 (self : Int32 → Int32 → Int32 → (Nat → Int32) → (Nat → Int32) → Option (Int32 × Int32 × (Nat → Int32) × (Nat → Int32))) (v_numbered : Int32) (v_squares : Int32) (v_right : Nat → Int32) (v_up : Nat → Int32) (v_order : Nat → Int32) (v_number : Nat → Int32) (z2 : Int32) (z4 : Int32) : Option (Int32 × Int32 × (Nat → Int32) × (Nat → Int32)) :=
  self z2 (z4 + 1) v_numbered v_order v_number
def jf_Su_numberFrom_L18 (v_squares : Int32) (v_right : Nat → Int32) (v_up : Nat → Int32) : Nat → Int32 → Int32 → Int32 → (Nat → Int32) → (Nat → Int32) → Option (Int32 × Int32 × (Nat → Int32) × (Nat → Int32))
  | 0, _, _, _, _, _ => none
  | n + 1, z2, z4, v_numbered, v_order, v_number =>
    if v_squares ≤ z4 then (some (z2, v_numbered, v_order, v_number)) else (jlet ((z2 * 5) * 5) (fun y2_1 => if (jf_In_bitCount v_numbered) ≤ z4 then (jf_Su_numberFrom_b108 (jf_Su_numberFrom_L18 v_squares v_right v_up n) v_numbered v_squares v_right v_up v_order v_number y2_1 z4) else (jlet (jat 5 v_order z4) (fun y5_1 => jlet (jf_Su_numberNext v_numbered v_order v_number (jf_Su_rightOf v_right y5_1)) (fun q_2 => jlet (jf_Su_numberNext q_2.1 q_2.2.1 q_2.2.2 (jf_Su_upOf v_up y5_1)) (fun q_3 => jlet (y2_1 + ((5 * (jat 5 q_3.2.2 (jf_Su_rightOf v_right y5_1))) + (jat 5 q_3.2.2 (jf_Su_upOf v_up y5_1)))) (fun y2_2 => jf_Su_numberFrom_b108 (jf_Su_numberFrom_L18 v_squares v_right v_up n) q_3.1 v_squares v_right v_up q_3.2.1 q_3.2.2 y2_2 z4)))))))
def jf_Su_numberFrom (v_numbered : Int32) (v_squares : Int32) (v_right : Nat → Int32) (v_up : Nat → Int32) (v_order : Nat → Int32) (v_number : Nat → Int32) (x1 : Int32) : Option (Int32 × Int32 × (Nat → Int32) × (Nat → Int32)) :=
  jlet (jf_In_bitCount v_numbered) (fun y3_1 => jlet (jf_Su_numberNext v_numbered v_order v_number x1) (fun q_1 => Option.bind (jf_Su_numberFrom_L18 v_squares v_right v_up jF 0 y3_1 q_1.1 q_1.2.1 q_1.2.2) (fun q_4 => some (q_4.1, q_4.2.1, q_4.2.2.1, q_4.2.2.2))))
abbrev jr_Su_numberFrom : Room := { frames := 2, cells := 0, slots := 0, locals := 44 }
set_option maxRecDepth 100000 in
set_option maxHeartbeats 4000000 in
theorem jc_Su_numberFrom (l : Launch) (g : jG) (a_this a_this_right a_this_up a_this_left a_this_down a_this_spare a_this_order a_this_number : Nat) (v_numbered : Int32) (v_squares : Int32) (v_right : Nat → Int32) (v_up : Nat → Int32) (v_left : Nat → Int32) (v_down : Nat → Int32) (v_spare : Nat → Int32) (v_order : Nat → Int32) (v_number : Nat → Int32) (x1 : Int32) (R : Int32 × Int32 × (Nat → Int32) × (Nat → Int32)) (hR : jf_Su_numberFrom v_numbered v_squares v_right v_up v_order v_number x1 = some R) (sz : Nat) : Met l yX5_numberFrom wsX5_numberFrom jr_Su_numberFrom (jPw g [.ref a_this, .int x1] (jw_Su g a_this a_this_right a_this_up a_this_left a_this_down a_this_spare a_this_order a_this_number v_numbered v_squares v_right v_up v_left v_down v_spare v_order v_number) sz) (jQi g R.1 (jw_Su g a_this a_this_right a_this_up a_this_left a_this_down a_this_spare a_this_order a_this_number R.2.1 v_squares v_right v_up v_left v_down v_spare R.2.2.1 R.2.2.2) (va_A (jw_Su g a_this a_this_right a_this_up a_this_left a_this_down a_this_spare a_this_order a_this_number v_numbered v_squares v_right v_up v_left v_down v_spare v_order v_number) sz)) 0 0 (va_A (jw_Su g a_this a_this_right a_this_up a_this_left a_this_down a_this_spare a_this_order a_this_number v_numbered v_squares v_right v_up v_left v_down v_spare v_order v_number) sz) := by
  refine jm_wi (cc := cX5_numberFrom) (maxL := 6) (by decide +kernel) rfl (Nat.le_of_ble_eq_true rfl) ?_
  intro p e s m below meth c A Q hx hb hml hown hts hK hP hD hA hS fin ls hl
  have hl : lv_has ls 6 [(0, .ref a_this), (1, .int x1)] := hl
  have hown : s.vm.findClass RX5 = some m.cls := hown
  have w_X5 : ∀ w ∈ u_ws RX5 TX5 9, w ∈ wsX5_numberFrom := by decide +kernel
  have w_f33 := hts (.fieldLink RX5 33 "Billiardry$Surface" "numbered" "I") (by decide +kernel)
  have w_f37 := hts (.fieldLink RX5 37 "Billiardry$Surface" "squares" "I") (by decide +kernel)
  have w_f27 := hts (.fieldLink RX5 27 "Billiardry$Surface" "order" "[I") (by decide +kernel)
  have w_f30 := hts (.fieldLink RX5 30 "Billiardry$Surface" "number" "[I") (by decide +kernel)
  have L18 : ∀ (n : Nat) (z2 : Int32) (z4 : Int32) (v_numbered : Int32) (v_order : Nat → Int32) (v_number : Nat → Int32) (H : Heap) (locs : List Loc), va_P g.1 vwCl (jw_Su g a_this a_this_right a_this_up a_this_left a_this_down a_this_spare a_this_order a_this_number v_numbered v_squares v_right v_up v_left v_down v_spare v_order v_number) H → va_S A s.heap H locs → ∀ (ls : Array Slot), lv_has ls 6 [(0, .ref a_this), (2, .int z2), (4, .int z4)] → ∀ q, jf_Su_numberFrom_L18 v_squares v_right v_up n z2 z4 v_numbered v_order v_number = some q → (∀ (H : Heap) (locs : List Loc), va_P g.1 vwCl (jw_Su g a_this a_this_right a_this_up a_this_left a_this_down a_this_spare a_this_order a_this_number q.2.1 v_squares v_right v_up v_left v_down v_spare q.2.2.1 q.2.2.2) H → va_S A s.heap H locs → ∀ ls : Array Slot, lv_has ls 6 [(2, .int q.1)] → W p l e jr_Su_numberFrom s m ([.ref a_this, .int x1] : List Value).toArray below meth c H locs 0 0 Q (F0 m 114 ls [])) → W p l e jr_Su_numberFrom s m ([.ref a_this, .int x1] : List Value).toArray below meth c H locs 0 0 Q (F0 m 18 ls []) := by
    intro n
    induction n with
    | zero =>
      intro z2 z4 v_numbered v_order v_number H locs hP hS ls hl q hR k
      cases hR
    | succ n ih =>
      have J108 : ∀ (v_numbered : Int32) (v_order : Nat → Int32) (v_number : Nat → Int32) (z2 : Int32) (z4 : Int32) (H : Heap) (locs : List Loc), va_P g.1 vwCl (jw_Su g a_this a_this_right a_this_up a_this_left a_this_down a_this_spare a_this_order a_this_number v_numbered v_squares v_right v_up v_left v_down v_spare v_order v_number) H → va_S A s.heap H locs → ∀ (ls : Array Slot), lv_has ls 6 [(0, .ref a_this), (2, .int z2), (4, .int z4)] → ∀ q, jf_Su_numberFrom_b108 (jf_Su_numberFrom_L18 v_squares v_right v_up n) v_numbered v_squares v_right v_up v_order v_number z2 z4 = some q → (∀ (H : Heap) (locs : List Loc), va_P g.1 vwCl (jw_Su g a_this a_this_right a_this_up a_this_left a_this_down a_this_spare a_this_order a_this_number q.2.1 v_squares v_right v_up v_left v_down v_spare q.2.2.1 q.2.2.2) H → va_S A s.heap H locs → ∀ ls : Array Slot, lv_has ls 6 [(2, .int q.1)] → W p l e jr_Su_numberFrom s m ([.ref a_this, .int x1] : List Value).toArray below meth c H locs 0 0 Q (F0 m 114 ls [])) → W p l e jr_Su_numberFrom s m ([.ref a_this, .int x1] : List Value).toArray below meth c H locs 0 0 Q (F0 m 108 ls []) := by
        intro v_numbered v_order v_number z2 z4 H locs hP hS ls hl q hR k
        rw [jf_Su_numberFrom_b108] at hR
        refine lv_iinc (v := z4 + 1) (lv' := [(4, .int (z4 + 1)), (0, .ref a_this), (2, .int z2)]) hx hb dX5_numberFrom_108 hl (k := 2) rfl (by first | rfl | decide) (by decide) rfl (fun ls hl => ?_)
        refine lv_goto (tgt := 18) hx hb dX5_numberFrom_111 (by decide) ?_
        exact ih z2 (z4 + 1) v_numbered v_order v_number _ _ hP hS _ (lv_sub hl [1, 2, 0] rfl) _ hR k
      intro z2 z4 v_numbered v_order v_number H locs hP hS ls hl q hR k
      rw [jf_Su_numberFrom_L18] at hR
      refine lv_iload hx hb dX5_numberFrom_18 (lv_at hl 2 rfl) ?_
      refine lv_aload_n hx hb dX5_numberFrom_20 rfl (lv_at hl 0 rfl) ?_
      refine va_get (D := g.1) (ci := 5) (v := .int v_squares) (C := RX5) (T := TX5) (N := 9) hx hb hts w_X5 hown hK.1 hP 0 rfl rfl 8 (by decide) w_f37 (fun _ h9 => h9) rfl dX5_numberFrom_21 ?_
      refine lv_icmp_ge (tgt := 114) hx hb dX5_numberFrom_24 (by decide) (fun c_1 => ?_) (fun c_1 => ?_)
      · replace hR := Eq.trans (Eq.symm (if_pos c_1)) hR
        cases hR
        exact k _ _ hP hS _ (lv_sub hl [1] rfl)
      · replace hR := Eq.trans (Eq.symm (if_neg c_1)) hR
        refine lv_iload_n hx hb dX5_numberFrom_27 rfl (lv_at hl 1 rfl) ?_
        refine lv_iconst (v := 5) hx hb dX5_numberFrom_28 (by decide) ?_
        refine lv_imul hx hb dX5_numberFrom_29 ?_
        refine lv_iconst (v := 5) hx hb dX5_numberFrom_30 (by decide) ?_
        refine lv_imul hx hb dX5_numberFrom_31 ?_
        refine jlet_i hR (fun y2_1 hR => ?_)
        try dsimp only at hR
        refine lv_istore_n (lv' := [(2, .int y2_1), (0, .ref a_this), (4, .int z4)]) hx hb dX5_numberFrom_32 rfl hl (by decide) rfl (fun ls hl => ?_)
        refine lv_iload hx hb dX5_numberFrom_33 (lv_at hl 2 rfl) ?_
        refine lv_aload_n hx hb dX5_numberFrom_35 rfl (lv_at hl 1 rfl) ?_
        refine va_get (D := g.1) (ci := 5) (v := .int v_numbered) (C := RX5) (T := TX5) (N := 9) hx hb hts w_X5 hown hK.1 hP 0 rfl rfl 7 (by decide) w_f33 (fun _ h9 => h9) rfl dX5_numberFrom_36 ?_
        refine jcall_ri (va_runS (As := [.int v_numbered]) (rest := [.int z4]) ⟨hx, hb, hml, hown, hts⟩ (jc_In_bitCount l g  v_numbered _ rfl) (va_cwS 1 hts gX5_numberFrom_J6_bitCount_0f7a4 rfl rfl rfl (by decide +kernel) ⟨Nat.le_of_ble_eq_true rfl, Nat.le_of_ble_eq_true rfl⟩) (jpr_s hK (hP.sub (ws' := []) [] rfl)) rfl rfl hl.1 rfl (lv_room (Nat.le_of_ble_eq_true rfl)) dX5_numberFrom_39 ⟨Nat.zero_le _, Nat.zero_le _⟩) ?_
        refine lv_icmp_ge (tgt := 108) hx hb dX5_numberFrom_42 (by decide) (fun c_2 => ?_) (fun c_2 => ?_)
        · replace hR := Eq.trans (Eq.symm (if_pos c_2)) hR
          exact J108 v_numbered v_order v_number y2_1 z4 _ _ hP hS _ (lv_sub hl [1, 0, 2] rfl) _ hR k
        · replace hR := Eq.trans (Eq.symm (if_neg c_2)) hR
          refine lv_aload_n hx hb dX5_numberFrom_45 rfl (lv_at hl 1 rfl) ?_
          refine va_get (D := g.1) (ci := 5) (v := .ref a_this_order) (C := RX5) (T := TX5) (N := 9) hx hb hts w_X5 hown hK.1 hP 0 rfl rfl 5 (by decide) w_f27 (fun _ h9 => h9) rfl dX5_numberFrom_46 ?_
          refine lv_iload hx hb dX5_numberFrom_49 (lv_at hl 2 rfl) ?_
          refine jcall_ri (va_runSN (As := [.ref a_this_order, .int z4]) (rest := []) ⟨hx, hb, hml, hown, hts⟩ (jc_Bi_at_t l g a_this_order 5 (Nat.le_of_ble_eq_true rfl) v_order z4 _ rfl) ⟨va_cnB 2 hts gX5_numberFrom_X6_at_n54 rfl rfl rfl (jN_at (q := (RX5, 54, yX6_at)) hK.2 18 rfl) (hts (.initialized RX6) (by decide +kernel)) (by decide +kernel) ⟨Nat.le_of_ble_eq_true rfl, Nat.le_of_ble_eq_true rfl⟩, hts (.static yX6_at) (by decide +kernel), trivial⟩ (jpr_s hK (hP.sub (ws' := jw_arI g a_this_order 5 v_order) [6] rfl)) rfl rfl hl.1 rfl (lv_room (Nat.le_of_ble_eq_true rfl)) dX5_numberFrom_51 ⟨Nat.zero_le _, Nat.zero_le _⟩) ?_
          refine jlet_i hR (fun y5_1 hR => ?_)
          try dsimp only at hR
          refine lv_istore (lv' := [(5, .int y5_1), (2, .int y2_1), (0, .ref a_this), (4, .int z4)]) hx hb dX5_numberFrom_54 hl (by decide) rfl (fun ls hl => ?_)
          refine lv_aload_n hx hb dX5_numberFrom_56 rfl (lv_at hl 2 rfl) ?_
          refine lv_aload_n hx hb dX5_numberFrom_57 rfl (lv_at hl 2 rfl) ?_
          refine lv_iload hx hb dX5_numberFrom_58 (lv_at hl 0 rfl) ?_
          refine jcall_ri (va_runV (As := [.int y5_1]) (rest := [.ref a_this]) ⟨hx, hb, hml, hown, hts⟩ (jc_Su_rightOf l g a_this a_this_right a_this_up a_this_left a_this_down a_this_spare a_this_order a_this_number v_numbered v_squares v_right v_up v_left v_down v_spare v_order v_number y5_1 _ rfl) (cwV 1 hts gX5_numberFrom_X5_rightOf rfl rfl rfl (by decide +kernel) ⟨Nat.le_of_ble_eq_true rfl, Nat.le_of_ble_eq_true rfl⟩) (jpr_v hK hP (ci := 5) (q0 := 0) rfl rfl) rfl rfl hl.1 rfl (lv_room (Nat.le_of_ble_eq_true rfl)) dX5_numberFrom_60 ⟨Nat.zero_le _, Nat.zero_le _⟩) ?_
          obtain ⟨q_2, hq_2, hR⟩ := jlet_b hR
          try dsimp only at hR
          refine jcall_wv (ws' := jw_Su g a_this a_this_right a_this_up a_this_left a_this_down a_this_spare a_this_order a_this_number q_2.1 v_squares v_right v_up v_left v_down v_spare q_2.2.1 q_2.2.2) (va_runV (As := [.int (jf_Su_rightOf v_right y5_1)]) (rest := []) ⟨hx, hb, hml, hown, hts⟩ (jc_Su_numberNext l g a_this a_this_right a_this_up a_this_left a_this_down a_this_spare a_this_order a_this_number v_numbered v_squares v_right v_up v_left v_down v_spare v_order v_number (jf_Su_rightOf v_right y5_1) _ hq_2 _) (cwV 1 hts gX5_numberFrom_X5_numberNext rfl rfl rfl (by decide +kernel) ⟨Nat.le_of_ble_eq_true rfl, Nat.le_of_ble_eq_true rfl⟩) (jpw_v hK hP (jD_to hD rfl) (ci := 5) (q0 := 0) rfl rfl) rfl rfl hl.1 rfl (lv_room (Nat.le_of_ble_eq_true rfl)) dX5_numberFrom_63 ⟨Nat.zero_le _, Nat.zero_le _⟩) hP (jD_to hD rfl) hS hA [0, 1, 2, 3, 4, 5, 6, 7] [] [0, 1, 2, 3, 4, 5, 6, 7] rfl (by decide) rfl (fun H locs hP hS => ?_)
          refine lv_aload_n hx hb dX5_numberFrom_66 rfl (lv_at hl 2 rfl) ?_
          refine lv_aload_n hx hb dX5_numberFrom_67 rfl (lv_at hl 2 rfl) ?_
          refine lv_iload hx hb dX5_numberFrom_68 (lv_at hl 0 rfl) ?_
          refine jcall_ri (va_runV (As := [.int y5_1]) (rest := [.ref a_this]) ⟨hx, hb, hml, hown, hts⟩ (jc_Su_upOf l g a_this a_this_right a_this_up a_this_left a_this_down a_this_spare a_this_order a_this_number q_2.1 v_squares v_right v_up v_left v_down v_spare q_2.2.1 q_2.2.2 y5_1 _ rfl) (cwV 1 hts gX5_numberFrom_X5_upOf rfl rfl rfl (by decide +kernel) ⟨Nat.le_of_ble_eq_true rfl, Nat.le_of_ble_eq_true rfl⟩) (jpr_v hK hP (ci := 5) (q0 := 0) rfl rfl) rfl rfl hl.1 rfl (lv_room (Nat.le_of_ble_eq_true rfl)) dX5_numberFrom_70 ⟨Nat.zero_le _, Nat.zero_le _⟩) ?_
          obtain ⟨q_3, hq_3, hR⟩ := jlet_b hR
          try dsimp only at hR
          refine jcall_wv (ws' := jw_Su g a_this a_this_right a_this_up a_this_left a_this_down a_this_spare a_this_order a_this_number q_3.1 v_squares v_right v_up v_left v_down v_spare q_3.2.1 q_3.2.2) (va_runV (As := [.int (jf_Su_upOf v_up y5_1)]) (rest := []) ⟨hx, hb, hml, hown, hts⟩ (jc_Su_numberNext l g a_this a_this_right a_this_up a_this_left a_this_down a_this_spare a_this_order a_this_number q_2.1 v_squares v_right v_up v_left v_down v_spare q_2.2.1 q_2.2.2 (jf_Su_upOf v_up y5_1) _ hq_3 _) (cwV 1 hts gX5_numberFrom_X5_numberNext rfl rfl rfl (by decide +kernel) ⟨Nat.le_of_ble_eq_true rfl, Nat.le_of_ble_eq_true rfl⟩) (jpw_v hK hP (jD_to hD rfl) (ci := 5) (q0 := 0) rfl rfl) rfl rfl hl.1 rfl (lv_room (Nat.le_of_ble_eq_true rfl)) dX5_numberFrom_73 ⟨Nat.zero_le _, Nat.zero_le _⟩) hP (jD_to hD rfl) hS hA [0, 1, 2, 3, 4, 5, 6, 7] [] [0, 1, 2, 3, 4, 5, 6, 7] rfl (by decide) rfl (fun H locs hP hS => ?_)
          refine lv_iload_n hx hb dX5_numberFrom_76 rfl (lv_at hl 1 rfl) ?_
          refine lv_iconst (v := 5) hx hb dX5_numberFrom_77 (by decide) ?_
          refine lv_aload_n hx hb dX5_numberFrom_78 rfl (lv_at hl 2 rfl) ?_
          refine va_get (D := g.1) (ci := 5) (v := .ref a_this_number) (C := RX5) (T := TX5) (N := 9) hx hb hts w_X5 hown hK.1 hP 0 rfl rfl 6 (by decide) w_f30 (fun _ h9 => h9) rfl dX5_numberFrom_79 ?_
          refine lv_aload_n hx hb dX5_numberFrom_82 rfl (lv_at hl 2 rfl) ?_
          refine lv_iload hx hb dX5_numberFrom_83 (lv_at hl 0 rfl) ?_
          refine jcall_ri (va_runV (As := [.int y5_1]) (rest := [.ref a_this_number, .int 5, .int y2_1]) ⟨hx, hb, hml, hown, hts⟩ (jc_Su_rightOf l g a_this a_this_right a_this_up a_this_left a_this_down a_this_spare a_this_order a_this_number q_3.1 v_squares v_right v_up v_left v_down v_spare q_3.2.1 q_3.2.2 y5_1 _ rfl) (cwV 1 hts gX5_numberFrom_X5_rightOf rfl rfl rfl (by decide +kernel) ⟨Nat.le_of_ble_eq_true rfl, Nat.le_of_ble_eq_true rfl⟩) (jpr_v hK hP (ci := 5) (q0 := 0) rfl rfl) rfl rfl hl.1 rfl (lv_room (Nat.le_of_ble_eq_true rfl)) dX5_numberFrom_85 ⟨Nat.zero_le _, Nat.zero_le _⟩) ?_
          refine jcall_ri (va_runSN (As := [.ref a_this_number, .int (jf_Su_rightOf v_right y5_1)]) (rest := [.int 5, .int y2_1]) ⟨hx, hb, hml, hown, hts⟩ (jc_Bi_at_t l g a_this_number 5 (Nat.le_of_ble_eq_true rfl) q_3.2.2 (jf_Su_rightOf v_right y5_1) _ rfl) ⟨va_cnB 2 hts gX5_numberFrom_X6_at_n54 rfl rfl rfl (jN_at (q := (RX5, 54, yX6_at)) hK.2 18 rfl) (hts (.initialized RX6) (by decide +kernel)) (by decide +kernel) ⟨Nat.le_of_ble_eq_true rfl, Nat.le_of_ble_eq_true rfl⟩, hts (.static yX6_at) (by decide +kernel), trivial⟩ (jpr_s hK (hP.sub (ws' := jw_arI g a_this_number 5 q_3.2.2) [7] rfl)) rfl rfl hl.1 rfl (lv_room (Nat.le_of_ble_eq_true rfl)) dX5_numberFrom_88 ⟨Nat.zero_le _, Nat.zero_le _⟩) ?_
          refine lv_imul hx hb dX5_numberFrom_91 ?_
          refine lv_aload_n hx hb dX5_numberFrom_92 rfl (lv_at hl 2 rfl) ?_
          refine va_get (D := g.1) (ci := 5) (v := .ref a_this_number) (C := RX5) (T := TX5) (N := 9) hx hb hts w_X5 hown hK.1 hP 0 rfl rfl 6 (by decide) w_f30 (fun _ h9 => h9) rfl dX5_numberFrom_93 ?_
          refine lv_aload_n hx hb dX5_numberFrom_96 rfl (lv_at hl 2 rfl) ?_
          refine lv_iload hx hb dX5_numberFrom_97 (lv_at hl 0 rfl) ?_
          refine jcall_ri (va_runV (As := [.int y5_1]) (rest := [.ref a_this_number, .int (5 * (jat 5 q_3.2.2 (jf_Su_rightOf v_right y5_1))), .int y2_1]) ⟨hx, hb, hml, hown, hts⟩ (jc_Su_upOf l g a_this a_this_right a_this_up a_this_left a_this_down a_this_spare a_this_order a_this_number q_3.1 v_squares v_right v_up v_left v_down v_spare q_3.2.1 q_3.2.2 y5_1 _ rfl) (cwV 1 hts gX5_numberFrom_X5_upOf rfl rfl rfl (by decide +kernel) ⟨Nat.le_of_ble_eq_true rfl, Nat.le_of_ble_eq_true rfl⟩) (jpr_v hK hP (ci := 5) (q0 := 0) rfl rfl) rfl rfl hl.1 rfl (lv_room (Nat.le_of_ble_eq_true rfl)) dX5_numberFrom_99 ⟨Nat.zero_le _, Nat.zero_le _⟩) ?_
          refine jcall_ri (va_runSN (As := [.ref a_this_number, .int (jf_Su_upOf v_up y5_1)]) (rest := [.int (5 * (jat 5 q_3.2.2 (jf_Su_rightOf v_right y5_1))), .int y2_1]) ⟨hx, hb, hml, hown, hts⟩ (jc_Bi_at_t l g a_this_number 5 (Nat.le_of_ble_eq_true rfl) q_3.2.2 (jf_Su_upOf v_up y5_1) _ rfl) ⟨va_cnB 2 hts gX5_numberFrom_X6_at_n54 rfl rfl rfl (jN_at (q := (RX5, 54, yX6_at)) hK.2 18 rfl) (hts (.initialized RX6) (by decide +kernel)) (by decide +kernel) ⟨Nat.le_of_ble_eq_true rfl, Nat.le_of_ble_eq_true rfl⟩, hts (.static yX6_at) (by decide +kernel), trivial⟩ (jpr_s hK (hP.sub (ws' := jw_arI g a_this_number 5 q_3.2.2) [7] rfl)) rfl rfl hl.1 rfl (lv_room (Nat.le_of_ble_eq_true rfl)) dX5_numberFrom_102 ⟨Nat.zero_le _, Nat.zero_le _⟩) ?_
          refine lv_iadd hx hb dX5_numberFrom_105 ?_
          refine lv_iadd hx hb dX5_numberFrom_106 ?_
          refine jlet_i hR (fun y2_2 hR => ?_)
          try dsimp only at hR
          refine lv_istore_n (lv' := [(2, .int y2_2), (5, .int y5_1), (0, .ref a_this), (4, .int z4)]) hx hb dX5_numberFrom_107 rfl hl (by decide) rfl (fun ls hl => ?_)
          exact J108 q_3.1 q_3.2.1 q_3.2.2 y2_2 z4 _ _ hP hS _ (lv_sub hl [2, 0, 3] rfl) _ hR k
  rw [jf_Su_numberFrom] at hR
  refine lv_iconst (v := 0) hx hb dX5_numberFrom_0 (by decide) ?_
  refine lv_istore_n (lv' := [(2, .int 0), (0, .ref a_this), (1, .int x1)]) hx hb dX5_numberFrom_1 rfl hl (by decide) rfl (fun ls hl => ?_)
  refine lv_aload_n hx hb dX5_numberFrom_2 rfl (lv_at hl 1 rfl) ?_
  refine va_get (D := g.1) (ci := 5) (v := .int v_numbered) (C := RX5) (T := TX5) (N := 9) hx hb hts w_X5 hown hK.1 hP 0 rfl rfl 7 (by decide) w_f33 (fun _ h9 => h9) rfl dX5_numberFrom_3 ?_
  refine jcall_ri (va_runS (As := [.int v_numbered]) (rest := []) ⟨hx, hb, hml, hown, hts⟩ (jc_In_bitCount l g  v_numbered _ rfl) (va_cwS 1 hts gX5_numberFrom_J6_bitCount_0f7a4 rfl rfl rfl (by decide +kernel) ⟨Nat.le_of_ble_eq_true rfl, Nat.le_of_ble_eq_true rfl⟩) (jpr_s hK (hP.sub (ws' := []) [] rfl)) rfl rfl hl.1 rfl (lv_room (Nat.le_of_ble_eq_true rfl)) dX5_numberFrom_6 ⟨Nat.zero_le _, Nat.zero_le _⟩) ?_
  refine jlet_i hR (fun y3_1 hR => ?_)
  try dsimp only at hR
  refine lv_istore_n (lv' := [(3, .int y3_1), (2, .int 0), (0, .ref a_this), (1, .int x1)]) hx hb dX5_numberFrom_9 rfl hl (by decide) rfl (fun ls hl => ?_)
  refine lv_aload_n hx hb dX5_numberFrom_10 rfl (lv_at hl 2 rfl) ?_
  refine lv_iload_n hx hb dX5_numberFrom_11 rfl (lv_at hl 3 rfl) ?_
  obtain ⟨q_1, hq_1, hR⟩ := jlet_b hR
  try dsimp only at hR
  refine jcall_wv (ws' := jw_Su g a_this a_this_right a_this_up a_this_left a_this_down a_this_spare a_this_order a_this_number q_1.1 v_squares v_right v_up v_left v_down v_spare q_1.2.1 q_1.2.2) (va_runV (As := [.int x1]) (rest := []) ⟨hx, hb, hml, hown, hts⟩ (jc_Su_numberNext l g a_this a_this_right a_this_up a_this_left a_this_down a_this_spare a_this_order a_this_number v_numbered v_squares v_right v_up v_left v_down v_spare v_order v_number x1 _ hq_1 _) (cwV 1 hts gX5_numberFrom_X5_numberNext rfl rfl rfl (by decide +kernel) ⟨Nat.le_of_ble_eq_true rfl, Nat.le_of_ble_eq_true rfl⟩) (jpw_v hK hP (jD_to hD rfl) (ci := 5) (q0 := 0) rfl rfl) rfl rfl hl.1 rfl (lv_room (Nat.le_of_ble_eq_true rfl)) dX5_numberFrom_12 ⟨Nat.zero_le _, Nat.zero_le _⟩) hP (jD_to hD rfl) hS hA [0, 1, 2, 3, 4, 5, 6, 7] [] [0, 1, 2, 3, 4, 5, 6, 7] rfl (by decide) rfl (fun H locs hP hS => ?_)
  refine lv_iload_n hx hb dX5_numberFrom_15 rfl (lv_at hl 0 rfl) ?_
  refine lv_istore (lv' := [(4, .int y3_1), (3, .int y3_1), (2, .int 0), (0, .ref a_this), (1, .int x1)]) hx hb dX5_numberFrom_16 hl (by decide) rfl (fun ls hl => ?_)
  obtain ⟨q_4, hq_4, hR⟩ := jbind hR
  try dsimp only at hR
  refine L18 jF 0 y3_1 q_1.1 q_1.2.1 q_1.2.2 _ _ hP hS _ (lv_sub hl [3, 2, 0] rfl) _ hq_4 (fun H locs hP hS ls hl => ?_)
  refine lv_iload_n hx hb dX5_numberFrom_114 rfl (lv_at hl 0 rfl) ?_
  obtain rfl := (Option.some.inj hR)
  exact fin _ _ _ _ _ rfl hP hS dX5_numberFrom_115
def jf_Su_leastBeginning_b56 (self : Int32 → Int32 → Int32 → Int32 → (Nat → Int32) → (Nat → Int32) → Option (Int32 × Int32 × (Nat → Int32) × (Nat → Int32))) (v_numbered : Int32) (v_squares : Int32) (v_right : Nat → Int32) (v_up : Nat → Int32) (v_order : Nat → Int32) (v_number : Nat → Int32) (z1 : Int32) (z2 : Int32) (z3 : Int32) (z4 : Int32) : Option (Int32 × Int32 × (Nat → Int32) × (Nat → Int32)) :=
  self z2 z3 (z4 + 1) v_numbered v_order v_number
def jf_Su_leastBeginning_b51 (self : Int32 → Int32 → Int32 → Int32 → (Nat → Int32) → (Nat → Int32) → Option (Int32 × Int32 × (Nat → Int32) × (Nat → Int32))) (v_numbered : Int32) (v_squares : Int32) (v_right : Nat → Int32) (v_up : Nat → Int32) (v_order : Nat → Int32) (v_number : Nat → Int32) (z1 : Int32) (z2 : Int32) (z3 : Int32) (z4 : Int32) : Option (Int32 × Int32 × (Nat → Int32) × (Nat → Int32)) :=
  jf_Su_leastBeginning_b56 self z1 v_squares v_right v_up v_order v_number z1 z2 z3 z4
def jf_Su_leastBeginning_L13 (v_squares : Int32) (v_right : Nat → Int32) (v_up : Nat → Int32) (z1 : Int32) : Nat → Int32 → Int32 → Int32 → Int32 → (Nat → Int32) → (Nat → Int32) → Option (Int32 × Int32 × (Nat → Int32) × (Nat → Int32))
  | 0, _, _, _, _, _, _ => none
  | n + 1, z2, z3, z4, v_numbered, v_order, v_number =>
    if v_squares ≤ z4 then (some (z2, v_numbered, v_order, v_number)) else (if (z1 >>> (z4 &&& 31)) &&& 1 = 0 then (Option.bind (jf_Su_numberFrom v_numbered v_squares v_right v_up v_order v_number z4) (fun q_1 => if z3 ≤ q_1.1 then (jf_Su_leastBeginning_b51 (jf_Su_leastBeginning_L13 v_squares v_right v_up z1 n) q_1.2.1 v_squares v_right v_up q_1.2.2.1 q_1.2.2.2 z1 z2 z3 z4) else (jf_Su_leastBeginning_b51 (jf_Su_leastBeginning_L13 v_squares v_right v_up z1 n) q_1.2.1 v_squares v_right v_up q_1.2.2.1 q_1.2.2.2 z1 z4 q_1.1 z4))) else (jf_Su_leastBeginning_b56 (jf_Su_leastBeginning_L13 v_squares v_right v_up z1 n) v_numbered v_squares v_right v_up v_order v_number z1 z2 z3 z4))
def jf_Su_leastBeginning (v_numbered : Int32) (v_squares : Int32) (v_right : Nat → Int32) (v_up : Nat → Int32) (v_order : Nat → Int32) (v_number : Nat → Int32) : Option (Int32 × Int32 × (Nat → Int32) × (Nat → Int32)) :=
  Option.bind (jf_Su_leastBeginning_L13 v_squares v_right v_up v_numbered jF 0 9765625 0 v_numbered v_order v_number) (fun q_2 => some (q_2.1, q_2.2.1, q_2.2.2.1, q_2.2.2.2))
abbrev jr_Su_leastBeginning : Room := { frames := 3, cells := 0, slots := 0, locals := 69 }
set_option maxRecDepth 100000 in
set_option maxHeartbeats 4000000 in
theorem jc_Su_leastBeginning (l : Launch) (g : jG) (a_this a_this_right a_this_up a_this_left a_this_down a_this_spare a_this_order a_this_number : Nat) (v_numbered : Int32) (v_squares : Int32) (v_right : Nat → Int32) (v_up : Nat → Int32) (v_left : Nat → Int32) (v_down : Nat → Int32) (v_spare : Nat → Int32) (v_order : Nat → Int32) (v_number : Nat → Int32) (R : Int32 × Int32 × (Nat → Int32) × (Nat → Int32)) (hR : jf_Su_leastBeginning v_numbered v_squares v_right v_up v_order v_number = some R) (sz : Nat) : Met l yX5_leastBeginning wsX5_leastBeginning jr_Su_leastBeginning (jPw g [.ref a_this] (jw_Su g a_this a_this_right a_this_up a_this_left a_this_down a_this_spare a_this_order a_this_number v_numbered v_squares v_right v_up v_left v_down v_spare v_order v_number) sz) (jQi g R.1 (jw_Su g a_this a_this_right a_this_up a_this_left a_this_down a_this_spare a_this_order a_this_number R.2.1 v_squares v_right v_up v_left v_down v_spare R.2.2.1 R.2.2.2) (va_A (jw_Su g a_this a_this_right a_this_up a_this_left a_this_down a_this_spare a_this_order a_this_number v_numbered v_squares v_right v_up v_left v_down v_spare v_order v_number) sz)) 0 0 (va_A (jw_Su g a_this a_this_right a_this_up a_this_left a_this_down a_this_spare a_this_order a_this_number v_numbered v_squares v_right v_up v_left v_down v_spare v_order v_number) sz) := by
  refine jm_wi (cc := cX5_leastBeginning) (maxL := 6) (by decide +kernel) rfl (Nat.le_of_ble_eq_true rfl) ?_
  intro p e s m below meth c A Q hx hb hml hown hts hK hP hD hA hS fin ls hl
  have hl : lv_has ls 6 [(0, .ref a_this)] := hl
  have hown : s.vm.findClass RX5 = some m.cls := hown
  have w_X5 : ∀ w ∈ u_ws RX5 TX5 9, w ∈ wsX5_leastBeginning := by decide +kernel
  have w_f33 := hts (.fieldLink RX5 33 "Billiardry$Surface" "numbered" "I") (by decide +kernel)
  have w_f37 := hts (.fieldLink RX5 37 "Billiardry$Surface" "squares" "I") (by decide +kernel)
  have L13 : ∀ (n : Nat) (z1 : Int32) (z2 : Int32) (z3 : Int32) (z4 : Int32) (v_numbered : Int32) (v_order : Nat → Int32) (v_number : Nat → Int32) (H : Heap) (locs : List Loc), va_P g.1 vwCl (jw_Su g a_this a_this_right a_this_up a_this_left a_this_down a_this_spare a_this_order a_this_number v_numbered v_squares v_right v_up v_left v_down v_spare v_order v_number) H → va_S A s.heap H locs → ∀ (ls : Array Slot), lv_has ls 6 [(0, .ref a_this), (1, .int z1), (2, .int z2), (3, .int z3), (4, .int z4)] → ∀ q, jf_Su_leastBeginning_L13 v_squares v_right v_up z1 n z2 z3 z4 v_numbered v_order v_number = some q → (∀ (H : Heap) (locs : List Loc), va_P g.1 vwCl (jw_Su g a_this a_this_right a_this_up a_this_left a_this_down a_this_spare a_this_order a_this_number q.2.1 v_squares v_right v_up v_left v_down v_spare q.2.2.1 q.2.2.2) H → va_S A s.heap H locs → ∀ ls : Array Slot, lv_has ls 6 [(2, .int q.1)] → W p l e jr_Su_leastBeginning s m ([.ref a_this] : List Value).toArray below meth c H locs 0 0 Q (F0 m 62 ls [])) → W p l e jr_Su_leastBeginning s m ([.ref a_this] : List Value).toArray below meth c H locs 0 0 Q (F0 m 13 ls []) := by
    intro n z1
    induction n with
    | zero =>
      intro z2 z3 z4 v_numbered v_order v_number H locs hP hS ls hl q hR k
      cases hR
    | succ n ih =>
      have J56 : ∀ (v_numbered : Int32) (v_order : Nat → Int32) (v_number : Nat → Int32) (z2 : Int32) (z3 : Int32) (z4 : Int32) (H : Heap) (locs : List Loc), va_P g.1 vwCl (jw_Su g a_this a_this_right a_this_up a_this_left a_this_down a_this_spare a_this_order a_this_number v_numbered v_squares v_right v_up v_left v_down v_spare v_order v_number) H → va_S A s.heap H locs → ∀ (ls : Array Slot), lv_has ls 6 [(0, .ref a_this), (1, .int z1), (2, .int z2), (3, .int z3), (4, .int z4)] → ∀ q, jf_Su_leastBeginning_b56 (jf_Su_leastBeginning_L13 v_squares v_right v_up z1 n) v_numbered v_squares v_right v_up v_order v_number z1 z2 z3 z4 = some q → (∀ (H : Heap) (locs : List Loc), va_P g.1 vwCl (jw_Su g a_this a_this_right a_this_up a_this_left a_this_down a_this_spare a_this_order a_this_number q.2.1 v_squares v_right v_up v_left v_down v_spare q.2.2.1 q.2.2.2) H → va_S A s.heap H locs → ∀ ls : Array Slot, lv_has ls 6 [(2, .int q.1)] → W p l e jr_Su_leastBeginning s m ([.ref a_this] : List Value).toArray below meth c H locs 0 0 Q (F0 m 62 ls [])) → W p l e jr_Su_leastBeginning s m ([.ref a_this] : List Value).toArray below meth c H locs 0 0 Q (F0 m 56 ls []) := by
        intro v_numbered v_order v_number z2 z3 z4 H locs hP hS ls hl q hR k
        rw [jf_Su_leastBeginning_b56] at hR
        refine lv_iinc (v := z4 + 1) (lv' := [(4, .int (z4 + 1)), (0, .ref a_this), (1, .int z1), (2, .int z2), (3, .int z3)]) hx hb dX5_leastBeginning_56 hl (k := 4) rfl (by first | rfl | decide) (by decide) rfl (fun ls hl => ?_)
        refine lv_goto (tgt := 13) hx hb dX5_leastBeginning_59 (by decide) ?_
        exact ih z2 z3 (z4 + 1) v_numbered v_order v_number _ _ hP hS _ (lv_sub hl [1, 2, 3, 4, 0] rfl) _ hR k
      have J51 : ∀ (v_numbered : Int32) (v_order : Nat → Int32) (v_number : Nat → Int32) (z2 : Int32) (z3 : Int32) (z4 : Int32) (H : Heap) (locs : List Loc), va_P g.1 vwCl (jw_Su g a_this a_this_right a_this_up a_this_left a_this_down a_this_spare a_this_order a_this_number v_numbered v_squares v_right v_up v_left v_down v_spare v_order v_number) H → va_S A s.heap H locs → ∀ (ls : Array Slot), lv_has ls 6 [(0, .ref a_this), (1, .int z1), (2, .int z2), (3, .int z3), (4, .int z4)] → ∀ q, jf_Su_leastBeginning_b51 (jf_Su_leastBeginning_L13 v_squares v_right v_up z1 n) v_numbered v_squares v_right v_up v_order v_number z1 z2 z3 z4 = some q → (∀ (H : Heap) (locs : List Loc), va_P g.1 vwCl (jw_Su g a_this a_this_right a_this_up a_this_left a_this_down a_this_spare a_this_order a_this_number q.2.1 v_squares v_right v_up v_left v_down v_spare q.2.2.1 q.2.2.2) H → va_S A s.heap H locs → ∀ ls : Array Slot, lv_has ls 6 [(2, .int q.1)] → W p l e jr_Su_leastBeginning s m ([.ref a_this] : List Value).toArray below meth c H locs 0 0 Q (F0 m 62 ls [])) → W p l e jr_Su_leastBeginning s m ([.ref a_this] : List Value).toArray below meth c H locs 0 0 Q (F0 m 51 ls []) := by
        intro v_numbered v_order v_number z2 z3 z4 H locs hP hS ls hl q hR k
        rw [jf_Su_leastBeginning_b51] at hR
        refine lv_aload_n hx hb dX5_leastBeginning_51 rfl (lv_at hl 0 rfl) ?_
        refine lv_iload_n hx hb dX5_leastBeginning_52 rfl (lv_at hl 1 rfl) ?_
        refine va_put (D := g.1) (ci := 5) (v := .int z1) (ty := .int) (C := RX5) (T := TX5) (N := 9) hx hb hts w_X5 tyX5 tyX5_ok nmX5 hown hK.1 hP (jD_to hD rfl) hS 0 rfl rfl 7 (by decide) w_f33 (fun _ h9 => h9) rfl (by decide +kernel) rfl rfl (Nat.le_of_ble_eq_true rfl) dX5_leastBeginning_53 (fun H locs hP _ hS => ?_)
        have hP : va_P g.1 vwCl (jw_Su g a_this a_this_right a_this_up a_this_left a_this_down a_this_spare a_this_order a_this_number z1 v_squares v_right v_up v_left v_down v_spare v_order v_number) H := hP
        exact J56 z1 v_order v_number z2 z3 z4 _ _ hP hS _ (lv_sub hl [0, 1, 2, 3, 4] rfl) _ hR k
      intro z2 z3 z4 v_numbered v_order v_number H locs hP hS ls hl q hR k
      rw [jf_Su_leastBeginning_L13] at hR
      refine lv_iload hx hb dX5_leastBeginning_13 (lv_at hl 4 rfl) ?_
      refine lv_aload_n hx hb dX5_leastBeginning_15 rfl (lv_at hl 0 rfl) ?_
      refine va_get (D := g.1) (ci := 5) (v := .int v_squares) (C := RX5) (T := TX5) (N := 9) hx hb hts w_X5 hown hK.1 hP 0 rfl rfl 8 (by decide) w_f37 (fun _ h9 => h9) rfl dX5_leastBeginning_16 ?_
      refine lv_icmp_ge (tgt := 62) hx hb dX5_leastBeginning_19 (by decide) (fun c_1 => ?_) (fun c_1 => ?_)
      · replace hR := Eq.trans (Eq.symm (if_pos c_1)) hR
        cases hR
        exact k _ _ hP hS _ (lv_sub hl [2] rfl)
      · replace hR := Eq.trans (Eq.symm (if_neg c_1)) hR
        refine lv_iload_n hx hb dX5_leastBeginning_22 rfl (lv_at hl 1 rfl) ?_
        refine lv_iload hx hb dX5_leastBeginning_23 (lv_at hl 4 rfl) ?_
        refine lv_ishr hx hb dX5_leastBeginning_25 ?_
        refine lv_iconst (v := 1) hx hb dX5_leastBeginning_26 (by decide) ?_
        refine lv_iand hx hb dX5_leastBeginning_27 ?_
        refine lv_if_ne (tgt := 56) hx hb dX5_leastBeginning_28 (by decide) (fun c_2 => ?_) (fun c_2 => ?_)
        · replace hR := Eq.trans (Eq.symm (if_neg c_2)) hR
          exact J56 v_numbered v_order v_number z2 z3 z4 _ _ hP hS _ (lv_sub hl [0, 1, 2, 3, 4] rfl) _ hR k
        · replace hR := Eq.trans (Eq.symm (if_pos c_2)) hR
          refine lv_aload_n hx hb dX5_leastBeginning_31 rfl (lv_at hl 0 rfl) ?_
          refine lv_iload hx hb dX5_leastBeginning_32 (lv_at hl 4 rfl) ?_
          obtain ⟨q_1, hq_1, hR⟩ := jbind hR
          try dsimp only at hR
          refine jcall_wi (ws' := jw_Su g a_this a_this_right a_this_up a_this_left a_this_down a_this_spare a_this_order a_this_number q_1.2.1 v_squares v_right v_up v_left v_down v_spare q_1.2.2.1 q_1.2.2.2) (va_runV (As := [.int z4]) (rest := []) ⟨hx, hb, hml, hown, hts⟩ (jc_Su_numberFrom l g a_this a_this_right a_this_up a_this_left a_this_down a_this_spare a_this_order a_this_number v_numbered v_squares v_right v_up v_left v_down v_spare v_order v_number z4 _ hq_1 _) (cwV 1 hts gX5_leastBeginning_X5_numberFrom rfl rfl rfl (by decide +kernel) ⟨Nat.le_of_ble_eq_true rfl, Nat.le_of_ble_eq_true rfl⟩) (jpw_v hK hP (jD_to hD rfl) (ci := 5) (q0 := 0) rfl rfl) rfl rfl hl.1 rfl (lv_room (Nat.le_of_ble_eq_true rfl)) dX5_leastBeginning_34 ⟨Nat.zero_le _, Nat.zero_le _⟩) hP (jD_to hD rfl) hS hA [0, 1, 2, 3, 4, 5, 6, 7] [] [0, 1, 2, 3, 4, 5, 6, 7] rfl (by decide) rfl (fun H locs hP hS => ?_)
          refine lv_istore (lv' := [(5, .int q_1.1), (0, .ref a_this), (1, .int z1), (2, .int z2), (3, .int z3), (4, .int z4)]) hx hb dX5_leastBeginning_37 hl (by decide) rfl (fun ls hl => ?_)
          refine lv_iload hx hb dX5_leastBeginning_39 (lv_at hl 0 rfl) ?_
          refine lv_iload_n hx hb dX5_leastBeginning_41 rfl (lv_at hl 4 rfl) ?_
          refine lv_icmp_ge (tgt := 51) hx hb dX5_leastBeginning_42 (by decide) (fun c_3 => ?_) (fun c_3 => ?_)
          · replace hR := Eq.trans (Eq.symm (if_pos c_3)) hR
            exact J51 q_1.2.1 q_1.2.2.1 q_1.2.2.2 z2 z3 z4 _ _ hP hS _ (lv_sub hl [1, 2, 3, 4, 5] rfl) _ hR k
          · replace hR := Eq.trans (Eq.symm (if_neg c_3)) hR
            refine lv_iload hx hb dX5_leastBeginning_45 (lv_at hl 0 rfl) ?_
            refine lv_istore_n (lv' := [(3, .int q_1.1), (5, .int q_1.1), (0, .ref a_this), (1, .int z1), (2, .int z2), (4, .int z4)]) hx hb dX5_leastBeginning_47 rfl hl (by decide) rfl (fun ls hl => ?_)
            refine lv_iload hx hb dX5_leastBeginning_48 (lv_at hl 5 rfl) ?_
            refine lv_istore_n (lv' := [(2, .int z4), (3, .int q_1.1), (5, .int q_1.1), (0, .ref a_this), (1, .int z1), (4, .int z4)]) hx hb dX5_leastBeginning_50 rfl hl (by decide) rfl (fun ls hl => ?_)
            exact J51 q_1.2.1 q_1.2.2.1 q_1.2.2.2 z4 q_1.1 z4 _ _ hP hS _ (lv_sub hl [3, 4, 0, 1, 5] rfl) _ hR k
  rw [jf_Su_leastBeginning] at hR
  refine lv_aload_n hx hb dX5_leastBeginning_0 rfl (lv_at hl 0 rfl) ?_
  refine va_get (D := g.1) (ci := 5) (v := .int v_numbered) (C := RX5) (T := TX5) (N := 9) hx hb hts w_X5 hown hK.1 hP 0 rfl rfl 7 (by decide) w_f33 (fun _ h9 => h9) rfl dX5_leastBeginning_1 ?_
  refine lv_istore_n (lv' := [(1, .int v_numbered), (0, .ref a_this)]) hx hb dX5_leastBeginning_4 rfl hl (by decide) rfl (fun ls hl => ?_)
  refine lv_iconst (v := 0) hx hb dX5_leastBeginning_5 (by decide) ?_
  refine lv_istore_n (lv' := [(2, .int 0), (1, .int v_numbered), (0, .ref a_this)]) hx hb dX5_leastBeginning_6 rfl hl (by decide) rfl (fun ls hl => ?_)
  refine lv_ldc (v := 9765625) hx hb hown (hts (.constant RX5 94 (9765625)) (by decide +kernel)) dX5_leastBeginning_7 ?_
  refine lv_istore_n (lv' := [(3, .int 9765625), (2, .int 0), (1, .int v_numbered), (0, .ref a_this)]) hx hb dX5_leastBeginning_9 rfl hl (by decide) rfl (fun ls hl => ?_)
  refine lv_iconst (v := 0) hx hb dX5_leastBeginning_10 (by decide) ?_
  refine lv_istore (lv' := [(4, .int 0), (3, .int 9765625), (2, .int 0), (1, .int v_numbered), (0, .ref a_this)]) hx hb dX5_leastBeginning_11 hl (by decide) rfl (fun ls hl => ?_)
  obtain ⟨q_2, hq_2, hR⟩ := jbind hR
  try dsimp only at hR
  refine L13 jF v_numbered 0 9765625 0 v_numbered v_order v_number _ _ hP hS _ (lv_sub hl [4, 3, 2, 1, 0] rfl) _ hq_2 (fun H locs hP hS ls hl => ?_)
  refine lv_iload_n hx hb dX5_leastBeginning_62 rfl (lv_at hl 0 rfl) ?_
  obtain rfl := (Option.some.inj hR)
  exact fin _ _ _ _ _ rfl hP hS dX5_leastBeginning_63
def jf_Su_leastCode_L9 (v_squares : Int32) (v_right : Nat → Int32) (v_up : Nat → Int32) : Nat → Int32 → Int32 → Int32 → (Nat → Int32) → (Nat → Int32) → Option (Int32 × Int32 × (Nat → Int32) × (Nat → Int32))
  | 0, _, _, _, _, _ => none
  | n + 1, z1, z2, v_numbered, v_order, v_number =>
    if v_squares ≤ z2 then (some (z1, v_numbered, v_order, v_number)) else (if v_squares ≤ (jf_In_bitCount v_numbered) then (some (z1, v_numbered, v_order, v_number)) else (Option.bind (jf_Su_leastBeginning v_numbered v_squares v_right v_up v_order v_number) (fun q_1 => Option.bind (jf_Su_numberFrom q_1.2.1 v_squares v_right v_up q_1.2.2.1 q_1.2.2.2 q_1.1) (fun q_2 => jlet (z1 + q_2.1) (fun y1_1 => (jf_Su_leastCode_L9 v_squares v_right v_up n) y1_1 (z2 + 1) q_2.2.1 q_2.2.2.1 q_2.2.2.2)))))
def jf_Su_leastCode (v_numbered : Int32) (v_squares : Int32) (v_right : Nat → Int32) (v_up : Nat → Int32) (v_order : Nat → Int32) (v_number : Nat → Int32) : Option (Int32 × Int32 × (Nat → Int32) × (Nat → Int32)) :=
  Option.bind (jf_Su_leastCode_L9 v_squares v_right v_up jF 0 0 0 v_order v_number) (fun q_3 => some (q_3.1, q_3.2.1, q_3.2.2.1, q_3.2.2.2))
abbrev jr_Su_leastCode : Room := { frames := 4, cells := 0, slots := 0, locals := 94 }
set_option maxRecDepth 100000 in
set_option maxHeartbeats 4000000 in
theorem jc_Su_leastCode (l : Launch) (g : jG) (a_this a_this_right a_this_up a_this_left a_this_down a_this_spare a_this_order a_this_number : Nat) (v_numbered : Int32) (v_squares : Int32) (v_right : Nat → Int32) (v_up : Nat → Int32) (v_left : Nat → Int32) (v_down : Nat → Int32) (v_spare : Nat → Int32) (v_order : Nat → Int32) (v_number : Nat → Int32) (R : Int32 × Int32 × (Nat → Int32) × (Nat → Int32)) (hR : jf_Su_leastCode v_numbered v_squares v_right v_up v_order v_number = some R) (sz : Nat) : Met l yX5_leastCode wsX5_leastCode jr_Su_leastCode (jPw g [.ref a_this] (jw_Su g a_this a_this_right a_this_up a_this_left a_this_down a_this_spare a_this_order a_this_number v_numbered v_squares v_right v_up v_left v_down v_spare v_order v_number) sz) (jQi g R.1 (jw_Su g a_this a_this_right a_this_up a_this_left a_this_down a_this_spare a_this_order a_this_number R.2.1 v_squares v_right v_up v_left v_down v_spare R.2.2.1 R.2.2.2) (va_A (jw_Su g a_this a_this_right a_this_up a_this_left a_this_down a_this_spare a_this_order a_this_number v_numbered v_squares v_right v_up v_left v_down v_spare v_order v_number) sz)) 0 0 (va_A (jw_Su g a_this a_this_right a_this_up a_this_left a_this_down a_this_spare a_this_order a_this_number v_numbered v_squares v_right v_up v_left v_down v_spare v_order v_number) sz) := by
  refine jm_wi (cc := cX5_leastCode) (maxL := 3) (by decide +kernel) rfl (Nat.le_of_ble_eq_true rfl) ?_
  intro p e s m below meth c A Q hx hb hml hown hts hK hP hD hA hS fin ls hl
  have hl : lv_has ls 3 [(0, .ref a_this)] := hl
  have hown : s.vm.findClass RX5 = some m.cls := hown
  have w_X5 : ∀ w ∈ u_ws RX5 TX5 9, w ∈ wsX5_leastCode := by decide +kernel
  have w_f33 := hts (.fieldLink RX5 33 "Billiardry$Surface" "numbered" "I") (by decide +kernel)
  have w_f37 := hts (.fieldLink RX5 37 "Billiardry$Surface" "squares" "I") (by decide +kernel)
  have L9 : ∀ (n : Nat) (z1 : Int32) (z2 : Int32) (v_numbered : Int32) (v_order : Nat → Int32) (v_number : Nat → Int32) (H : Heap) (locs : List Loc), va_P g.1 vwCl (jw_Su g a_this a_this_right a_this_up a_this_left a_this_down a_this_spare a_this_order a_this_number v_numbered v_squares v_right v_up v_left v_down v_spare v_order v_number) H → va_S A s.heap H locs → ∀ (ls : Array Slot), lv_has ls 3 [(0, .ref a_this), (1, .int z1), (2, .int z2)] → ∀ q, jf_Su_leastCode_L9 v_squares v_right v_up n z1 z2 v_numbered v_order v_number = some q → (∀ (H : Heap) (locs : List Loc), va_P g.1 vwCl (jw_Su g a_this a_this_right a_this_up a_this_left a_this_down a_this_spare a_this_order a_this_number q.2.1 v_squares v_right v_up v_left v_down v_spare q.2.2.1 q.2.2.2) H → va_S A s.heap H locs → ∀ ls : Array Slot, lv_has ls 3 [(1, .int q.1)] → W p l e jr_Su_leastCode s m ([.ref a_this] : List Value).toArray below meth c H locs 0 0 Q (F0 m 48 ls [])) → W p l e jr_Su_leastCode s m ([.ref a_this] : List Value).toArray below meth c H locs 0 0 Q (F0 m 9 ls []) := by
    intro n
    induction n with
    | zero =>
      intro z1 z2 v_numbered v_order v_number H locs hP hS ls hl q hR k
      cases hR
    | succ n ih =>
      intro z1 z2 v_numbered v_order v_number H locs hP hS ls hl q hR k
      rw [jf_Su_leastCode_L9] at hR
      refine lv_iload_n hx hb dX5_leastCode_9 rfl (lv_at hl 2 rfl) ?_
      refine lv_aload_n hx hb dX5_leastCode_10 rfl (lv_at hl 0 rfl) ?_
      refine va_get (D := g.1) (ci := 5) (v := .int v_squares) (C := RX5) (T := TX5) (N := 9) hx hb hts w_X5 hown hK.1 hP 0 rfl rfl 8 (by decide) w_f37 (fun _ h9 => h9) rfl dX5_leastCode_11 ?_
      refine lv_icmp_ge (tgt := 48) hx hb dX5_leastCode_14 (by decide) (fun c_1 => ?_) (fun c_1 => ?_)
      · replace hR := Eq.trans (Eq.symm (if_pos c_1)) hR
        cases hR
        exact k _ _ hP hS _ (lv_sub hl [1] rfl)
      · replace hR := Eq.trans (Eq.symm (if_neg c_1)) hR
        refine lv_aload_n hx hb dX5_leastCode_17 rfl (lv_at hl 0 rfl) ?_
        refine va_get (D := g.1) (ci := 5) (v := .int v_numbered) (C := RX5) (T := TX5) (N := 9) hx hb hts w_X5 hown hK.1 hP 0 rfl rfl 7 (by decide) w_f33 (fun _ h9 => h9) rfl dX5_leastCode_18 ?_
        refine jcall_ri (va_runS (As := [.int v_numbered]) (rest := []) ⟨hx, hb, hml, hown, hts⟩ (jc_In_bitCount l g  v_numbered _ rfl) (va_cwS 1 hts gX5_leastCode_J6_bitCount_0f7a4 rfl rfl rfl (by decide +kernel) ⟨Nat.le_of_ble_eq_true rfl, Nat.le_of_ble_eq_true rfl⟩) (jpr_s hK (hP.sub (ws' := []) [] rfl)) rfl rfl hl.1 rfl (lv_room (Nat.le_of_ble_eq_true rfl)) dX5_leastCode_21 ⟨Nat.zero_le _, Nat.zero_le _⟩) ?_
        refine lv_aload_n hx hb dX5_leastCode_24 rfl (lv_at hl 0 rfl) ?_
        refine va_get (D := g.1) (ci := 5) (v := .int v_squares) (C := RX5) (T := TX5) (N := 9) hx hb hts w_X5 hown hK.1 hP 0 rfl rfl 8 (by decide) w_f37 (fun _ h9 => h9) rfl dX5_leastCode_25 ?_
        refine lv_icmp_ge (tgt := 48) hx hb dX5_leastCode_28 (by decide) (fun c_2 => ?_) (fun c_2 => ?_)
        · replace hR := Eq.trans (Eq.symm (if_pos c_2)) hR
          cases hR
          exact k _ _ hP hS _ (lv_sub hl [1] rfl)
        · replace hR := Eq.trans (Eq.symm (if_neg c_2)) hR
          refine lv_iload_n hx hb dX5_leastCode_31 rfl (lv_at hl 1 rfl) ?_
          refine lv_aload_n hx hb dX5_leastCode_32 rfl (lv_at hl 0 rfl) ?_
          refine lv_aload_n hx hb dX5_leastCode_33 rfl (lv_at hl 0 rfl) ?_
          obtain ⟨q_1, hq_1, hR⟩ := jbind hR
          try dsimp only at hR
          refine jcall_wi (ws' := jw_Su g a_this a_this_right a_this_up a_this_left a_this_down a_this_spare a_this_order a_this_number q_1.2.1 v_squares v_right v_up v_left v_down v_spare q_1.2.2.1 q_1.2.2.2) (va_runV (As := []) (rest := [.ref a_this, .int z1]) ⟨hx, hb, hml, hown, hts⟩ (jc_Su_leastBeginning l g a_this a_this_right a_this_up a_this_left a_this_down a_this_spare a_this_order a_this_number v_numbered v_squares v_right v_up v_left v_down v_spare v_order v_number _ hq_1 _) (cwV 0 hts gX5_leastCode_X5_leastBeginning rfl rfl rfl (by decide +kernel) ⟨Nat.le_of_ble_eq_true rfl, Nat.le_of_ble_eq_true rfl⟩) (jpw_v hK hP (jD_to hD rfl) (ci := 5) (q0 := 0) rfl rfl) rfl rfl hl.1 rfl (lv_room (Nat.le_of_ble_eq_true rfl)) dX5_leastCode_34 ⟨Nat.zero_le _, Nat.zero_le _⟩) hP (jD_to hD rfl) hS hA [0, 1, 2, 3, 4, 5, 6, 7] [] [0, 1, 2, 3, 4, 5, 6, 7] rfl (by decide) rfl (fun H locs hP hS => ?_)
          obtain ⟨q_2, hq_2, hR⟩ := jbind hR
          try dsimp only at hR
          refine jcall_wi (ws' := jw_Su g a_this a_this_right a_this_up a_this_left a_this_down a_this_spare a_this_order a_this_number q_2.2.1 v_squares v_right v_up v_left v_down v_spare q_2.2.2.1 q_2.2.2.2) (va_runV (As := [.int q_1.1]) (rest := [.int z1]) ⟨hx, hb, hml, hown, hts⟩ (jc_Su_numberFrom l g a_this a_this_right a_this_up a_this_left a_this_down a_this_spare a_this_order a_this_number q_1.2.1 v_squares v_right v_up v_left v_down v_spare q_1.2.2.1 q_1.2.2.2 q_1.1 _ hq_2 _) (cwV 1 hts gX5_leastCode_X5_numberFrom rfl rfl rfl (by decide +kernel) ⟨Nat.le_of_ble_eq_true rfl, Nat.le_of_ble_eq_true rfl⟩) (jpw_v hK hP (jD_to hD rfl) (ci := 5) (q0 := 0) rfl rfl) rfl rfl hl.1 rfl (lv_room (Nat.le_of_ble_eq_true rfl)) dX5_leastCode_37 ⟨Nat.zero_le _, Nat.zero_le _⟩) hP (jD_to hD rfl) hS hA [0, 1, 2, 3, 4, 5, 6, 7] [] [0, 1, 2, 3, 4, 5, 6, 7] rfl (by decide) rfl (fun H locs hP hS => ?_)
          refine lv_iadd hx hb dX5_leastCode_40 ?_
          refine jlet_i hR (fun y1_1 hR => ?_)
          try dsimp only at hR
          refine lv_istore_n (lv' := [(1, .int y1_1), (0, .ref a_this), (2, .int z2)]) hx hb dX5_leastCode_41 rfl hl (by decide) rfl (fun ls hl => ?_)
          refine lv_iinc (v := z2 + 1) (lv' := [(2, .int (z2 + 1)), (1, .int y1_1), (0, .ref a_this)]) hx hb dX5_leastCode_42 hl (k := 2) rfl (by first | rfl | decide) (by decide) rfl (fun ls hl => ?_)
          refine lv_goto (tgt := 9) hx hb dX5_leastCode_45 (by decide) ?_
          exact ih y1_1 (z2 + 1) q_2.2.1 q_2.2.2.1 q_2.2.2.2 _ _ hP hS _ (lv_sub hl [2, 1, 0] rfl) _ hR k
  rw [jf_Su_leastCode] at hR
  refine lv_iconst (v := 0) hx hb dX5_leastCode_0 (by decide) ?_
  refine lv_istore_n (lv' := [(1, .int 0), (0, .ref a_this)]) hx hb dX5_leastCode_1 rfl hl (by decide) rfl (fun ls hl => ?_)
  refine lv_aload_n hx hb dX5_leastCode_2 rfl (lv_at hl 1 rfl) ?_
  refine lv_iconst (v := 0) hx hb dX5_leastCode_3 (by decide) ?_
  refine va_put (D := g.1) (ci := 5) (v := .int 0) (ty := .int) (C := RX5) (T := TX5) (N := 9) hx hb hts w_X5 tyX5 tyX5_ok nmX5 hown hK.1 hP (jD_to hD rfl) hS 0 rfl rfl 7 (by decide) w_f33 (fun _ h9 => h9) rfl (by decide +kernel) rfl rfl (Nat.le_of_ble_eq_true rfl) dX5_leastCode_4 (fun H locs hP _ hS => ?_)
  have hP : va_P g.1 vwCl (jw_Su g a_this a_this_right a_this_up a_this_left a_this_down a_this_spare a_this_order a_this_number 0 v_squares v_right v_up v_left v_down v_spare v_order v_number) H := hP
  refine lv_iconst (v := 0) hx hb dX5_leastCode_7 (by decide) ?_
  refine lv_istore_n (lv' := [(2, .int 0), (1, .int 0), (0, .ref a_this)]) hx hb dX5_leastCode_8 rfl hl (by decide) rfl (fun ls hl => ?_)
  obtain ⟨q_3, hq_3, hR⟩ := jbind hR
  try dsimp only at hR
  refine L9 jF 0 0 0 v_order v_number _ _ hP hS _ (lv_sub hl [2, 1, 0] rfl) _ hq_3 (fun H locs hP hS ls hl => ?_)
  refine lv_iload_n hx hb dX5_leastCode_48 rfl (lv_at hl 0 rfl) ?_
  obtain rfl := (Option.some.inj hR)
  exact fin _ _ _ _ _ rfl hP hS dX5_leastCode_49
