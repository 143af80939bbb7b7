/-! the law of p35, walks laid by wip/gen/gen.py: jf_.. what a method answers, jc_.. its contract -/
abbrev jw_ar5Iar5Iar5I (g : jG) (a_r1 a_r2 a_n1 : Nat) (v_r1 : Nat → Int32) (v_r2 : Nat → Int32) (v_n1 : Nat → Int32) : va_W := [(a_r1, .inl (g.2.1, 5, .inl v_r1)), (a_r2, .inl (g.2.1, 5, .inl v_r2)), (a_n1, .inl (g.2.1, 5, .inl v_n1))]
def jf_Lw_shears_L7 (v_r1 : Nat → Int32) (v_r2 : Nat → Int32) (z0 : Int32) : Nat → Int32 → (Nat → Int32) → Option (Nat → Int32)
  | 0, _, _ => none
  | n + 1, z4, v_n1 =>
    if z0 ≤ z4 then (some v_n1) else (if jin z4 5 = true then (if jin (v_r1 z4.toNatClampNeg) 5 = true then (if jin z4 5 = true then ((jf_Lw_shears_L7 v_r1 v_r2 z0 n) (z4 + 1) (upd v_n1 z4.toNatClampNeg (v_r2 (v_r1 z4.toNatClampNeg).toNatClampNeg))) else none) else none) else none)
def jf_Lw_shears_L32 (v_n1 : Nat → Int32) (z0 : Int32) : Nat → Int32 → (Nat → Int32) → Option (Nat → Int32)
  | 0, _, _ => none
  | n + 1, z4, v_r2 =>
    if z0 ≤ z4 then (some v_r2) else (if jin z4 5 = true then (if jin z4 5 = true then ((jf_Lw_shears_L32 v_n1 z0 n) (z4 + 1) (upd v_r2 z4.toNatClampNeg (v_n1 z4.toNatClampNeg))) else none) else none)
def jf_Lw_shears (v_r1 : Nat → Int32) (v_r2 : Nat → Int32) (x0 : Int32) : Option (Nat → Int32) :=
  Option.bind (jf_Lw_shears_L7 v_r1 v_r2 x0 jF 0 (fun _ => 0)) (fun q_1 => Option.bind (jf_Lw_shears_L32 q_1 x0 jF 0 v_r2) (fun q_2 => some q_2))
abbrev jr_Lw_shears : Room := { frames := 0, cells := 1, slots := 10, locals := 0 }
set_option maxRecDepth 100000 in
set_option maxHeartbeats 4000000 in
theorem jc_Lw_shears (l : Launch) (g : jG) (a_r1 a_r2 : Nat) (v_r1 : Nat → Int32) (v_r2 : Nat → Int32) (x0 : Int32) (hst : l.stackTraces = false) (R : (Nat → Int32)) (hR : jf_Lw_shears v_r1 v_r2 x0 = some R) (sz : Nat) : Met l yL_shears wsL_shears jr_Lw_shears (jPx g [.int x0, .ref a_r1, .ref a_r2] (jw_ar5Iar5I g a_r1 a_r2 v_r1 v_r2) sz) (jQv g (jw_ar5Iar5I g a_r1 a_r2 v_r1 R) (va_A (jw_ar5Iar5I g a_r1 a_r2 v_r1 v_r2) sz)) 1 10 (va_A (jw_ar5Iar5I g a_r1 a_r2 v_r1 v_r2) sz) := by
  refine jm_kv (cc := cL_shears) (maxL := 5) (by decide +kernel) rfl (Nat.le_of_ble_eq_true rfl) ?_
  intro p e s m below meth c A Q hx hb hml hown hts hK hE hZ hP hD hA hS fin ls hl
  have hl : lv_has ls 5 [(0, .int x0), (1, .ref a_r1), (2, .ref a_r2)] := hl
  have hown : s.vm.findClass RL = some m.cls := hown
  rw [jf_Lw_shears] at hR
  refine W.widen (k := 0) (n := 10 * 0) (by decide) (by decide) ?_
  refine lv_iconst (v := 5) hx hb dL_shears_0 (by decide) ?_
  refine jnewa_I hx hb (hts (.arrayClass .int) (by decide +kernel)) hK hP (jD_to (ws' := jw_ar5Iar5I g a_r1 a_r2 v_r1 v_r2) hD rfl) hS hA (N := 5) (by decide) (by decide) (by decide) (by show 0 + 1 ≤ 1; omega) (by show 10 * 0 + 5 ≤ 10; omega) dL_shears_1 (fun a_n1 H hP hD hS => ?_)
  have hP : va_P g.1 vwCl (jw_ar5Iar5Iar5I g a_r1 a_r2 a_n1 v_r1 v_r2 (fun _ => 0)) H := hP
  have hD : va_D A (jw_ar5Iar5Iar5I g a_r1 a_r2 a_n1 v_r1 v_r2 (fun _ => 0)) := hD
  refine W.widen (k := 0 + 1) (n := (10 * (0 + 1))) (by omega) (by omega) ?_
  have L7 : ∀ (n : Nat) (X : Nat) (_ : X ≤ 1) (v_r2 : Nat → Int32) (z0 : Int32) (z4 : Int32) (v_n1 : Nat → Int32) (H : Heap) (locs : List Loc), va_P g.1 vwCl (jw_ar5Iar5Iar5I g a_r1 a_r2 a_n1 v_r1 v_r2 v_n1) H → va_S A s.heap H locs → ∀ (ls : Array Slot), lv_has ls 5 [(0, .int z0), (1, .ref a_r1), (2, .ref a_r2), (3, .ref a_n1), (4, .int z4)] → ∀ q, jf_Lw_shears_L7 v_r1 v_r2 z0 n z4 v_n1 = some q → (∀ (H : Heap) (locs : List Loc), va_P g.1 vwCl (jw_ar5Iar5Iar5I g a_r1 a_r2 a_n1 v_r1 v_r2 q) H → va_S A s.heap H locs → ∀ ls : Array Slot, lv_has ls 5 [(0, .int z0), (2, .ref a_r2), (3, .ref a_n1)] → W p l e jr_Lw_shears s m ([.int x0, .ref a_r1, .ref a_r2] : List Value).toArray below meth c H locs X (10 * X) Q (F0 m 29 ls [])) → W p l e jr_Lw_shears s m ([.int x0, .ref a_r1, .ref a_r2] : List Value).toArray below meth c H locs X (10 * X) Q (F0 m 7 ls []) := by
    intro n X hX v_r2 z0
    induction n with
    | zero =>
      intro z4 v_n1 H locs hP hS ls hl q hR k
      cases hR
    | succ n ih =>
      intro z4 v_n1 H locs hP hS ls hl q hR k
      rw [jf_Lw_shears_L7] at hR
      refine lv_iload hx hb dL_shears_7 (lv_at hl 4 rfl) ?_
      refine lv_iload_n hx hb dL_shears_9 rfl (lv_at hl 0 rfl) ?_
      refine lv_icmp_ge (tgt := 29) hx hb dL_shears_10 (by decide) (fun c_1 => ?_) (fun c_1 => ?_)
      · replace hR := Eq.trans (Eq.symm (if_pos c_1)) hR
        cases hR
        exact k _ _ hP hS _ (lv_sub hl [0, 2, 3] rfl)
      · replace hR := Eq.trans (Eq.symm (if_neg c_1)) hR
        refine lv_aload_n hx hb dL_shears_13 rfl (lv_at hl 3 rfl) ?_
        refine lv_iload hx hb dL_shears_14 (lv_at hl 4 rfl) ?_
        refine lv_aload_n hx hb dL_shears_16 rfl (lv_at hl 2 rfl) ?_
        refine lv_aload_n hx hb dL_shears_17 rfl (lv_at hl 1 rfl) ?_
        refine lv_iload hx hb dL_shears_18 (lv_at hl 4 rfl) ?_
        by_cases c_2 : jin z4 5 = true
        case neg => replace hR := Eq.trans (Eq.symm (if_neg c_2)) hR; cases hR
        replace hR := Eq.trans (Eq.symm (if_pos c_2)) hR
        refine va_iald hx hb hK.1 hP 0 0 rfl rfl (jin_in c_2) dL_shears_20 ?_
        by_cases c_3 : jin (v_r1 z4.toNatClampNeg) 5 = true
        case neg => replace hR := Eq.trans (Eq.symm (if_neg c_3)) hR; cases hR
        replace hR := Eq.trans (Eq.symm (if_pos c_3)) hR
        refine va_iald hx hb hK.1 hP 1 0 rfl rfl (jin_in c_3) dL_shears_21 ?_
        by_cases c_4 : jin z4 5 = true
        case neg => replace hR := Eq.trans (Eq.symm (if_neg c_4)) hR; cases hR
        replace hR := Eq.trans (Eq.symm (if_pos c_4)) hR
        refine va_iast hx hb hK.1 hP (jD_to hD rfl) hS 2 0 rfl rfl (jin_in c_4) dL_shears_22 (fun H locs hP _ hS => ?_)
        have hP : va_P g.1 vwCl (jw_ar5Iar5Iar5I g a_r1 a_r2 a_n1 v_r1 v_r2 (upd v_n1 z4.toNatClampNeg (v_r2 (v_r1 z4.toNatClampNeg).toNatClampNeg))) H := hP
        refine lv_iinc (v := z4 + 1) (lv' := [(4, .int (z4 + 1)), (0, .int z0), (1, .ref a_r1), (2, .ref a_r2), (3, .ref a_n1)]) hx hb dL_shears_23 hl (k := 4) rfl (by first | rfl | decide) (by decide) rfl (fun ls hl => ?_)
        refine lv_goto (tgt := 7) hx hb dL_shears_26 (by decide) ?_
        exact ih (z4 + 1) (upd v_n1 z4.toNatClampNeg (v_r2 (v_r1 z4.toNatClampNeg).toNatClampNeg)) _ _ hP hS _ (lv_sub hl [1, 2, 3, 4, 0] rfl) _ hR k
  have L32 : ∀ (n : Nat) (X : Nat) (_ : X ≤ 1) (v_n1 : Nat → Int32) (z0 : Int32) (z4 : Int32) (v_r2 : Nat → Int32) (H : Heap) (locs : List Loc), va_P g.1 vwCl (jw_ar5Iar5Iar5I g a_r1 a_r2 a_n1 v_r1 v_r2 v_n1) H → va_S A s.heap H locs → ∀ (ls : Array Slot), lv_has ls 5 [(0, .int z0), (2, .ref a_r2), (3, .ref a_n1), (4, .int z4)] → ∀ q, jf_Lw_shears_L32 v_n1 z0 n z4 v_r2 = some q → (∀ (H : Heap) (locs : List Loc), va_P g.1 vwCl (jw_ar5Iar5Iar5I g a_r1 a_r2 a_n1 v_r1 q v_n1) H → va_S A s.heap H locs → ∀ ls : Array Slot, lv_has ls 5 [] → W p l e jr_Lw_shears s m ([.int x0, .ref a_r1, .ref a_r2] : List Value).toArray below meth c H locs X (10 * X) Q (F0 m 52 ls [])) → W p l e jr_Lw_shears s m ([.int x0, .ref a_r1, .ref a_r2] : List Value).toArray below meth c H locs X (10 * X) Q (F0 m 32 ls []) := by
    intro n X hX v_n1 z0
    induction n with
    | zero =>
      intro z4 v_r2 H locs hP hS ls hl q hR k
      cases hR
    | succ n ih =>
      intro z4 v_r2 H locs hP hS ls hl q hR k
      rw [jf_Lw_shears_L32] at hR
      refine lv_iload hx hb dL_shears_32 (lv_at hl 3 rfl) ?_
      refine lv_iload_n hx hb dL_shears_34 rfl (lv_at hl 0 rfl) ?_
      refine lv_icmp_ge (tgt := 52) hx hb dL_shears_35 (by decide) (fun c_5 => ?_) (fun c_5 => ?_)
      · replace hR := Eq.trans (Eq.symm (if_pos c_5)) hR
        cases hR
        exact k _ _ hP hS _ (lv_sub hl [] rfl)
      · replace hR := Eq.trans (Eq.symm (if_neg c_5)) hR
        refine lv_aload_n hx hb dL_shears_38 rfl (lv_at hl 1 rfl) ?_
        refine lv_iload hx hb dL_shears_39 (lv_at hl 3 rfl) ?_
        refine lv_aload_n hx hb dL_shears_41 rfl (lv_at hl 2 rfl) ?_
        refine lv_iload hx hb dL_shears_42 (lv_at hl 3 rfl) ?_
        by_cases c_6 : jin z4 5 = true
        case neg => replace hR := Eq.trans (Eq.symm (if_neg c_6)) hR; cases hR
        replace hR := Eq.trans (Eq.symm (if_pos c_6)) hR
        refine va_iald hx hb hK.1 hP 2 0 rfl rfl (jin_in c_6) dL_shears_44 ?_
        by_cases c_7 : jin z4 5 = true
        case neg => replace hR := Eq.trans (Eq.symm (if_neg c_7)) hR; cases hR
        replace hR := Eq.trans (Eq.symm (if_pos c_7)) hR
        refine va_iast hx hb hK.1 hP (jD_to hD rfl) hS 1 0 rfl rfl (jin_in c_7) dL_shears_45 (fun H locs hP _ hS => ?_)
        have hP : va_P g.1 vwCl (jw_ar5Iar5Iar5I g a_r1 a_r2 a_n1 v_r1 (upd v_r2 z4.toNatClampNeg (v_n1 z4.toNatClampNeg)) v_n1) H := hP
        refine lv_iinc (v := z4 + 1) (lv' := [(4, .int (z4 + 1)), (0, .int z0), (2, .ref a_r2), (3, .ref a_n1)]) hx hb dL_shears_46 hl (k := 3) rfl (by first | rfl | decide) (by decide) rfl (fun ls hl => ?_)
        refine lv_goto (tgt := 32) hx hb dL_shears_49 (by decide) ?_
        exact ih (z4 + 1) (upd v_r2 z4.toNatClampNeg (v_n1 z4.toNatClampNeg)) _ _ hP hS _ (lv_sub hl [1, 2, 3, 0] rfl) _ hR k
  refine lv_astore_n (lv' := [(3, .ref a_n1), (0, .int x0), (1, .ref a_r1), (2, .ref a_r2)]) hx hb dL_shears_3 rfl hl (by decide) rfl (fun ls hl => ?_)
  refine lv_iconst (v := 0) hx hb dL_shears_4 (by decide) ?_
  refine lv_istore (lv' := [(4, .int 0), (3, .ref a_n1), (0, .int x0), (1, .ref a_r1), (2, .ref a_r2)]) hx hb dL_shears_5 hl (by decide) rfl (fun ls hl => ?_)
  obtain ⟨q_1, hq_1, hR⟩ := jbind hR
  try dsimp only at hR
  refine L7 jF (0 + 1) (by omega) v_r2 x0 0 (fun _ => 0) _ _ hP hS _ (lv_sub hl [2, 3, 4, 1, 0] rfl) _ hq_1 (fun H locs hP hS ls hl => ?_)
  refine lv_iconst (v := 0) hx hb dL_shears_29 (by decide) ?_
  refine lv_istore (lv' := [(4, .int 0), (0, .int x0), (2, .ref a_r2), (3, .ref a_n1)]) hx hb dL_shears_30 hl (by decide) rfl (fun ls hl => ?_)
  obtain ⟨q_2, hq_2, hR⟩ := jbind hR
  try dsimp only at hR
  refine L32 jF (0 + 1) (by omega) q_1 x0 0 v_r2 _ _ hP hS _ (lv_sub hl [1, 2, 3, 0] rfl) _ hq_2 (fun H locs hP hS ls hl => ?_)
  obtain rfl := (Option.some.inj hR)
  refine W.widen (k := 1) (n := 10) (by omega) (by omega) ?_
  exact fin _ _ _ _ (hP.sub [0, 1] rfl) hS dL_shears_52
def jf_Lw_turns_L7 (v_r1 : Nat → Int32) (z0 : Int32) : Nat → Int32 → (Nat → Int32) → Option (Nat → Int32)
  | 0, _, _ => none
  | n + 1, z4, v_n1 =>
    if z0 ≤ z4 then (some v_n1) else (if jin z4 5 = true then (if jin (v_r1 z4.toNatClampNeg) 5 = true then ((jf_Lw_turns_L7 v_r1 z0 n) (z4 + 1) (upd v_n1 (v_r1 z4.toNatClampNeg).toNatClampNeg z4)) else none) else none)
def jf_Lw_turns_L30 (v_n1 : Nat → Int32) (z0 : Int32) : Nat → Int32 → (Nat → Int32) → (Nat → Int32) → Option ((Nat → Int32) × (Nat → Int32))
  | 0, _, _, _ => none
  | n + 1, z4, v_r1, v_r2 =>
    if z0 ≤ z4 then (some (v_r1, v_r2)) else (if jin z4 5 = true then (if jin z4 5 = true then (if jin z4 5 = true then (if jin z4 5 = true then ((jf_Lw_turns_L30 v_n1 z0 n) (z4 + 1) (upd v_r1 z4.toNatClampNeg (v_r2 z4.toNatClampNeg)) (upd v_r2 z4.toNatClampNeg (v_n1 z4.toNatClampNeg))) else none) else none) else none) else none)
def jf_Lw_turns (v_r1 : Nat → Int32) (v_r2 : Nat → Int32) (x0 : Int32) : Option ((Nat → Int32) × (Nat → Int32)) :=
  Option.bind (jf_Lw_turns_L7 v_r1 x0 jF 0 (fun _ => 0)) (fun q_1 => Option.bind (jf_Lw_turns_L30 q_1 x0 jF 0 v_r1 v_r2) (fun q_2 => some (q_2.1, q_2.2)))
abbrev jr_Lw_turns : Room := { frames := 0, cells := 1, slots := 10, locals := 0 }
set_option maxRecDepth 100000 in
set_option maxHeartbeats 4000000 in
theorem jc_Lw_turns (l : Launch) (g : jG) (a_r1 a_r2 : Nat) (v_r1 : Nat → Int32) (v_r2 : Nat → Int32) (x0 : Int32) (hst : l.stackTraces = false) (R : (Nat → Int32) × (Nat → Int32)) (hR : jf_Lw_turns v_r1 v_r2 x0 = some R) (sz : Nat) : Met l yL_turns wsL_turns jr_Lw_turns (jPx g [.int x0, .ref a_r1, .ref a_r2] (jw_ar5Iar5I g a_r1 a_r2 v_r1 v_r2) sz) (jQv g (jw_ar5Iar5I g a_r1 a_r2 R.1 R.2) (va_A (jw_ar5Iar5I g a_r1 a_r2 v_r1 v_r2) sz)) 1 10 (va_A (jw_ar5Iar5I g a_r1 a_r2 v_r1 v_r2) sz) := by
  refine jm_kv (cc := cL_turns) (maxL := 5) (by decide +kernel) rfl (Nat.le_of_ble_eq_true rfl) ?_
  intro p e s m below meth c A Q hx hb hml hown hts hK hE hZ hP hD hA hS fin ls hl
  have hl : lv_has ls 5 [(0, .int x0), (1, .ref a_r1), (2, .ref a_r2)] := hl
  have hown : s.vm.findClass RL = some m.cls := hown
  rw [jf_Lw_turns] at hR
  refine W.widen (k := 0) (n := 10 * 0) (by decide) (by decide) ?_
  refine lv_iconst (v := 5) hx hb dL_turns_0 (by decide) ?_
  refine jnewa_I hx hb (hts (.arrayClass .int) (by decide +kernel)) hK hP (jD_to (ws' := jw_ar5Iar5I g a_r1 a_r2 v_r1 v_r2) hD rfl) hS hA (N := 5) (by decide) (by decide) (by decide) (by show 0 + 1 ≤ 1; omega) (by show 10 * 0 + 5 ≤ 10; omega) dL_turns_1 (fun a_n1 H hP hD hS => ?_)
  have hP : va_P g.1 vwCl (jw_ar5Iar5Iar5I g a_r1 a_r2 a_n1 v_r1 v_r2 (fun _ => 0)) H := hP
  have hD : va_D A (jw_ar5Iar5Iar5I g a_r1 a_r2 a_n1 v_r1 v_r2 (fun _ => 0)) := hD
  refine W.widen (k := 0 + 1) (n := (10 * (0 + 1))) (by omega) (by omega) ?_
  have L7 : ∀ (n : Nat) (X : Nat) (_ : X ≤ 1) (v_r1 : Nat → Int32) (v_r2 : Nat → Int32) (z0 : Int32) (z4 : Int32) (v_n1 : Nat → Int32) (H : Heap) (locs : List Loc), va_P g.1 vwCl (jw_ar5Iar5Iar5I g a_r1 a_r2 a_n1 v_r1 v_r2 v_n1) H → va_S A s.heap H locs → ∀ (ls : Array Slot), lv_has ls 5 [(0, .int z0), (1, .ref a_r1), (2, .ref a_r2), (3, .ref a_n1), (4, .int z4)] → ∀ q, jf_Lw_turns_L7 v_r1 z0 n z4 v_n1 = some q → (∀ (H : Heap) (locs : List Loc), va_P g.1 vwCl (jw_ar5Iar5Iar5I g a_r1 a_r2 a_n1 v_r1 v_r2 q) H → va_S A s.heap H locs → ∀ ls : Array Slot, lv_has ls 5 [(0, .int z0), (1, .ref a_r1), (2, .ref a_r2), (3, .ref a_n1)] → W p l e jr_Lw_turns s m ([.int x0, .ref a_r1, .ref a_r2] : List Value).toArray below meth c H locs X (10 * X) Q (F0 m 27 ls [])) → W p l e jr_Lw_turns s m ([.int x0, .ref a_r1, .ref a_r2] : List Value).toArray below meth c H locs X (10 * X) Q (F0 m 7 ls []) := by
    intro n X hX v_r1 v_r2 z0
    induction n with
    | zero =>
      intro z4 v_n1 H locs hP hS ls hl q hR k
      cases hR
    | succ n ih =>
      intro z4 v_n1 H locs hP hS ls hl q hR k
      rw [jf_Lw_turns_L7] at hR
      refine lv_iload hx hb dL_turns_7 (lv_at hl 4 rfl) ?_
      refine lv_iload_n hx hb dL_turns_9 rfl (lv_at hl 0 rfl) ?_
      refine lv_icmp_ge (tgt := 27) hx hb dL_turns_10 (by decide) (fun c_1 => ?_) (fun c_1 => ?_)
      · replace hR := Eq.trans (Eq.symm (if_pos c_1)) hR
        cases hR
        exact k _ _ hP hS _ (lv_sub hl [0, 1, 2, 3] rfl)
      · replace hR := Eq.trans (Eq.symm (if_neg c_1)) hR
        refine lv_aload_n hx hb dL_turns_13 rfl (lv_at hl 3 rfl) ?_
        refine lv_aload_n hx hb dL_turns_14 rfl (lv_at hl 1 rfl) ?_
        refine lv_iload hx hb dL_turns_15 (lv_at hl 4 rfl) ?_
        by_cases c_2 : jin z4 5 = true
        case neg => replace hR := Eq.trans (Eq.symm (if_neg c_2)) hR; cases hR
        replace hR := Eq.trans (Eq.symm (if_pos c_2)) hR
        refine va_iald hx hb hK.1 hP 0 0 rfl rfl (jin_in c_2) dL_turns_17 ?_
        refine lv_iload hx hb dL_turns_18 (lv_at hl 4 rfl) ?_
        by_cases c_3 : jin (v_r1 z4.toNatClampNeg) 5 = true
        case neg => replace hR := Eq.trans (Eq.symm (if_neg c_3)) hR; cases hR
        replace hR := Eq.trans (Eq.symm (if_pos c_3)) hR
        refine va_iast hx hb hK.1 hP (jD_to hD rfl) hS 2 0 rfl rfl (jin_in c_3) dL_turns_20 (fun H locs hP _ hS => ?_)
        have hP : va_P g.1 vwCl (jw_ar5Iar5Iar5I g a_r1 a_r2 a_n1 v_r1 v_r2 (upd v_n1 (v_r1 z4.toNatClampNeg).toNatClampNeg z4)) H := hP
        refine lv_iinc (v := z4 + 1) (lv' := [(4, .int (z4 + 1)), (0, .int z0), (1, .ref a_r1), (2, .ref a_r2), (3, .ref a_n1)]) hx hb dL_turns_21 hl (k := 4) rfl (by first | rfl | decide) (by decide) rfl (fun ls hl => ?_)
        refine lv_goto (tgt := 7) hx hb dL_turns_24 (by decide) ?_
        exact ih (z4 + 1) (upd v_n1 (v_r1 z4.toNatClampNeg).toNatClampNeg z4) _ _ hP hS _ (lv_sub hl [1, 2, 3, 4, 0] rfl) _ hR k
  have L30 : ∀ (n : Nat) (X : Nat) (_ : X ≤ 1) (v_n1 : Nat → Int32) (z0 : Int32) (z4 : Int32) (v_r1 : Nat → Int32) (v_r2 : Nat → Int32) (H : Heap) (locs : List Loc), va_P g.1 vwCl (jw_ar5Iar5Iar5I g a_r1 a_r2 a_n1 v_r1 v_r2 v_n1) H → va_S A s.heap H locs → ∀ (ls : Array Slot), lv_has ls 5 [(0, .int z0), (1, .ref a_r1), (2, .ref a_r2), (3, .ref a_n1), (4, .int z4)] → ∀ q, jf_Lw_turns_L30 v_n1 z0 n z4 v_r1 v_r2 = some q → (∀ (H : Heap) (locs : List Loc), va_P g.1 vwCl (jw_ar5Iar5Iar5I g a_r1 a_r2 a_n1 q.1 q.2 v_n1) H → va_S A s.heap H locs → ∀ ls : Array Slot, lv_has ls 5 [] → W p l e jr_Lw_turns s m ([.int x0, .ref a_r1, .ref a_r2] : List Value).toArray below meth c H locs X (10 * X) Q (F0 m 58 ls [])) → W p l e jr_Lw_turns s m ([.int x0, .ref a_r1, .ref a_r2] : List Value).toArray below meth c H locs X (10 * X) Q (F0 m 30 ls []) := by
    intro n X hX v_n1 z0
    induction n with
    | zero =>
      intro z4 v_r1 v_r2 H locs hP hS ls hl q hR k
      cases hR
    | succ n ih =>
      intro z4 v_r1 v_r2 H locs hP hS ls hl q hR k
      rw [jf_Lw_turns_L30] at hR
      refine lv_iload hx hb dL_turns_30 (lv_at hl 4 rfl) ?_
      refine lv_iload_n hx hb dL_turns_32 rfl (lv_at hl 0 rfl) ?_
      refine lv_icmp_ge (tgt := 58) hx hb dL_turns_33 (by decide) (fun c_4 => ?_) (fun c_4 => ?_)
      · replace hR := Eq.trans (Eq.symm (if_pos c_4)) hR
        cases hR
        exact k _ _ hP hS _ (lv_sub hl [] rfl)
      · replace hR := Eq.trans (Eq.symm (if_neg c_4)) hR
        refine lv_aload_n hx hb dL_turns_36 rfl (lv_at hl 1 rfl) ?_
        refine lv_iload hx hb dL_turns_37 (lv_at hl 4 rfl) ?_
        refine lv_aload_n hx hb dL_turns_39 rfl (lv_at hl 2 rfl) ?_
        refine lv_iload hx hb dL_turns_40 (lv_at hl 4 rfl) ?_
        by_cases c_5 : jin z4 5 = true
        case neg => replace hR := Eq.trans (Eq.symm (if_neg c_5)) hR; cases hR
        replace hR := Eq.trans (Eq.symm (if_pos c_5)) hR
        refine va_iald hx hb hK.1 hP 1 0 rfl rfl (jin_in c_5) dL_turns_42 ?_
        by_cases c_6 : jin z4 5 = true
        case neg => replace hR := Eq.trans (Eq.symm (if_neg c_6)) hR; cases hR
        replace hR := Eq.trans (Eq.symm (if_pos c_6)) hR
        refine va_iast hx hb hK.1 hP (jD_to hD rfl) hS 0 0 rfl rfl (jin_in c_6) dL_turns_43 (fun H locs hP _ hS => ?_)
        have hP : va_P g.1 vwCl (jw_ar5Iar5Iar5I g a_r1 a_r2 a_n1 (upd v_r1 z4.toNatClampNeg (v_r2 z4.toNatClampNeg)) v_r2 v_n1) H := hP
        refine lv_aload_n hx hb dL_turns_44 rfl (lv_at hl 2 rfl) ?_
        refine lv_iload hx hb dL_turns_45 (lv_at hl 4 rfl) ?_
        refine lv_aload_n hx hb dL_turns_47 rfl (lv_at hl 3 rfl) ?_
        refine lv_iload hx hb dL_turns_48 (lv_at hl 4 rfl) ?_
        by_cases c_7 : jin z4 5 = true
        case neg => replace hR := Eq.trans (Eq.symm (if_neg c_7)) hR; cases hR
        replace hR := Eq.trans (Eq.symm (if_pos c_7)) hR
        refine va_iald hx hb hK.1 hP 2 0 rfl rfl (jin_in c_7) dL_turns_50 ?_
        by_cases c_8 : jin z4 5 = true
        case neg => replace hR := Eq.trans (Eq.symm (if_neg c_8)) hR; cases hR
        replace hR := Eq.trans (Eq.symm (if_pos c_8)) hR
        refine va_iast hx hb hK.1 hP (jD_to hD rfl) hS 1 0 rfl rfl (jin_in c_8) dL_turns_51 (fun H locs hP _ hS => ?_)
        have hP : va_P g.1 vwCl (jw_ar5Iar5Iar5I g a_r1 a_r2 a_n1 (upd v_r1 z4.toNatClampNeg (v_r2 z4.toNatClampNeg)) (upd v_r2 z4.toNatClampNeg (v_n1 z4.toNatClampNeg)) v_n1) H := hP
        refine lv_iinc (v := z4 + 1) (lv' := [(4, .int (z4 + 1)), (0, .int z0), (1, .ref a_r1), (2, .ref a_r2), (3, .ref a_n1)]) hx hb dL_turns_52 hl (k := 4) rfl (by first | rfl | decide) (by decide) rfl (fun ls hl => ?_)
        refine lv_goto (tgt := 30) hx hb dL_turns_55 (by decide) ?_
        exact ih (z4 + 1) (upd v_r1 z4.toNatClampNeg (v_r2 z4.toNatClampNeg)) (upd v_r2 z4.toNatClampNeg (v_n1 z4.toNatClampNeg)) _ _ hP hS _ (lv_sub hl [1, 2, 3, 4, 0] rfl) _ hR k
  refine lv_astore_n (lv' := [(3, .ref a_n1), (0, .int x0), (1, .ref a_r1), (2, .ref a_r2)]) hx hb dL_turns_3 rfl hl (by decide) rfl (fun ls hl => ?_)
  refine lv_iconst (v := 0) hx hb dL_turns_4 (by decide) ?_
  refine lv_istore (lv' := [(4, .int 0), (3, .ref a_n1), (0, .int x0), (1, .ref a_r1), (2, .ref a_r2)]) hx hb dL_turns_5 hl (by decide) rfl (fun ls hl => ?_)
  obtain ⟨q_1, hq_1, hR⟩ := jbind hR
  try dsimp only at hR
  refine L7 jF (0 + 1) (by omega) v_r1 v_r2 x0 0 (fun _ => 0) _ _ hP hS _ (lv_sub hl [2, 3, 4, 1, 0] rfl) _ hq_1 (fun H locs hP hS ls hl => ?_)
  refine lv_iconst (v := 0) hx hb dL_turns_27 (by decide) ?_
  refine lv_istore (lv' := [(4, .int 0), (0, .int x0), (1, .ref a_r1), (2, .ref a_r2), (3, .ref a_n1)]) hx hb dL_turns_28 hl (by decide) rfl (fun ls hl => ?_)
  obtain ⟨q_2, hq_2, hR⟩ := jbind hR
  try dsimp only at hR
  refine L30 jF (0 + 1) (by omega) q_1 x0 0 v_r1 v_r2 _ _ hP hS _ (lv_sub hl [1, 2, 3, 4, 0] rfl) _ hq_2 (fun H locs hP hS ls hl => ?_)
  obtain rfl := (Option.some.inj hR)
  refine W.widen (k := 1) (n := 10) (by omega) (by omega) ?_
  exact fin _ _ _ _ (hP.sub [0, 1] rfl) hS dL_turns_58
def jf_Lw_codeOf_L11 (z0 : Int32) (z4 : Int32) : Nat → Int32 → (Nat → Int32) → Option (Nat → Int32)
  | 0, _, _ => none
  | n + 1, z5, v_n1 =>
    if z0 ≤ z5 then (some v_n1) else (if jin z5 5 = true then ((jf_Lw_codeOf_L11 z0 z4 n) (z5 + 1) (upd v_n1 z5.toNatClampNeg z5)) else none)
def jf_Lw_codeOf_L35 (v_r1 : Nat → Int32) (v_r2 : Nat → Int32) (v_n1 : Nat → Int32) (z0 : Int32) (z4 : Int32) : Nat → Int32 → Int32 → Option Int32
  | 0, _, _ => none
  | n + 1, z5, z6 =>
    if z0 ≤ z6 then (some z5) else (if jin z6 5 = true then (if jin (v_n1 z6.toNatClampNeg) 5 = true then (Option.bind (jf_Lw_before v_n1 (v_r1 (v_n1 z6.toNatClampNeg).toNatClampNeg)) (fun q_2 => if jin z6 5 = true then (if jin (v_n1 z6.toNatClampNeg) 5 = true then (Option.bind (jf_Lw_before v_n1 (v_r2 (v_n1 z6.toNatClampNeg).toNatClampNeg)) (fun q_3 => jlet ((((z5 * 5) + q_2) * 5) + q_3) (fun y5_1 => (jf_Lw_codeOf_L35 v_r1 v_r2 v_n1 z0 z4 n) y5_1 (z6 + 1)))) else none) else none)) else none) else none)
def jf_Lw_codeOf_b91 (self : Int32 → (Nat → Int32) → Option (Int32 × (Nat → Int32))) (v_r1 : Nat → Int32) (v_r2 : Nat → Int32) (v_n1 : Nat → Int32) (z0 : Int32) (s0 : Int32) : Option (Int32 × (Nat → Int32)) :=
  Option.bind (jf_Lw_isNext v_n1 z0) (fun q_5 => if q_5.1 = 0 then (some (s0, q_5.2)) else (self s0 q_5.2))
def jf_Lw_codeOf_L29 (v_r1 : Nat → Int32) (v_r2 : Nat → Int32) (z0 : Int32) : Nat → Int32 → (Nat → Int32) → Option (Int32 × (Nat → Int32))
  | 0, _, _ => none
  | n + 1, z4, v_n1 =>
    Option.bind (jf_Lw_codeOf_L35 v_r1 v_r2 v_n1 z0 z4 jF 0 0) (fun q_4 => if z4 ≤ q_4 then (jf_Lw_codeOf_b91 (jf_Lw_codeOf_L29 v_r1 v_r2 z0 n) v_r1 v_r2 v_n1 z0 z4) else (jf_Lw_codeOf_b91 (jf_Lw_codeOf_L29 v_r1 v_r2 z0 n) v_r1 v_r2 v_n1 z0 q_4))
def jf_Lw_codeOf (v_r1 : Nat → Int32) (v_r2 : Nat → Int32) (x0 : Int32) : Option Int32 :=
  Option.bind (jf_Lw_codeOf_L11 x0 2147483647 jF 0 (fun _ => 0)) (fun q_1 => Option.bind (jf_Lw_codeOf_L29 v_r1 v_r2 x0 jF 2147483647 q_1) (fun q_6 => some q_6.1))
abbrev jr_Lw_codeOf : Room := { frames := 1, cells := 1, slots := 10, locals := 26 }
set_option maxRecDepth 100000 in
set_option maxHeartbeats 4000000 in
theorem jc_Lw_codeOf (l : Launch) (g : jG) (a_r1 a_r2 : Nat) (v_r1 : Nat → Int32) (v_r2 : Nat → Int32) (x0 : Int32) (hst : l.stackTraces = false) (R : Int32) (hR : jf_Lw_codeOf v_r1 v_r2 x0 = some R) (sz : Nat) : Met l yL_codeOf wsL_codeOf jr_Lw_codeOf (jPx g [.int x0, .ref a_r1, .ref a_r2] (jw_ar5Iar5I g a_r1 a_r2 v_r1 v_r2) sz) (jQi g R (jw_ar5Iar5I g a_r1 a_r2 v_r1 v_r2) (va_A (jw_ar5Iar5I g a_r1 a_r2 v_r1 v_r2) sz)) 1 10 (va_A (jw_ar5Iar5I g a_r1 a_r2 v_r1 v_r2) sz) := by
  refine jm_ki (cc := cL_codeOf) (maxL := 7) (by decide +kernel) rfl (Nat.le_of_ble_eq_true rfl) ?_
  intro p e s m below meth c A Q hx hb hml hown hts hK hE hZ hP hD hA hS fin ls hl
  have hl : lv_has ls 7 [(0, .int x0), (1, .ref a_r1), (2, .ref a_r2)] := hl
  have hown : s.vm.findClass RL = some m.cls := hown
  rw [jf_Lw_codeOf] at hR
  refine W.widen (k := 0) (n := 10 * 0) (by decide) (by decide) ?_
  refine lv_iconst (v := 5) hx hb dL_codeOf_0 (by decide) ?_
  refine jnewa_I hx hb (hts (.arrayClass .int) (by decide +kernel)) hK hP (jD_to (ws' := jw_ar5Iar5I g a_r1 a_r2 v_r1 v_r2) hD rfl) hS hA (N := 5) (by decide) (by decide) (by decide) (by show 0 + 1 ≤ 1; omega) (by show 10 * 0 + 5 ≤ 10; omega) dL_codeOf_1 (fun a_n1 H hP hD hS => ?_)
  have hP : va_P g.1 vwCl (jw_ar5Iar5Iar5I g a_r1 a_r2 a_n1 v_r1 v_r2 (fun _ => 0)) H := hP
  have hD : va_D A (jw_ar5Iar5Iar5I g a_r1 a_r2 a_n1 v_r1 v_r2 (fun _ => 0)) := hD
  refine W.widen (k := 0 + 1) (n := (10 * (0 + 1))) (by omega) (by omega) ?_
  have L11 : ∀ (n : Nat) (X : Nat) (_ : X ≤ 1) (z0 : Int32) (z4 : Int32) (z5 : Int32) (v_n1 : Nat → Int32) (H : Heap) (locs : List Loc), va_P g.1 vwCl (jw_ar5Iar5Iar5I g a_r1 a_r2 a_n1 v_r1 v_r2 v_n1) H → va_S A s.heap H locs → ∀ (ls : Array Slot), lv_has ls 7 [(0, .int z0), (1, .ref a_r1), (2, .ref a_r2), (3, .ref a_n1), (4, .int z4), (5, .int z5)] → ∀ q, jf_Lw_codeOf_L11 z0 z4 n z5 v_n1 = some q → (∀ (H : Heap) (locs : List Loc), va_P g.1 vwCl (jw_ar5Iar5Iar5I g a_r1 a_r2 a_n1 v_r1 v_r2 q) H → va_S A s.heap H locs → ∀ ls : Array Slot, lv_has ls 7 [(0, .int z0), (1, .ref a_r1), (2, .ref a_r2), (3, .ref a_n1), (4, .int z4)] → W p l e jr_Lw_codeOf s m ([.int x0, .ref a_r1, .ref a_r2] : List Value).toArray below meth c H locs X (10 * X) Q (F0 m 29 ls [])) → W p l e jr_Lw_codeOf s m ([.int x0, .ref a_r1, .ref a_r2] : List Value).toArray below meth c H locs X (10 * X) Q (F0 m 11 ls []) := by
    intro n X hX z0 z4
    induction n with
    | zero =>
      intro z5 v_n1 H locs hP hS ls hl q hR k
      cases hR
    | succ n ih =>
      intro z5 v_n1 H locs hP hS ls hl q hR k
      rw [jf_Lw_codeOf_L11] at hR
      refine lv_iload hx hb dL_codeOf_11 (lv_at hl 5 rfl) ?_
      refine lv_iload_n hx hb dL_codeOf_13 rfl (lv_at hl 0 rfl) ?_
      refine lv_icmp_ge (tgt := 29) hx hb dL_codeOf_14 (by decide) (fun c_1 => ?_) (fun c_1 => ?_)
      · replace hR := Eq.trans (Eq.symm (if_pos c_1)) hR
        cases hR
        exact k _ _ hP hS _ (lv_sub hl [0, 1, 2, 3, 4] rfl)
      · replace hR := Eq.trans (Eq.symm (if_neg c_1)) hR
        refine lv_aload_n hx hb dL_codeOf_17 rfl (lv_at hl 3 rfl) ?_
        refine lv_iload hx hb dL_codeOf_18 (lv_at hl 5 rfl) ?_
        refine lv_iload hx hb dL_codeOf_20 (lv_at hl 5 rfl) ?_
        by_cases c_2 : jin z5 5 = true
        case neg => replace hR := Eq.trans (Eq.symm (if_neg c_2)) hR; cases hR
        replace hR := Eq.trans (Eq.symm (if_pos c_2)) hR
        refine va_iast hx hb hK.1 hP (jD_to hD rfl) hS 2 0 rfl rfl (jin_in c_2) dL_codeOf_22 (fun H locs hP _ hS => ?_)
        have hP : va_P g.1 vwCl (jw_ar5Iar5Iar5I g a_r1 a_r2 a_n1 v_r1 v_r2 (upd v_n1 z5.toNatClampNeg z5)) H := hP
        refine lv_iinc (v := z5 + 1) (lv' := [(5, .int (z5 + 1)), (0, .int z0), (1, .ref a_r1), (2, .ref a_r2), (3, .ref a_n1), (4, .int z4)]) hx hb dL_codeOf_23 hl (k := 5) rfl (by first | rfl | decide) (by decide) rfl (fun ls hl => ?_)
        refine lv_goto (tgt := 11) hx hb dL_codeOf_26 (by decide) ?_
        exact ih (z5 + 1) (upd v_n1 z5.toNatClampNeg z5) _ _ hP hS _ (lv_sub hl [1, 2, 3, 4, 5, 0] rfl) _ hR k
  have L29 : ∀ (n : Nat) (X : Nat) (_ : X ≤ 1) (z0 : Int32) (z4 : Int32) (v_n1 : Nat → Int32) (H : Heap) (locs : List Loc), va_P g.1 vwCl (jw_ar5Iar5Iar5I g a_r1 a_r2 a_n1 v_r1 v_r2 v_n1) H → va_S A s.heap H locs → ∀ (ls : Array Slot), lv_has ls 7 [(0, .int z0), (1, .ref a_r1), (2, .ref a_r2), (3, .ref a_n1), (4, .int z4)] → ∀ q, jf_Lw_codeOf_L29 v_r1 v_r2 z0 n z4 v_n1 = some q → (∀ (H : Heap) (locs : List Loc), va_P g.1 vwCl (jw_ar5Iar5Iar5I g a_r1 a_r2 a_n1 v_r1 v_r2 q.2) H → va_S A s.heap H locs → ∀ ls : Array Slot, lv_has ls 7 [(4, .int q.1)] → W p l e jr_Lw_codeOf s m ([.int x0, .ref a_r1, .ref a_r2] : List Value).toArray below meth c H locs X (10 * X) Q (F0 m 101 ls [])) → W p l e jr_Lw_codeOf s m ([.int x0, .ref a_r1, .ref a_r2] : List Value).toArray below meth c H locs X (10 * X) Q (F0 m 29 ls []) := by
    intro n X hX z0
    induction n with
    | zero =>
      intro z4 v_n1 H locs hP hS ls hl q hR k
      cases hR
    | succ n ih =>
      have L35 : ∀ (n : Nat) (X : Nat) (_ : X ≤ 1) (v_n1 : Nat → Int32) (z0 : Int32) (z4 : Int32) (z5 : Int32) (z6 : Int32) (H : Heap) (locs : List Loc), va_P g.1 vwCl (jw_ar5Iar5Iar5I g a_r1 a_r2 a_n1 v_r1 v_r2 v_n1) H → va_S A s.heap H locs → ∀ (ls : Array Slot), lv_has ls 7 [(0, .int z0), (1, .ref a_r1), (2, .ref a_r2), (3, .ref a_n1), (4, .int z4), (5, .int z5), (6, .int z6)] → ∀ q, jf_Lw_codeOf_L35 v_r1 v_r2 v_n1 z0 z4 n z5 z6 = some q → (∀ (H : Heap) (locs : List Loc), va_P g.1 vwCl (jw_ar5Iar5Iar5I g a_r1 a_r2 a_n1 v_r1 v_r2 v_n1) H → va_S A s.heap H locs → ∀ ls : Array Slot, lv_has ls 7 [(0, .int z0), (1, .ref a_r1), (2, .ref a_r2), (3, .ref a_n1), (4, .int z4), (5, .int q)] → W p l e jr_Lw_codeOf s m ([.int x0, .ref a_r1, .ref a_r2] : List Value).toArray below meth c H locs X (10 * X) Q (F0 m 77 ls [])) → W p l e jr_Lw_codeOf s m ([.int x0, .ref a_r1, .ref a_r2] : List Value).toArray below meth c H locs X (10 * X) Q (F0 m 35 ls []) := by
        intro n X hX v_n1 z0 z4
        induction n with
        | zero =>
          intro z5 z6 H locs hP hS ls hl q hR k
          cases hR
        | succ n ih =>
          intro z5 z6 H locs hP hS ls hl q hR k
          rw [jf_Lw_codeOf_L35] at hR
          refine lv_iload hx hb dL_codeOf_35 (lv_at hl 6 rfl) ?_
          refine lv_iload_n hx hb dL_codeOf_37 rfl (lv_at hl 0 rfl) ?_
          refine lv_icmp_ge (tgt := 77) hx hb dL_codeOf_38 (by decide) (fun c_3 => ?_) (fun c_3 => ?_)
          · replace hR := Eq.trans (Eq.symm (if_pos c_3)) hR
            cases hR
            exact k _ _ hP hS _ (lv_sub hl [0, 1, 2, 3, 4, 5] rfl)
          · replace hR := Eq.trans (Eq.symm (if_neg c_3)) hR
            refine lv_iload hx hb dL_codeOf_41 (lv_at hl 5 rfl) ?_
            refine lv_iconst (v := 5) hx hb dL_codeOf_43 (by decide) ?_
            refine lv_imul hx hb dL_codeOf_44 ?_
            refine lv_aload_n hx hb dL_codeOf_45 rfl (lv_at hl 1 rfl) ?_
            refine lv_aload_n hx hb dL_codeOf_46 rfl (lv_at hl 3 rfl) ?_
            refine lv_iload hx hb dL_codeOf_47 (lv_at hl 6 rfl) ?_
            by_cases c_4 : jin z6 5 = true
            case neg => replace hR := Eq.trans (Eq.symm (if_neg c_4)) hR; cases hR
            replace hR := Eq.trans (Eq.symm (if_pos c_4)) hR
            refine va_iald hx hb hK.1 hP 2 0 rfl rfl (jin_in c_4) dL_codeOf_49 ?_
            by_cases c_5 : jin (v_n1 z6.toNatClampNeg) 5 = true
            case neg => replace hR := Eq.trans (Eq.symm (if_neg c_5)) hR; cases hR
            replace hR := Eq.trans (Eq.symm (if_pos c_5)) hR
            refine va_iald hx hb hK.1 hP 0 0 rfl rfl (jin_in c_5) dL_codeOf_50 ?_
            refine lv_aload_n hx hb dL_codeOf_51 rfl (lv_at hl 3 rfl) ?_
            obtain ⟨q_2, hq_2, hR⟩ := jbind hR
            try dsimp only at hR
            refine jcall_ri (va_runS (As := [.int (v_r1 (v_n1 z6.toNatClampNeg).toNatClampNeg), .ref a_n1]) (rest := [.int (z5 * 5)]) ⟨hx, hb, hml, hown, hts⟩ (jc_Lw_before l g a_n1 v_n1 (v_r1 (v_n1 z6.toNatClampNeg).toNatClampNeg) _ hq_2) (va_cwS 2 hts gL_codeOf_L_before rfl rfl rfl (by decide +kernel) ⟨Nat.le_of_ble_eq_true rfl, Nat.le_of_ble_eq_true rfl⟩) (jpr_s hK (hP.sub (ws' := jw_ar5I g a_n1 v_n1) [2] rfl)) rfl rfl hl.1 rfl (lv_room (Nat.le_of_ble_eq_true rfl)) dL_codeOf_52 ⟨by show X + 0 ≤ 1; omega, by show 10 * X + 0 ≤ 10; omega⟩) ?_
            refine lv_iadd hx hb dL_codeOf_55 ?_
            refine lv_iconst (v := 5) hx hb dL_codeOf_56 (by decide) ?_
            refine lv_imul hx hb dL_codeOf_57 ?_
            refine lv_aload_n hx hb dL_codeOf_58 rfl (lv_at hl 2 rfl) ?_
            refine lv_aload_n hx hb dL_codeOf_59 rfl (lv_at hl 3 rfl) ?_
            refine lv_iload hx hb dL_codeOf_60 (lv_at hl 6 rfl) ?_
            by_cases c_6 : jin z6 5 = true
            case neg => replace hR := Eq.trans (Eq.symm (if_neg c_6)) hR; cases hR
            replace hR := Eq.trans (Eq.symm (if_pos c_6)) hR
            refine va_iald hx hb hK.1 hP 2 0 rfl rfl (jin_in c_6) dL_codeOf_62 ?_
            by_cases c_7 : jin (v_n1 z6.toNatClampNeg) 5 = true
            case neg => replace hR := Eq.trans (Eq.symm (if_neg c_7)) hR; cases hR
            replace hR := Eq.trans (Eq.symm (if_pos c_7)) hR
            refine va_iald hx hb hK.1 hP 1 0 rfl rfl (jin_in c_7) dL_codeOf_63 ?_
            refine lv_aload_n hx hb dL_codeOf_64 rfl (lv_at hl 3 rfl) ?_
            obtain ⟨q_3, hq_3, hR⟩ := jbind hR
            try dsimp only at hR
            refine jcall_ri (va_runS (As := [.int (v_r2 (v_n1 z6.toNatClampNeg).toNatClampNeg), .ref a_n1]) (rest := [.int (((z5 * 5) + q_2) * 5)]) ⟨hx, hb, hml, hown, hts⟩ (jc_Lw_before l g a_n1 v_n1 (v_r2 (v_n1 z6.toNatClampNeg).toNatClampNeg) _ hq_3) (va_cwS 2 hts gL_codeOf_L_before rfl rfl rfl (by decide +kernel) ⟨Nat.le_of_ble_eq_true rfl, Nat.le_of_ble_eq_true rfl⟩) (jpr_s hK (hP.sub (ws' := jw_ar5I g a_n1 v_n1) [2] rfl)) rfl rfl hl.1 rfl (lv_room (Nat.le_of_ble_eq_true rfl)) dL_codeOf_65 ⟨by show X + 0 ≤ 1; omega, by show 10 * X + 0 ≤ 10; omega⟩) ?_
            refine lv_iadd hx hb dL_codeOf_68 ?_
            refine jlet_i hR (fun y5_1 hR => ?_)
            try dsimp only at hR
            refine lv_istore (lv' := [(5, .int y5_1), (0, .int z0), (1, .ref a_r1), (2, .ref a_r2), (3, .ref a_n1), (4, .int z4), (6, .int z6)]) hx hb dL_codeOf_69 hl (by decide) rfl (fun ls hl => ?_)
            refine lv_iinc (v := z6 + 1) (lv' := [(6, .int (z6 + 1)), (5, .int y5_1), (0, .int z0), (1, .ref a_r1), (2, .ref a_r2), (3, .ref a_n1), (4, .int z4)]) hx hb dL_codeOf_71 hl (k := 6) rfl (by first | rfl | decide) (by decide) rfl (fun ls hl => ?_)
            refine lv_goto (tgt := 35) hx hb dL_codeOf_74 (by decide) ?_
            exact ih y5_1 (z6 + 1) _ _ hP hS _ (lv_sub hl [2, 3, 4, 5, 6, 1, 0] rfl) _ hR k
      have J91 : ∀ (v_n1 : Nat → Int32) (s0 : Int32) (H : Heap) (locs : List Loc), va_P g.1 vwCl (jw_ar5Iar5Iar5I g a_r1 a_r2 a_n1 v_r1 v_r2 v_n1) H → va_S A s.heap H locs → ∀ (ls : Array Slot), lv_has ls 7 [(0, .int z0), (1, .ref a_r1), (2, .ref a_r2), (3, .ref a_n1)] → ∀ q, jf_Lw_codeOf_b91 (jf_Lw_codeOf_L29 v_r1 v_r2 z0 n) v_r1 v_r2 v_n1 z0 s0 = some q → (∀ (H : Heap) (locs : List Loc), va_P g.1 vwCl (jw_ar5Iar5Iar5I g a_r1 a_r2 a_n1 v_r1 v_r2 q.2) H → va_S A s.heap H locs → ∀ ls : Array Slot, lv_has ls 7 [(4, .int q.1)] → W p l e jr_Lw_codeOf s m ([.int x0, .ref a_r1, .ref a_r2] : List Value).toArray below meth c H locs X (10 * X) Q (F0 m 101 ls [])) → W p l e jr_Lw_codeOf s m ([.int x0, .ref a_r1, .ref a_r2] : List Value).toArray below meth c H locs X (10 * X) Q (F0 m 91 ls [.int s0]) := by
        intro v_n1 s0 H locs hP hS ls hl q hR k
        rw [jf_Lw_codeOf_b91] at hR
        refine lv_istore (lv' := [(4, .int s0), (0, .int z0), (1, .ref a_r1), (2, .ref a_r2), (3, .ref a_n1)]) hx hb dL_codeOf_91 hl (by decide) rfl (fun ls hl => ?_)
        refine lv_aload_n hx hb dL_codeOf_93 rfl (lv_at hl 4 rfl) ?_
        refine lv_iload_n hx hb dL_codeOf_94 rfl (lv_at hl 1 rfl) ?_
        obtain ⟨q_5, hq_5, hR⟩ := jbind hR
        try dsimp only at hR
        refine jcall_wi (ws' := jw_ar5Iar5Iar5I g a_r1 a_r2 a_n1 v_r1 v_r2 q_5.2) (va_runS (As := [.ref a_n1, .int z0]) (rest := []) ⟨hx, hb, hml, hown, hts⟩ (jc_Lw_isNext l g a_n1 v_n1 z0 _ hq_5 _) (va_cwS 2 hts gL_codeOf_L_isNext rfl rfl rfl (by decide +kernel) ⟨Nat.le_of_ble_eq_true rfl, Nat.le_of_ble_eq_true rfl⟩) (jpw_s hK (hP.sub (ws' := jw_ar5I g a_n1 v_n1) [2] rfl) ((jD_to (ws' := jw_ar5Iar5Iar5I g a_r1 a_r2 a_n1 v_r1 v_r2 v_n1) hD rfl).sub [2] (by decide) rfl)) rfl rfl hl.1 rfl (lv_room (Nat.le_of_ble_eq_true rfl)) dL_codeOf_95 ⟨by show X + 0 ≤ 1; omega, by show 10 * X + 0 ≤ 10; omega⟩) hP (jD_to hD rfl) hS hA [2] [0, 1] [0, 1, 2] rfl (by decide) rfl (fun H locs hP hS => ?_)
        refine lv_if_ne (tgt := 29) hx hb dL_codeOf_98 (by decide) (fun c_9 => ?_) (fun c_9 => ?_)
        · replace hR := Eq.trans (Eq.symm (if_neg c_9)) hR
          exact ih s0 q_5.2 _ _ hP hS _ (lv_sub hl [1, 2, 3, 4, 0] rfl) _ hR k
        · replace hR := Eq.trans (Eq.symm (if_pos c_9)) hR
          cases hR
          exact k _ _ hP hS _ (lv_sub hl [0] rfl)
      intro z4 v_n1 H locs hP hS ls hl q hR k
      rw [jf_Lw_codeOf_L29] at hR
      refine lv_iconst (v := 0) hx hb dL_codeOf_29 (by decide) ?_
      refine lv_istore (lv' := [(5, .int 0), (0, .int z0), (1, .ref a_r1), (2, .ref a_r2), (3, .ref a_n1), (4, .int z4)]) hx hb dL_codeOf_30 hl (by decide) rfl (fun ls hl => ?_)
      refine lv_iconst (v := 0) hx hb dL_codeOf_32 (by decide) ?_
      refine lv_istore (lv' := [(6, .int 0), (5, .int 0), (0, .int z0), (1, .ref a_r1), (2, .ref a_r2), (3, .ref a_n1), (4, .int z4)]) hx hb dL_codeOf_33 hl (by decide) rfl (fun ls hl => ?_)
      obtain ⟨q_4, hq_4, hR⟩ := jbind hR
      try dsimp only at hR
      refine L35 jF X (by omega) v_n1 z0 z4 0 0 _ _ hP hS _ (lv_sub hl [2, 3, 4, 5, 6, 1, 0] rfl) _ hq_4 (fun H locs hP hS ls hl => ?_)
      refine lv_iload hx hb dL_codeOf_77 (lv_at hl 5 rfl) ?_
      refine lv_iload hx hb dL_codeOf_79 (lv_at hl 4 rfl) ?_
      refine lv_icmp_ge (tgt := 89) hx hb dL_codeOf_81 (by decide) (fun c_8 => ?_) (fun c_8 => ?_)
      · replace hR := Eq.trans (Eq.symm (if_pos c_8)) hR
        refine lv_iload hx hb dL_codeOf_89 (lv_at hl 4 rfl) ?_
        exact J91 v_n1 z4 _ _ hP hS _ (lv_sub hl [0, 1, 2, 3] rfl) _ hR k
      · replace hR := Eq.trans (Eq.symm (if_neg c_8)) hR
        refine lv_iload hx hb dL_codeOf_84 (lv_at hl 5 rfl) ?_
        refine lv_goto (tgt := 91) hx hb dL_codeOf_86 (by decide) ?_
        exact J91 v_n1 q_4 _ _ hP hS _ (lv_sub hl [0, 1, 2, 3] rfl) _ hR k
  refine lv_astore_n (lv' := [(3, .ref a_n1), (0, .int x0), (1, .ref a_r1), (2, .ref a_r2)]) hx hb dL_codeOf_3 rfl hl (by decide) rfl (fun ls hl => ?_)
  refine lv_ldc (v := 2147483647) hx hb hown (hts (.constant RL 137 (2147483647)) (by decide +kernel)) dL_codeOf_4 ?_
  refine lv_istore (lv' := [(4, .int 2147483647), (3, .ref a_n1), (0, .int x0), (1, .ref a_r1), (2, .ref a_r2)]) hx hb dL_codeOf_6 hl (by decide) rfl (fun ls hl => ?_)
  refine lv_iconst (v := 0) hx hb dL_codeOf_8 (by decide) ?_
  refine lv_istore (lv' := [(5, .int 0), (4, .int 2147483647), (3, .ref a_n1), (0, .int x0), (1, .ref a_r1), (2, .ref a_r2)]) hx hb dL_codeOf_9 hl (by decide) rfl (fun ls hl => ?_)
  obtain ⟨q_1, hq_1, hR⟩ := jbind hR
  try dsimp only at hR
  refine L11 jF (0 + 1) (by omega) x0 2147483647 0 (fun _ => 0) _ _ hP hS _ (lv_sub hl [3, 4, 5, 2, 1, 0] rfl) _ hq_1 (fun H locs hP hS ls hl => ?_)
  obtain ⟨q_6, hq_6, hR⟩ := jbind hR
  try dsimp only at hR
  refine L29 jF (0 + 1) (by omega) x0 2147483647 q_1 _ _ hP hS _ (lv_sub hl [0, 1, 2, 3, 4] rfl) _ hq_6 (fun H locs hP hS ls hl => ?_)
  refine lv_iload hx hb dL_codeOf_101 (lv_at hl 0 rfl) ?_
  obtain rfl := (Option.some.inj hR)
  refine W.widen (k := 1) (n := 10) (by omega) (by omega) ?_
  exact fin _ _ _ _ _ rfl (hP.sub [0, 1] rfl) hS dL_codeOf_103
abbrev jw_ar5Iar5Iar64I (g : jG) (a_r1 a_r2 a_n2 : Nat) (v_r1 : Nat → Int32) (v_r2 : Nat → Int32) (v_n2 : Nat → Int32) : va_W := [(a_r1, .inl (g.2.1, 5, .inl v_r1)), (a_r2, .inl (g.2.1, 5, .inl v_r2)), (a_n2, .inl (g.2.1, 64, .inl v_n2))]
abbrev jw_ar5Iar5Iar64Iar64I (g : jG) (a_r1 a_r2 a_n2 a_n7 : Nat) (v_r1 : Nat → Int32) (v_r2 : Nat → Int32) (v_n2 : Nat → Int32) (v_n7 : Nat → Int32) : va_W := [(a_r1, .inl (g.2.1, 5, .inl v_r1)), (a_r2, .inl (g.2.1, 5, .inl v_r2)), (a_n2, .inl (g.2.1, 64, .inl v_n2)), (a_n7, .inl (g.2.1, 64, .inl v_n7))]
abbrev jw_ar5Iar5Iar64Iar64Iar64I (g : jG) (a_r1 a_r2 a_n2 a_n7 a_n13 : Nat) (v_r1 : Nat → Int32) (v_r2 : Nat → Int32) (v_n2 : Nat → Int32) (v_n7 : Nat → Int32) (v_n13 : Nat → Int32) : va_W := [(a_r1, .inl (g.2.1, 5, .inl v_r1)), (a_r2, .inl (g.2.1, 5, .inl v_r2)), (a_n2, .inl (g.2.1, 64, .inl v_n2)), (a_n7, .inl (g.2.1, 64, .inl v_n7)), (a_n13, .inl (g.2.1, 64, .inl v_n13))]
abbrev jw_ar5Iar5Iar64Iar64Iar64Iar5I (g : jG) (a_r1 a_r2 a_n2 a_n7 a_n13 a_n35 : Nat) (v_r1 : Nat → Int32) (v_r2 : Nat → Int32) (v_n2 : Nat → Int32) (v_n7 : Nat → Int32) (v_n13 : Nat → Int32) (v_n35 : Nat → Int32) : va_W := [(a_r1, .inl (g.2.1, 5, .inl v_r1)), (a_r2, .inl (g.2.1, 5, .inl v_r2)), (a_n2, .inl (g.2.1, 64, .inl v_n2)), (a_n7, .inl (g.2.1, 64, .inl v_n7)), (a_n13, .inl (g.2.1, 64, .inl v_n13)), (a_n35, .inl (g.2.1, 5, .inl v_n35))]
abbrev jw_ar5Iar5Iar64Iar64Iar64Iar5Iar5I (g : jG) (a_r1 a_r2 a_n2 a_n7 a_n13 a_n35 a_n40 : Nat) (v_r1 : Nat → Int32) (v_r2 : Nat → Int32) (v_n2 : Nat → Int32) (v_n7 : Nat → Int32) (v_n13 : Nat → Int32) (v_n35 : Nat → Int32) (v_n40 : Nat → Int32) : va_W := [(a_r1, .inl (g.2.1, 5, .inl v_r1)), (a_r2, .inl (g.2.1, 5, .inl v_r2)), (a_n2, .inl (g.2.1, 64, .inl v_n2)), (a_n7, .inl (g.2.1, 64, .inl v_n7)), (a_n13, .inl (g.2.1, 64, .inl v_n13)), (a_n35, .inl (g.2.1, 5, .inl v_n35)), (a_n40, .inl (g.2.1, 5, .inl v_n40))]
def jf_Lw_kinOf_L112 (z0 : Int32) (z6 : Int32) (z9 : Int32) (z10 : Int32) : Nat → Int32 → Int32 → (Nat → Int32) → (Nat → Int32) → Option ((Nat → Int32) × (Nat → Int32))
  | 0, _, _, _, _ => none
  | n + 1, z11, z12, v_n35, v_n40 =>
    if z12 < 0 then (some (v_n35, v_n40)) else (if jin z12 5 = true then (if jin z12 5 = true then (jlet (z11 / 25) (fun y11_1 => (jf_Lw_kinOf_L112 z0 z6 z9 z10 n) y11_1 (z12 + (-1)) (upd v_n35 z12.toNatClampNeg ((z11 / 5) - (z11 / 5) / 5 * 5)) (upd v_n40 z12.toNatClampNeg (z11 - z11 / 5 * 5)))) else none) else none)
def jf_Lw_kinOf_b174 (self : Int32 → Int32 → (Nat → Int32) → (Nat → Int32) → (Nat → Int32) → (Nat → Int32) → (Nat → Int32) → Option (Int32 × (Nat → Int32) × (Nat → Int32) × (Nat → Int32) × (Nat → Int32) × (Nat → Int32))) (v_n2 : Nat → Int32) (v_n7 : Nat → Int32) (v_n13 : Nat → Int32) (v_n35 : Nat → Int32) (v_n40 : Nat → Int32) (z0 : Int32) (z6 : Int32) (z9 : Int32) (z10 : Int32) : Option (Int32 × (Nat → Int32) × (Nat → Int32) × (Nat → Int32) × (Nat → Int32) × (Nat → Int32)) :=
  Option.bind (jf_Lw_codeOf v_n35 v_n40 z0) (fun q_5 => Option.bind (jf_Lw_keeps v_n2 v_n7 v_n13 q_5 z6) (fun q_6 => self q_6.1 (z10 + 1) q_6.2.1 q_6.2.2.1 q_6.2.2.2 v_n35 v_n40))
def jf_Lw_kinOf_b105 (self : Int32 → Int32 → (Nat → Int32) → (Nat → Int32) → (Nat → Int32) → (Nat → Int32) → (Nat → Int32) → Option (Int32 × (Nat → Int32) × (Nat → Int32) × (Nat → Int32) × (Nat → Int32) × (Nat → Int32))) (v_n2 : Nat → Int32) (v_n7 : Nat → Int32) (v_n13 : Nat → Int32) (v_n35 : Nat → Int32) (v_n40 : Nat → Int32) (z0 : Int32) (z6 : Int32) (z9 : Int32) (z10 : Int32) (s0 : Int32) : Option (Int32 × (Nat → Int32) × (Nat → Int32) × (Nat → Int32) × (Nat → Int32) × (Nat → Int32)) :=
  jlet (z0 - 1) (fun y12_1 => Option.bind (jf_Lw_kinOf_L112 z0 z6 z9 z10 jF s0 y12_1 v_n35 v_n40) (fun q_3 => if z10 = 0 then (Option.bind (jf_Lw_shears q_3.1 q_3.2 z0) (fun q_7 => jf_Lw_kinOf_b174 self v_n2 v_n7 v_n13 q_3.1 q_7 z0 z6 z9 z10)) else (Option.bind (jf_Lw_turns q_3.1 q_3.2 z0) (fun q_4 => jf_Lw_kinOf_b174 self v_n2 v_n7 v_n13 q_4.1 q_4.2 z0 z6 z9 z10))))
def jf_Lw_kinOf_L57 (z0 : Int32) (z9 : Int32) : Nat → Int32 → Int32 → (Nat → Int32) → (Nat → Int32) → (Nat → Int32) → (Nat → Int32) → (Nat → Int32) → Option (Int32 × (Nat → Int32) × (Nat → Int32) × (Nat → Int32) × (Nat → Int32) × (Nat → Int32))
  | 0, _, _, _, _, _, _, _ => none
  | n + 1, z6, z10, v_n2, v_n7, v_n13, v_n35, v_n40 =>
    if 2 ≤ z10 then (some (z6, v_n2, v_n7, v_n13, v_n35, v_n40)) else (if 64 ≤ z9 then (if 128 ≤ z9 then (if jin (z9 - 128) 64 = true then (jf_Lw_kinOf_b105 (jf_Lw_kinOf_L57 z0 z9 n) v_n2 v_n7 v_n13 v_n35 v_n40 z0 z6 z9 z10 (v_n13 (z9 - 128).toNatClampNeg)) else none) else (if jin (z9 - 64) 64 = true then (jf_Lw_kinOf_b105 (jf_Lw_kinOf_L57 z0 z9 n) v_n2 v_n7 v_n13 v_n35 v_n40 z0 z6 z9 z10 (v_n7 (z9 - 64).toNatClampNeg)) else none)) else (if jin z9 64 = true then (jf_Lw_kinOf_b105 (jf_Lw_kinOf_L57 z0 z9 n) v_n2 v_n7 v_n13 v_n35 v_n40 z0 z6 z9 z10 (v_n2 z9.toNatClampNeg)) else none))
def jf_Lw_kinOf_L47 (z0 : Int32) : Nat → Int32 → Int32 → (Nat → Int32) → (Nat → Int32) → (Nat → Int32) → (Nat → Int32) → (Nat → Int32) → Option (Int32 × (Nat → Int32) × (Nat → Int32) × (Nat → Int32) × (Nat → Int32) × (Nat → Int32))
  | 0, _, _, _, _, _, _, _ => none
  | n + 1, z6, z9, v_n2, v_n7, v_n13, v_n35, v_n40 =>
    if z6 ≤ z9 then (some (z6, v_n2, v_n7, v_n13, v_n35, v_n40)) else (Option.bind (jf_Lw_kinOf_L57 z0 z9 4 z6 0 v_n2 v_n7 v_n13 v_n35 v_n40) (fun q_8 => (jf_Lw_kinOf_L47 z0 n) q_8.1 (z9 + 1) q_8.2.1 q_8.2.2.1 q_8.2.2.2.1 q_8.2.2.2.2.1 q_8.2.2.2.2.2))
def jf_Lw_kinOf (v_r1 : Nat → Int32) (v_r2 : Nat → Int32) (x0 : Int32) : Option Int32 :=
  Option.bind (jf_Lw_codeOf v_r1 v_r2 x0) (fun q_1 => Option.bind (jf_Lw_keeps (fun _ => 0) (fun _ => 0) (fun _ => 0) q_1 0) (fun q_2 => Option.bind (jf_Lw_kinOf_L47 x0 170 q_2.1 0 q_2.2.1 q_2.2.2.1 q_2.2.2.2 (fun _ => 0) (fun _ => 0)) (fun q_9 => some q_9.1)))
abbrev jr_Lw_kinOf : Room := { frames := 2, cells := 1384, slots := 13840, locals := 52 }
set_option maxRecDepth 100000 in
set_option maxHeartbeats 4000000 in
theorem jc_Lw_kinOf (l : Launch) (g : jG) (a_r1 a_r2 : Nat) (v_r1 : Nat → Int32) (v_r2 : Nat → Int32) (x0 : Int32) (hst : l.stackTraces = false) (R : Int32) (hR : jf_Lw_kinOf v_r1 v_r2 x0 = some R) (sz : Nat) : Met l yL_kinOf wsL_kinOf jr_Lw_kinOf (jPx g [.int x0, .ref a_r1, .ref a_r2] (jw_ar5Iar5I g a_r1 a_r2 v_r1 v_r2) sz) (jQi g R (jw_ar5Iar5I g a_r1 a_r2 v_r1 v_r2) (va_A (jw_ar5Iar5I g a_r1 a_r2 v_r1 v_r2) sz)) 1384 13840 (va_A (jw_ar5Iar5I g a_r1 a_r2 v_r1 v_r2) sz) := by
  refine jm_ki (cc := cL_kinOf) (maxL := 13) (by decide +kernel) rfl (Nat.le_of_ble_eq_true rfl) ?_
  intro p e s m below meth c A Q hx hb hml hown hts hK hE hZ hP hD hA hS fin ls hl
  have hl : lv_has ls 13 [(0, .int x0), (1, .ref a_r1), (2, .ref a_r2)] := hl
  have hown : s.vm.findClass RL = some m.cls := hown
  rw [jf_Lw_kinOf] at hR
  refine W.widen (k := 0) (n := 10 * 0) (by decide) (by decide) ?_
  refine lv_bipush (v := 64) hx hb dL_kinOf_0 (by decide) ?_
  refine jnewa_I hx hb (hts (.arrayClass .int) (by decide +kernel)) hK hP (jD_to (ws' := jw_ar5Iar5I g a_r1 a_r2 v_r1 v_r2) hD rfl) hS hA (N := 64) (by decide) (by decide) (by decide) (by show 0 + 1 ≤ 1384; omega) (by show 10 * 0 + 64 ≤ 13840; omega) dL_kinOf_2 (fun a_n2 H hP hD hS => ?_)
  have hP : va_P g.1 vwCl (jw_ar5Iar5Iar64I g a_r1 a_r2 a_n2 v_r1 v_r2 (fun _ => 0)) H := hP
  have hD : va_D A (jw_ar5Iar5Iar64I g a_r1 a_r2 a_n2 v_r1 v_r2 (fun _ => 0)) := hD
  refine W.widen (k := 0 + 7) (n := (10 * (0 + 7))) (by omega) (by omega) ?_
  refine lv_astore_n (lv' := [(3, .ref a_n2), (0, .int x0), (1, .ref a_r1), (2, .ref a_r2)]) hx hb dL_kinOf_4 rfl hl (by decide) rfl (fun ls hl => ?_)
  refine lv_bipush (v := 64) hx hb dL_kinOf_5 (by decide) ?_
  refine jnewa_I hx hb (hts (.arrayClass .int) (by decide +kernel)) hK hP (jD_to (ws' := jw_ar5Iar5Iar64I g a_r1 a_r2 a_n2 v_r1 v_r2 (fun _ => 0)) hD rfl) hS hA (N := 64) (by decide) (by decide) (by decide) (by show (0 + 7) + 1 ≤ 1384; omega) (by show 10 * (0 + 7) + 64 ≤ 13840; omega) dL_kinOf_7 (fun a_n7 H hP hD hS => ?_)
  have hP : va_P g.1 vwCl (jw_ar5Iar5Iar64Iar64I g a_r1 a_r2 a_n2 a_n7 v_r1 v_r2 (fun _ => 0) (fun _ => 0)) H := hP
  have hD : va_D A (jw_ar5Iar5Iar64Iar64I g a_r1 a_r2 a_n2 a_n7 v_r1 v_r2 (fun _ => 0) (fun _ => 0)) := hD
  refine W.widen (k := 0 + 14) (n := (10 * (0 + 14))) (by omega) (by omega) ?_
  refine lv_astore (lv' := [(4, .ref a_n7), (3, .ref a_n2), (0, .int x0), (1, .ref a_r1), (2, .ref a_r2)]) hx hb dL_kinOf_9 hl (by decide) rfl (fun ls hl => ?_)
  refine lv_bipush (v := 64) hx hb dL_kinOf_11 (by decide) ?_
  refine jnewa_I hx hb (hts (.arrayClass .int) (by decide +kernel)) hK hP (jD_to (ws' := jw_ar5Iar5Iar64Iar64I g a_r1 a_r2 a_n2 a_n7 v_r1 v_r2 (fun _ => 0) (fun _ => 0)) hD rfl) hS hA (N := 64) (by decide) (by decide) (by decide) (by show (0 + 14) + 1 ≤ 1384; omega) (by show 10 * (0 + 14) + 64 ≤ 13840; omega) dL_kinOf_13 (fun a_n13 H hP hD hS => ?_)
  have hP : va_P g.1 vwCl (jw_ar5Iar5Iar64Iar64Iar64I g a_r1 a_r2 a_n2 a_n7 a_n13 v_r1 v_r2 (fun _ => 0) (fun _ => 0) (fun _ => 0)) H := hP
  have hD : va_D A (jw_ar5Iar5Iar64Iar64Iar64I g a_r1 a_r2 a_n2 a_n7 a_n13 v_r1 v_r2 (fun _ => 0) (fun _ => 0) (fun _ => 0)) := hD
  refine W.widen (k := 0 + 21) (n := (10 * (0 + 21))) (by omega) (by omega) ?_
  refine lv_astore (lv' := [(5, .ref a_n13), (4, .ref a_n7), (3, .ref a_n2), (0, .int x0), (1, .ref a_r1), (2, .ref a_r2)]) hx hb dL_kinOf_15 hl (by decide) rfl (fun ls hl => ?_)
  refine lv_iload_n hx hb dL_kinOf_17 rfl (lv_at hl 3 rfl) ?_
  refine lv_aload_n hx hb dL_kinOf_18 rfl (lv_at hl 4 rfl) ?_
  refine lv_aload_n hx hb dL_kinOf_19 rfl (lv_at hl 5 rfl) ?_
  obtain ⟨q_1, hq_1, hR⟩ := jbind hR
  try dsimp only at hR
  refine jcall_wx (ws' := jw_ar5Iar5Iar64Iar64Iar64I g a_r1 a_r2 a_n2 a_n7 a_n13 v_r1 v_r2 (fun _ => 0) (fun _ => 0) (fun _ => 0)) (va_runS (As := [.int x0, .ref a_r1, .ref a_r2]) (rest := []) ⟨hx, hb, hml, hown, hts⟩ (jc_Lw_codeOf l g a_r1 a_r2 v_r1 v_r2 x0 hst _ hq_1 _) (va_cwS 3 hts gL_kinOf_L_codeOf rfl rfl rfl (by decide +kernel) ⟨Nat.le_of_ble_eq_true rfl, Nat.le_of_ble_eq_true rfl⟩) (jpx_s hK hE (jZ_kept hZ hS.2.1) (va_free (wc := jw_ar5Iar5I g a_r1 a_r2 v_r1 v_r2) (jD_to (ws' := jw_ar5Iar5Iar64Iar64Iar64I g a_r1 a_r2 a_n2 a_n7 a_n13 v_r1 v_r2 (fun _ => 0) (fun _ => 0) (fun _ => 0)) hD rfl) hS hA [0, 1] rfl) (hP.sub (ws' := jw_ar5Iar5I g a_r1 a_r2 v_r1 v_r2) [0, 1] rfl) ((jD_to (ws' := jw_ar5Iar5Iar64Iar64Iar64I g a_r1 a_r2 a_n2 a_n7 a_n13 v_r1 v_r2 (fun _ => 0) (fun _ => 0) (fun _ => 0)) hD rfl).sub [0, 1] (by decide) rfl)) rfl rfl hl.1 rfl (lv_room (Nat.le_of_ble_eq_true rfl)) dL_kinOf_20 ⟨by show (0 + 21) + 1 ≤ 1384; omega, by show 10 * (0 + 21) + 10 ≤ 13840; omega⟩) hP (jD_to hD rfl) hS hA [0, 1] [2, 3, 4] [3, 4, 0, 1, 2] rfl (by decide) rfl (fun H locs hP hS => ?_)
  refine W.widen (k := 0 + 22) (n := (10 * (0 + 22))) (by omega) (by omega) ?_
  refine lv_iconst (v := 0) hx hb dL_kinOf_23 (by decide) ?_
  refine lv_aload_n hx hb dL_kinOf_24 rfl (lv_at hl 2 rfl) ?_
  refine lv_aload hx hb dL_kinOf_25 (lv_at hl 1 rfl) ?_
  refine lv_aload hx hb dL_kinOf_27 (lv_at hl 0 rfl) ?_
  obtain ⟨q_2, hq_2, hR⟩ := jbind hR
  try dsimp only at hR
  refine jcall_wi (ws' := jw_ar5Iar5Iar64Iar64Iar64I g a_r1 a_r2 a_n2 a_n7 a_n13 v_r1 v_r2 q_2.2.1 q_2.2.2.1 q_2.2.2.2) (va_runS (As := [.int q_1, .int 0, .ref a_n2, .ref a_n7, .ref a_n13]) (rest := []) ⟨hx, hb, hml, hown, hts⟩ (jc_Lw_keeps l g a_n2 a_n7 a_n13 (fun _ => 0) (fun _ => 0) (fun _ => 0) q_1 0 _ hq_2 _) (va_cwS 5 hts gL_kinOf_L_keeps rfl rfl rfl (by decide +kernel) ⟨Nat.le_of_ble_eq_true rfl, Nat.le_of_ble_eq_true rfl⟩) (jpw_s hK (hP.sub (ws' := jw_ar64Iar64Iar64I g a_n2 a_n7 a_n13 (fun _ => 0) (fun _ => 0) (fun _ => 0)) [2, 3, 4] rfl) ((jD_to (ws' := jw_ar5Iar5Iar64Iar64Iar64I g a_r1 a_r2 a_n2 a_n7 a_n13 v_r1 v_r2 (fun _ => 0) (fun _ => 0) (fun _ => 0)) hD rfl).sub [2, 3, 4] (by decide) rfl)) rfl rfl hl.1 rfl (lv_room (Nat.le_of_ble_eq_true rfl)) dL_kinOf_29 ⟨by show (0 + 22) + 0 ≤ 1384; omega, by show 10 * (0 + 22) + 0 ≤ 13840; omega⟩) hP (jD_to hD rfl) hS hA [2, 3, 4] [0, 1] [0, 1, 2, 3, 4] rfl (by decide) rfl (fun H locs hP hS => ?_)
  refine lv_istore (lv' := [(6, .int q_2.1), (5, .ref a_n13), (4, .ref a_n7), (3, .ref a_n2), (0, .int x0), (1, .ref a_r1), (2, .ref a_r2)]) hx hb dL_kinOf_32 hl (by decide) rfl (fun ls hl => ?_)
  refine lv_iconst (v := 5) hx hb dL_kinOf_34 (by decide) ?_
  refine jnewa_I hx hb (hts (.arrayClass .int) (by decide +kernel)) hK hP (jD_to (ws' := jw_ar5Iar5Iar64Iar64Iar64I g a_r1 a_r2 a_n2 a_n7 a_n13 v_r1 v_r2 q_2.2.1 q_2.2.2.1 q_2.2.2.2) hD rfl) hS hA (N := 5) (by decide) (by decide) (by decide) (by show (0 + 22) + 1 ≤ 1384; omega) (by show 10 * (0 + 22) + 5 ≤ 13840; omega) dL_kinOf_35 (fun a_n35 H hP hD hS => ?_)
  have hP : va_P g.1 vwCl (jw_ar5Iar5Iar64Iar64Iar64Iar5I g a_r1 a_r2 a_n2 a_n7 a_n13 a_n35 v_r1 v_r2 q_2.2.1 q_2.2.2.1 q_2.2.2.2 (fun _ => 0)) H := hP
  have hD : va_D A (jw_ar5Iar5Iar64Iar64Iar64Iar5I g a_r1 a_r2 a_n2 a_n7 a_n13 a_n35 v_r1 v_r2 q_2.2.1 q_2.2.2.1 q_2.2.2.2 (fun _ => 0)) := hD
  refine W.widen (k := 0 + 23) (n := (10 * (0 + 23))) (by omega) (by omega) ?_
  refine lv_astore (lv' := [(7, .ref a_n35), (6, .int q_2.1), (5, .ref a_n13), (4, .ref a_n7), (3, .ref a_n2), (0, .int x0), (1, .ref a_r1), (2, .ref a_r2)]) hx hb dL_kinOf_37 hl (by decide) rfl (fun ls hl => ?_)
  refine lv_iconst (v := 5) hx hb dL_kinOf_39 (by decide) ?_
  refine jnewa_I hx hb (hts (.arrayClass .int) (by decide +kernel)) hK hP (jD_to (ws' := jw_ar5Iar5Iar64Iar64Iar64Iar5I g a_r1 a_r2 a_n2 a_n7 a_n13 a_n35 v_r1 v_r2 q_2.2.1 q_2.2.2.1 q_2.2.2.2 (fun _ => 0)) hD rfl) hS hA (N := 5) (by decide) (by decide) (by decide) (by show (0 + 23) + 1 ≤ 1384; omega) (by show 10 * (0 + 23) + 5 ≤ 13840; omega) dL_kinOf_40 (fun a_n40 H hP hD hS => ?_)
  have hP : va_P g.1 vwCl (jw_ar5Iar5Iar64Iar64Iar64Iar5Iar5I g a_r1 a_r2 a_n2 a_n7 a_n13 a_n35 a_n40 v_r1 v_r2 q_2.2.1 q_2.2.2.1 q_2.2.2.2 (fun _ => 0) (fun _ => 0)) H := hP
  have hD : va_D A (jw_ar5Iar5Iar64Iar64Iar64Iar5Iar5I g a_r1 a_r2 a_n2 a_n7 a_n13 a_n35 a_n40 v_r1 v_r2 q_2.2.1 q_2.2.2.1 q_2.2.2.2 (fun _ => 0) (fun _ => 0)) := hD
  refine W.widen (k := 0 + 24) (n := (10 * (0 + 24))) (by omega) (by omega) ?_
  have L47 : ∀ (n : Nat) (X : Nat) (_ : X ≤ 1384) (z0 : Int32) (z6 : Int32) (z9 : Int32) (v_n2 : Nat → Int32) (v_n7 : Nat → Int32) (v_n13 : Nat → Int32) (v_n35 : Nat → Int32) (v_n40 : Nat → Int32) (u : Nat) (_ : u + n * 8 ≤ X) (H : Heap) (locs : List Loc), va_P g.1 vwCl (jw_ar5Iar5Iar64Iar64Iar64Iar5Iar5I g a_r1 a_r2 a_n2 a_n7 a_n13 a_n35 a_n40 v_r1 v_r2 v_n2 v_n7 v_n13 v_n35 v_n40) H → va_S A s.heap H locs → ∀ (ls : Array Slot), lv_has ls 13 [(0, .int z0), (3, .ref a_n2), (4, .ref a_n7), (5, .ref a_n13), (6, .int z6), (7, .ref a_n35), (8, .ref a_n40), (9, .int z9)] → ∀ q, jf_Lw_kinOf_L47 z0 n z6 z9 v_n2 v_n7 v_n13 v_n35 v_n40 = some q → (∀ (H : Heap) (locs : List Loc), va_P g.1 vwCl (jw_ar5Iar5Iar64Iar64Iar64Iar5Iar5I g a_r1 a_r2 a_n2 a_n7 a_n13 a_n35 a_n40 v_r1 v_r2 q.2.1 q.2.2.1 q.2.2.2.1 q.2.2.2.2.1 q.2.2.2.2.2) H → va_S A s.heap H locs → ∀ ls : Array Slot, lv_has ls 13 [(6, .int q.1)] → W p l e jr_Lw_kinOf s m ([.int x0, .ref a_r1, .ref a_r2] : List Value).toArray below meth c H locs X (10 * X) Q (F0 m 206 ls [])) → W p l e jr_Lw_kinOf s m ([.int x0, .ref a_r1, .ref a_r2] : List Value).toArray below meth c H locs u (10 * u) Q (F0 m 47 ls []) := by
    intro n X hX z0
    induction n with
    | zero =>
      intro z6 z9 v_n2 v_n7 v_n13 v_n35 v_n40 u hu H locs hP hS ls hl q hR k
      cases hR
    | succ n ih =>
      have L57 : ∀ (n : Nat) (X : Nat) (_ : X ≤ 1384) (z0 : Int32) (z9 : Int32) (z6 : Int32) (z10 : Int32) (v_n2 : Nat → Int32) (v_n7 : Nat → Int32) (v_n13 : Nat → Int32) (v_n35 : Nat → Int32) (v_n40 : Nat → Int32) (u : Nat) (_ : u + n * 2 ≤ X) (H : Heap) (locs : List Loc), va_P g.1 vwCl (jw_ar5Iar5Iar64Iar64Iar64Iar5Iar5I g a_r1 a_r2 a_n2 a_n7 a_n13 a_n35 a_n40 v_r1 v_r2 v_n2 v_n7 v_n13 v_n35 v_n40) H → va_S A s.heap H locs → ∀ (ls : Array Slot), lv_has ls 13 [(0, .int z0), (3, .ref a_n2), (4, .ref a_n7), (5, .ref a_n13), (6, .int z6), (7, .ref a_n35), (8, .ref a_n40), (9, .int z9), (10, .int z10)] → ∀ q, jf_Lw_kinOf_L57 z0 z9 n z6 z10 v_n2 v_n7 v_n13 v_n35 v_n40 = some q → (∀ (H : Heap) (locs : List Loc), va_P g.1 vwCl (jw_ar5Iar5Iar64Iar64Iar64Iar5Iar5I g a_r1 a_r2 a_n2 a_n7 a_n13 a_n35 a_n40 v_r1 v_r2 q.2.1 q.2.2.1 q.2.2.2.1 q.2.2.2.2.1 q.2.2.2.2.2) H → va_S A s.heap H locs → ∀ ls : Array Slot, lv_has ls 13 [(0, .int z0), (3, .ref a_n2), (4, .ref a_n7), (5, .ref a_n13), (6, .int q.1), (7, .ref a_n35), (8, .ref a_n40), (9, .int z9)] → W p l e jr_Lw_kinOf s m ([.int x0, .ref a_r1, .ref a_r2] : List Value).toArray below meth c H locs X (10 * X) Q (F0 m 200 ls [])) → W p l e jr_Lw_kinOf s m ([.int x0, .ref a_r1, .ref a_r2] : List Value).toArray below meth c H locs u (10 * u) Q (F0 m 57 ls []) := by
        intro n X hX z0 z9
        induction n with
        | zero =>
          intro z6 z10 v_n2 v_n7 v_n13 v_n35 v_n40 u hu H locs hP hS ls hl q hR k
          cases hR
        | succ n ih =>
          have L112 : ∀ (n : Nat) (X : Nat) (_ : X ≤ 1384) (v_n2 : Nat → Int32) (v_n7 : Nat → Int32) (v_n13 : Nat → Int32) (z0 : Int32) (z6 : Int32) (z9 : Int32) (z10 : Int32) (z11 : Int32) (z12 : Int32) (v_n35 : Nat → Int32) (v_n40 : Nat → Int32) (H : Heap) (locs : List Loc), va_P g.1 vwCl (jw_ar5Iar5Iar64Iar64Iar64Iar5Iar5I g a_r1 a_r2 a_n2 a_n7 a_n13 a_n35 a_n40 v_r1 v_r2 v_n2 v_n7 v_n13 v_n35 v_n40) H → va_S A s.heap H locs → ∀ (ls : Array Slot), lv_has ls 13 [(0, .int z0), (3, .ref a_n2), (4, .ref a_n7), (5, .ref a_n13), (6, .int z6), (7, .ref a_n35), (8, .ref a_n40), (9, .int z9), (10, .int z10), (11, .int z11), (12, .int z12)] → ∀ q, jf_Lw_kinOf_L112 z0 z6 z9 z10 n z11 z12 v_n35 v_n40 = some q → (∀ (H : Heap) (locs : List Loc), va_P g.1 vwCl (jw_ar5Iar5Iar64Iar64Iar64Iar5Iar5I g a_r1 a_r2 a_n2 a_n7 a_n13 a_n35 a_n40 v_r1 v_r2 v_n2 v_n7 v_n13 q.1 q.2) H → va_S A s.heap H locs → ∀ ls : Array Slot, lv_has ls 13 [(0, .int z0), (3, .ref a_n2), (4, .ref a_n7), (5, .ref a_n13), (6, .int z6), (7, .ref a_n35), (8, .ref a_n40), (9, .int z9), (10, .int z10)] → W p l e jr_Lw_kinOf s m ([.int x0, .ref a_r1, .ref a_r2] : List Value).toArray below meth c H locs X (10 * X) Q (F0 m 150 ls [])) → W p l e jr_Lw_kinOf s m ([.int x0, .ref a_r1, .ref a_r2] : List Value).toArray below meth c H locs X (10 * X) Q (F0 m 112 ls []) := by
            intro n X hX v_n2 v_n7 v_n13 z0 z6 z9 z10
            induction n with
            | zero =>
              intro z11 z12 v_n35 v_n40 H locs hP hS ls hl q hR k
              cases hR
            | succ n ih =>
              intro z11 z12 v_n35 v_n40 H locs hP hS ls hl q hR k
              rw [jf_Lw_kinOf_L112] at hR
              refine lv_iload hx hb dL_kinOf_112 (lv_at hl 10 rfl) ?_
              refine lv_if_lt (tgt := 150) hx hb dL_kinOf_114 (by decide) (fun c_6 => ?_) (fun c_6 => ?_)
              · replace hR := Eq.trans (Eq.symm (if_pos c_6)) hR
                cases hR
                exact k _ _ hP hS _ (lv_sub hl [0, 1, 2, 3, 4, 5, 6, 7, 8] rfl)
              · replace hR := Eq.trans (Eq.symm (if_neg c_6)) hR
                refine lv_aload hx hb dL_kinOf_117 (lv_at hl 6 rfl) ?_
                refine lv_iload hx hb dL_kinOf_119 (lv_at hl 10 rfl) ?_
                refine lv_iload hx hb dL_kinOf_121 (lv_at hl 9 rfl) ?_
                refine lv_iconst (v := 5) hx hb dL_kinOf_123 (by decide) ?_
                refine lv_irem hx hb dL_kinOf_124 (by decide) ?_
                by_cases c_7 : jin z12 5 = true
                case neg => replace hR := Eq.trans (Eq.symm (if_neg c_7)) hR; cases hR
                replace hR := Eq.trans (Eq.symm (if_pos c_7)) hR
                refine va_iast hx hb hK.1 hP (jD_to hD rfl) hS 6 0 rfl rfl (jin_in c_7) dL_kinOf_125 (fun H locs hP _ hS => ?_)
                have hP : va_P g.1 vwCl (jw_ar5Iar5Iar64Iar64Iar64Iar5Iar5I g a_r1 a_r2 a_n2 a_n7 a_n13 a_n35 a_n40 v_r1 v_r2 v_n2 v_n7 v_n13 v_n35 (upd v_n40 z12.toNatClampNeg (z11 - z11 / 5 * 5))) H := hP
                refine lv_aload hx hb dL_kinOf_126 (lv_at hl 5 rfl) ?_
                refine lv_iload hx hb dL_kinOf_128 (lv_at hl 10 rfl) ?_
                refine lv_iload hx hb dL_kinOf_130 (lv_at hl 9 rfl) ?_
                refine lv_iconst (v := 5) hx hb dL_kinOf_132 (by decide) ?_
                refine lv_idiv hx hb dL_kinOf_133 (by decide) ?_
                refine lv_iconst (v := 5) hx hb dL_kinOf_134 (by decide) ?_
                refine lv_irem hx hb dL_kinOf_135 (by decide) ?_
                by_cases c_8 : jin z12 5 = true
                case neg => replace hR := Eq.trans (Eq.symm (if_neg c_8)) hR; cases hR
                replace hR := Eq.trans (Eq.symm (if_pos c_8)) hR
                refine va_iast hx hb hK.1 hP (jD_to hD rfl) hS 5 0 rfl rfl (jin_in c_8) dL_kinOf_136 (fun H locs hP _ hS => ?_)
                have hP : va_P g.1 vwCl (jw_ar5Iar5Iar64Iar64Iar64Iar5Iar5I g a_r1 a_r2 a_n2 a_n7 a_n13 a_n35 a_n40 v_r1 v_r2 v_n2 v_n7 v_n13 (upd v_n35 z12.toNatClampNeg ((z11 / 5) - (z11 / 5) / 5 * 5)) (upd v_n40 z12.toNatClampNeg (z11 - z11 / 5 * 5))) H := hP
                refine lv_iload hx hb dL_kinOf_137 (lv_at hl 9 rfl) ?_
                refine lv_bipush (v := 25) hx hb dL_kinOf_139 (by decide) ?_
                refine lv_idiv hx hb dL_kinOf_141 (by decide) ?_
                refine jlet_i hR (fun y11_1 hR => ?_)
                try dsimp only at hR
                refine lv_istore (lv' := [(11, .int y11_1), (0, .int z0), (3, .ref a_n2), (4, .ref a_n7), (5, .ref a_n13), (6, .int z6), (7, .ref a_n35), (8, .ref a_n40), (9, .int z9), (10, .int z10), (12, .int z12)]) hx hb dL_kinOf_142 hl (by decide) rfl (fun ls hl => ?_)
                refine lv_iinc (v := z12 + (-1)) (lv' := [(12, .int (z12 + (-1))), (11, .int y11_1), (0, .int z0), (3, .ref a_n2), (4, .ref a_n7), (5, .ref a_n13), (6, .int z6), (7, .ref a_n35), (8, .ref a_n40), (9, .int z9), (10, .int z10)]) hx hb dL_kinOf_144 hl (k := 10) rfl (by first | rfl | decide) (by decide) rfl (fun ls hl => ?_)
                refine lv_goto (tgt := 112) hx hb dL_kinOf_147 (by decide) ?_
                exact ih y11_1 (z12 + (-1)) (upd v_n35 z12.toNatClampNeg ((z11 / 5) - (z11 / 5) / 5 * 5)) (upd v_n40 z12.toNatClampNeg (z11 - z11 / 5 * 5)) _ _ hP hS _ (lv_sub hl [2, 3, 4, 5, 6, 7, 8, 9, 10, 1, 0] rfl) _ hR k
          have J174 : ∀ (v_n2 : Nat → Int32) (v_n7 : Nat → Int32) (v_n13 : Nat → Int32) (v_n35 : Nat → Int32) (v_n40 : Nat → Int32) (z6 : Int32) (z10 : Int32) (u : Nat), u + 1 + n * 2 ≤ X → ∀ (H : Heap) (locs : List Loc), va_P g.1 vwCl (jw_ar5Iar5Iar64Iar64Iar64Iar5Iar5I g a_r1 a_r2 a_n2 a_n7 a_n13 a_n35 a_n40 v_r1 v_r2 v_n2 v_n7 v_n13 v_n35 v_n40) H → va_S A s.heap H locs → ∀ (ls : Array Slot), lv_has ls 13 [(0, .int z0), (3, .ref a_n2), (4, .ref a_n7), (5, .ref a_n13), (6, .int z6), (7, .ref a_n35), (8, .ref a_n40), (9, .int z9), (10, .int z10)] → ∀ q, jf_Lw_kinOf_b174 (jf_Lw_kinOf_L57 z0 z9 n) v_n2 v_n7 v_n13 v_n35 v_n40 z0 z6 z9 z10 = some q → (∀ (H : Heap) (locs : List Loc), va_P g.1 vwCl (jw_ar5Iar5Iar64Iar64Iar64Iar5Iar5I g a_r1 a_r2 a_n2 a_n7 a_n13 a_n35 a_n40 v_r1 v_r2 q.2.1 q.2.2.1 q.2.2.2.1 q.2.2.2.2.1 q.2.2.2.2.2) H → va_S A s.heap H locs → ∀ ls : Array Slot, lv_has ls 13 [(0, .int z0), (3, .ref a_n2), (4, .ref a_n7), (5, .ref a_n13), (6, .int q.1), (7, .ref a_n35), (8, .ref a_n40), (9, .int z9)] → W p l e jr_Lw_kinOf s m ([.int x0, .ref a_r1, .ref a_r2] : List Value).toArray below meth c H locs X (10 * X) Q (F0 m 200 ls [])) → W p l e jr_Lw_kinOf s m ([.int x0, .ref a_r1, .ref a_r2] : List Value).toArray below meth c H locs u (10 * u) Q (F0 m 174 ls []) := by
            intro v_n2 v_n7 v_n13 v_n35 v_n40 z6 z10 u hu H locs hP hS ls hl q hR k
            rw [jf_Lw_kinOf_b174] at hR
            refine lv_iload_n hx hb dL_kinOf_174 rfl (lv_at hl 0 rfl) ?_
            refine lv_aload hx hb dL_kinOf_175 (lv_at hl 5 rfl) ?_
            refine lv_aload hx hb dL_kinOf_177 (lv_at hl 6 rfl) ?_
            obtain ⟨q_5, hq_5, hR⟩ := jbind hR
            try dsimp only at hR
            refine jcall_wx (ws' := jw_ar5Iar5Iar64Iar64Iar64Iar5Iar5I g a_r1 a_r2 a_n2 a_n7 a_n13 a_n35 a_n40 v_r1 v_r2 v_n2 v_n7 v_n13 v_n35 v_n40) (va_runS (As := [.int z0, .ref a_n35, .ref a_n40]) (rest := []) ⟨hx, hb, hml, hown, hts⟩ (jc_Lw_codeOf l g a_n35 a_n40 v_n35 v_n40 z0 hst _ hq_5 _) (va_cwS 3 hts gL_kinOf_L_codeOf rfl rfl rfl (by decide +kernel) ⟨Nat.le_of_ble_eq_true rfl, Nat.le_of_ble_eq_true rfl⟩) (jpx_s hK hE (jZ_kept hZ hS.2.1) (va_free (wc := jw_ar5Iar5I g a_n35 a_n40 v_n35 v_n40) (jD_to (ws' := jw_ar5Iar5Iar64Iar64Iar64Iar5Iar5I g a_r1 a_r2 a_n2 a_n7 a_n13 a_n35 a_n40 v_r1 v_r2 v_n2 v_n7 v_n13 v_n35 v_n40) hD rfl) hS hA [5, 6] rfl) (hP.sub (ws' := jw_ar5Iar5I g a_n35 a_n40 v_n35 v_n40) [5, 6] rfl) ((jD_to (ws' := jw_ar5Iar5Iar64Iar64Iar64Iar5Iar5I g a_r1 a_r2 a_n2 a_n7 a_n13 a_n35 a_n40 v_r1 v_r2 v_n2 v_n7 v_n13 v_n35 v_n40) hD rfl).sub [5, 6] (by decide) rfl)) rfl rfl hl.1 rfl (lv_room (Nat.le_of_ble_eq_true rfl)) dL_kinOf_179 ⟨by show u + 1 ≤ 1384; omega, by show 10 * u + 10 ≤ 13840; omega⟩) hP (jD_to hD rfl) hS hA [5, 6] [0, 1, 2, 3, 4] [0, 1, 2, 3, 4, 5, 6] rfl (by decide) rfl (fun H locs hP hS => ?_)
            refine W.widen (k := u + 1) (n := (10 * (u + 1))) (by omega) (by omega) ?_
            refine lv_iload hx hb dL_kinOf_182 (lv_at hl 4 rfl) ?_
            refine lv_aload_n hx hb dL_kinOf_184 rfl (lv_at hl 1 rfl) ?_
            refine lv_aload hx hb dL_kinOf_185 (lv_at hl 2 rfl) ?_
            refine lv_aload hx hb dL_kinOf_187 (lv_at hl 3 rfl) ?_
            obtain ⟨q_6, hq_6, hR⟩ := jbind hR
            try dsimp only at hR
            refine jcall_wi (ws' := jw_ar5Iar5Iar64Iar64Iar64Iar5Iar5I g a_r1 a_r2 a_n2 a_n7 a_n13 a_n35 a_n40 v_r1 v_r2 q_6.2.1 q_6.2.2.1 q_6.2.2.2 v_n35 v_n40) (va_runS (As := [.int q_5, .int z6, .ref a_n2, .ref a_n7, .ref a_n13]) (rest := []) ⟨hx, hb, hml, hown, hts⟩ (jc_Lw_keeps l g a_n2 a_n7 a_n13 v_n2 v_n7 v_n13 q_5 z6 _ hq_6 _) (va_cwS 5 hts gL_kinOf_L_keeps rfl rfl rfl (by decide +kernel) ⟨Nat.le_of_ble_eq_true rfl, Nat.le_of_ble_eq_true rfl⟩) (jpw_s hK (hP.sub (ws' := jw_ar64Iar64Iar64I g a_n2 a_n7 a_n13 v_n2 v_n7 v_n13) [2, 3, 4] rfl) ((jD_to (ws' := jw_ar5Iar5Iar64Iar64Iar64Iar5Iar5I g a_r1 a_r2 a_n2 a_n7 a_n13 a_n35 a_n40 v_r1 v_r2 v_n2 v_n7 v_n13 v_n35 v_n40) hD rfl).sub [2, 3, 4] (by decide) rfl)) rfl rfl hl.1 rfl (lv_room (Nat.le_of_ble_eq_true rfl)) dL_kinOf_189 ⟨by show (u + 1) + 0 ≤ 1384; omega, by show 10 * (u + 1) + 0 ≤ 13840; omega⟩) hP (jD_to hD rfl) hS hA [2, 3, 4] [0, 1, 5, 6] [0, 1, 4, 5, 6, 2, 3] rfl (by decide) rfl (fun H locs hP hS => ?_)
            refine lv_istore (lv' := [(6, .int q_6.1), (0, .int z0), (3, .ref a_n2), (4, .ref a_n7), (5, .ref a_n13), (7, .ref a_n35), (8, .ref a_n40), (9, .int z9), (10, .int z10)]) hx hb dL_kinOf_192 hl (by decide) rfl (fun ls hl => ?_)
            refine lv_iinc (v := z10 + 1) (lv' := [(10, .int (z10 + 1)), (6, .int q_6.1), (0, .int z0), (3, .ref a_n2), (4, .ref a_n7), (5, .ref a_n13), (7, .ref a_n35), (8, .ref a_n40), (9, .int z9)]) hx hb dL_kinOf_194 hl (k := 8) rfl (by first | rfl | decide) (by decide) rfl (fun ls hl => ?_)
            refine lv_goto (tgt := 57) hx hb dL_kinOf_197 (by decide) ?_
            exact ih q_6.1 (z10 + 1) q_6.2.1 q_6.2.2.1 q_6.2.2.2 v_n35 v_n40 (u + 1) (by omega) _ _ hP hS _ (lv_sub hl [2, 3, 4, 5, 1, 6, 7, 8, 0] rfl) _ hR k
          have J105 : ∀ (v_n2 : Nat → Int32) (v_n7 : Nat → Int32) (v_n13 : Nat → Int32) (v_n35 : Nat → Int32) (v_n40 : Nat → Int32) (z6 : Int32) (z10 : Int32) (s0 : Int32) (u : Nat), u + 2 + n * 2 ≤ X → ∀ (H : Heap) (locs : List Loc), va_P g.1 vwCl (jw_ar5Iar5Iar64Iar64Iar64Iar5Iar5I g a_r1 a_r2 a_n2 a_n7 a_n13 a_n35 a_n40 v_r1 v_r2 v_n2 v_n7 v_n13 v_n35 v_n40) H → va_S A s.heap H locs → ∀ (ls : Array Slot), lv_has ls 13 [(0, .int z0), (3, .ref a_n2), (4, .ref a_n7), (5, .ref a_n13), (6, .int z6), (7, .ref a_n35), (8, .ref a_n40), (9, .int z9), (10, .int z10)] → ∀ q, jf_Lw_kinOf_b105 (jf_Lw_kinOf_L57 z0 z9 n) v_n2 v_n7 v_n13 v_n35 v_n40 z0 z6 z9 z10 s0 = some q → (∀ (H : Heap) (locs : List Loc), va_P g.1 vwCl (jw_ar5Iar5Iar64Iar64Iar64Iar5Iar5I g a_r1 a_r2 a_n2 a_n7 a_n13 a_n35 a_n40 v_r1 v_r2 q.2.1 q.2.2.1 q.2.2.2.1 q.2.2.2.2.1 q.2.2.2.2.2) H → va_S A s.heap H locs → ∀ ls : Array Slot, lv_has ls 13 [(0, .int z0), (3, .ref a_n2), (4, .ref a_n7), (5, .ref a_n13), (6, .int q.1), (7, .ref a_n35), (8, .ref a_n40), (9, .int z9)] → W p l e jr_Lw_kinOf s m ([.int x0, .ref a_r1, .ref a_r2] : List Value).toArray below meth c H locs X (10 * X) Q (F0 m 200 ls [])) → W p l e jr_Lw_kinOf s m ([.int x0, .ref a_r1, .ref a_r2] : List Value).toArray below meth c H locs u (10 * u) Q (F0 m 105 ls [.int s0]) := by
            intro v_n2 v_n7 v_n13 v_n35 v_n40 z6 z10 s0 u hu H locs hP hS ls hl q hR k
            rw [jf_Lw_kinOf_b105] at hR
            refine lv_istore (lv' := [(11, .int s0), (0, .int z0), (3, .ref a_n2), (4, .ref a_n7), (5, .ref a_n13), (6, .int z6), (7, .ref a_n35), (8, .ref a_n40), (9, .int z9), (10, .int z10)]) hx hb dL_kinOf_105 hl (by decide) rfl (fun ls hl => ?_)
            refine lv_iload_n hx hb dL_kinOf_107 rfl (lv_at hl 1 rfl) ?_
            refine lv_iconst (v := 1) hx hb dL_kinOf_108 (by decide) ?_
            refine lv_isub hx hb dL_kinOf_109 ?_
            refine jlet_i hR (fun y12_1 hR => ?_)
            try dsimp only at hR
            refine lv_istore (lv' := [(12, .int y12_1), (11, .int s0), (0, .int z0), (3, .ref a_n2), (4, .ref a_n7), (5, .ref a_n13), (6, .int z6), (7, .ref a_n35), (8, .ref a_n40), (9, .int z9), (10, .int z10)]) hx hb dL_kinOf_110 hl (by decide) rfl (fun ls hl => ?_)
            obtain ⟨q_3, hq_3, hR⟩ := jbind hR
            try dsimp only at hR
            refine L112 jF u (by omega) v_n2 v_n7 v_n13 z0 z6 z9 z10 s0 y12_1 v_n35 v_n40 _ _ hP hS _ (lv_sub hl [2, 3, 4, 5, 6, 7, 8, 9, 10, 1, 0] rfl) _ hq_3 (fun H locs hP hS ls hl => ?_)
            refine lv_iload hx hb dL_kinOf_150 (lv_at hl 8 rfl) ?_
            refine lv_if_ne (tgt := 166) hx hb dL_kinOf_152 (by decide) (fun c_9 => ?_) (fun c_9 => ?_)
            · replace hR := Eq.trans (Eq.symm (if_neg c_9)) hR
              refine lv_iload_n hx hb dL_kinOf_166 rfl (lv_at hl 0 rfl) ?_
              refine lv_aload hx hb dL_kinOf_167 (lv_at hl 5 rfl) ?_
              refine lv_aload hx hb dL_kinOf_169 (lv_at hl 6 rfl) ?_
              obtain ⟨q_4, hq_4, hR⟩ := jbind hR
              try dsimp only at hR
              refine jcall_wvx (ws' := jw_ar5Iar5Iar64Iar64Iar64Iar5Iar5I g a_r1 a_r2 a_n2 a_n7 a_n13 a_n35 a_n40 v_r1 v_r2 v_n2 v_n7 v_n13 q_4.1 q_4.2) (va_runS (As := [.int z0, .ref a_n35, .ref a_n40]) (rest := []) ⟨hx, hb, hml, hown, hts⟩ (jc_Lw_turns l g a_n35 a_n40 q_3.1 q_3.2 z0 hst _ hq_4 _) (va_cwS 3 hts gL_kinOf_L_turns rfl rfl rfl (by decide +kernel) ⟨Nat.le_of_ble_eq_true rfl, Nat.le_of_ble_eq_true rfl⟩) (jpx_s hK hE (jZ_kept hZ hS.2.1) (va_free (wc := jw_ar5Iar5I g a_n35 a_n40 q_3.1 q_3.2) (jD_to (ws' := jw_ar5Iar5Iar64Iar64Iar64Iar5Iar5I g a_r1 a_r2 a_n2 a_n7 a_n13 a_n35 a_n40 v_r1 v_r2 v_n2 v_n7 v_n13 q_3.1 q_3.2) hD rfl) hS hA [5, 6] rfl) (hP.sub (ws' := jw_ar5Iar5I g a_n35 a_n40 q_3.1 q_3.2) [5, 6] rfl) ((jD_to (ws' := jw_ar5Iar5Iar64Iar64Iar64Iar5Iar5I g a_r1 a_r2 a_n2 a_n7 a_n13 a_n35 a_n40 v_r1 v_r2 v_n2 v_n7 v_n13 q_3.1 q_3.2) hD rfl).sub [5, 6] (by decide) rfl)) rfl rfl hl.1 rfl (lv_room (Nat.le_of_ble_eq_true rfl)) dL_kinOf_171 ⟨by show u + 1 ≤ 1384; omega, by show 10 * u + 10 ≤ 13840; omega⟩) hP (jD_to hD rfl) hS hA [5, 6] [0, 1, 2, 3, 4] [0, 1, 2, 3, 4, 5, 6] rfl (by decide) rfl (fun H locs hP hS => ?_)
              refine W.widen (k := u + 1) (n := (10 * (u + 1))) (by omega) (by omega) ?_
              exact J174 v_n2 v_n7 v_n13 q_4.1 q_4.2 z6 z10 (u + 1) (by omega) _ _ hP hS _ (lv_sub hl [0, 1, 2, 3, 4, 5, 6, 7, 8] rfl) _ hR k
            · replace hR := Eq.trans (Eq.symm (if_pos c_9)) hR
              refine lv_iload_n hx hb dL_kinOf_155 rfl (lv_at hl 0 rfl) ?_
              refine lv_aload hx hb dL_kinOf_156 (lv_at hl 5 rfl) ?_
              refine lv_aload hx hb dL_kinOf_158 (lv_at hl 6 rfl) ?_
              obtain ⟨q_7, hq_7, hR⟩ := jbind hR
              try dsimp only at hR
              refine jcall_wvx (ws' := jw_ar5Iar5Iar64Iar64Iar64Iar5Iar5I g a_r1 a_r2 a_n2 a_n7 a_n13 a_n35 a_n40 v_r1 v_r2 v_n2 v_n7 v_n13 q_3.1 q_7) (va_runS (As := [.int z0, .ref a_n35, .ref a_n40]) (rest := []) ⟨hx, hb, hml, hown, hts⟩ (jc_Lw_shears l g a_n35 a_n40 q_3.1 q_3.2 z0 hst _ hq_7 _) (va_cwS 3 hts gL_kinOf_L_shears rfl rfl rfl (by decide +kernel) ⟨Nat.le_of_ble_eq_true rfl, Nat.le_of_ble_eq_true rfl⟩) (jpx_s hK hE (jZ_kept hZ hS.2.1) (va_free (wc := jw_ar5Iar5I g a_n35 a_n40 q_3.1 q_3.2) (jD_to (ws' := jw_ar5Iar5Iar64Iar64Iar64Iar5Iar5I g a_r1 a_r2 a_n2 a_n7 a_n13 a_n35 a_n40 v_r1 v_r2 v_n2 v_n7 v_n13 q_3.1 q_3.2) hD rfl) hS hA [5, 6] rfl) (hP.sub (ws' := jw_ar5Iar5I g a_n35 a_n40 q_3.1 q_3.2) [5, 6] rfl) ((jD_to (ws' := jw_ar5Iar5Iar64Iar64Iar64Iar5Iar5I g a_r1 a_r2 a_n2 a_n7 a_n13 a_n35 a_n40 v_r1 v_r2 v_n2 v_n7 v_n13 q_3.1 q_3.2) hD rfl).sub [5, 6] (by decide) rfl)) rfl rfl hl.1 rfl (lv_room (Nat.le_of_ble_eq_true rfl)) dL_kinOf_160 ⟨by show u + 1 ≤ 1384; omega, by show 10 * u + 10 ≤ 13840; omega⟩) hP (jD_to hD rfl) hS hA [5, 6] [0, 1, 2, 3, 4] [0, 1, 2, 3, 4, 5, 6] rfl (by decide) rfl (fun H locs hP hS => ?_)
              refine W.widen (k := u + 1) (n := (10 * (u + 1))) (by omega) (by omega) ?_
              refine lv_goto (tgt := 174) hx hb dL_kinOf_163 (by decide) ?_
              exact J174 v_n2 v_n7 v_n13 q_3.1 q_7 z6 z10 (u + 1) (by omega) _ _ hP hS _ (lv_sub hl [0, 1, 2, 3, 4, 5, 6, 7, 8] rfl) _ hR k
          intro z6 z10 v_n2 v_n7 v_n13 v_n35 v_n40 u hu H locs hP hS ls hl q hR k
          rw [jf_Lw_kinOf_L57] at hR
          refine lv_iload hx hb dL_kinOf_57 (lv_at hl 8 rfl) ?_
          refine lv_iconst (v := 2) hx hb dL_kinOf_59 (by decide) ?_
          refine lv_icmp_ge (tgt := 200) hx hb dL_kinOf_60 (by decide) (fun c_2 => ?_) (fun c_2 => ?_)
          · replace hR := Eq.trans (Eq.symm (if_pos c_2)) hR
            cases hR
            refine W.widen (k := X) (n := 10 * X) (by omega) (by omega) ?_
            exact k _ _ hP hS _ (lv_sub hl [0, 1, 2, 3, 4, 5, 6, 7] rfl)
          · replace hR := Eq.trans (Eq.symm (if_neg c_2)) hR
            refine lv_iload hx hb dL_kinOf_63 (lv_at hl 7 rfl) ?_
            refine lv_bipush (v := 64) hx hb dL_kinOf_65 (by decide) ?_
            refine lv_icmp_ge (tgt := 77) hx hb dL_kinOf_67 (by decide) (fun c_3 => ?_) (fun c_3 => ?_)
            · replace hR := Eq.trans (Eq.symm (if_pos c_3)) hR
              refine lv_iload hx hb dL_kinOf_77 (lv_at hl 7 rfl) ?_
              refine lv_sipush (v := 128) hx hb dL_kinOf_79 (by decide) ?_
              refine lv_icmp_ge (tgt := 96) hx hb dL_kinOf_82 (by decide) (fun c_4 => ?_) (fun c_4 => ?_)
              · replace hR := Eq.trans (Eq.symm (if_pos c_4)) hR
                refine lv_aload hx hb dL_kinOf_96 (lv_at hl 3 rfl) ?_
                refine lv_iload hx hb dL_kinOf_98 (lv_at hl 7 rfl) ?_
                refine lv_sipush (v := 128) hx hb dL_kinOf_100 (by decide) ?_
                refine lv_isub hx hb dL_kinOf_103 ?_
                by_cases c_5 : jin (z9 - 128) 64 = true
                case neg => replace hR := Eq.trans (Eq.symm (if_neg c_5)) hR; cases hR
                replace hR := Eq.trans (Eq.symm (if_pos c_5)) hR
                refine va_iald hx hb hK.1 hP 4 0 rfl rfl (jin_in c_5) dL_kinOf_104 ?_
                exact J105 v_n2 v_n7 v_n13 v_n35 v_n40 z6 z10 (v_n13 (z9 - 128).toNatClampNeg) u (by omega) _ _ hP hS _ (lv_sub hl [0, 1, 2, 3, 4, 5, 6, 7, 8] rfl) _ hR k
              · replace hR := Eq.trans (Eq.symm (if_neg c_4)) hR
                refine lv_aload hx hb dL_kinOf_85 (lv_at hl 2 rfl) ?_
                refine lv_iload hx hb dL_kinOf_87 (lv_at hl 7 rfl) ?_
                refine lv_bipush (v := 64) hx hb dL_kinOf_89 (by decide) ?_
                refine lv_isub hx hb dL_kinOf_91 ?_
                by_cases c_10 : jin (z9 - 64) 64 = true
                case neg => replace hR := Eq.trans (Eq.symm (if_neg c_10)) hR; cases hR
                replace hR := Eq.trans (Eq.symm (if_pos c_10)) hR
                refine va_iald hx hb hK.1 hP 3 0 rfl rfl (jin_in c_10) dL_kinOf_92 ?_
                refine lv_goto (tgt := 105) hx hb dL_kinOf_93 (by decide) ?_
                exact J105 v_n2 v_n7 v_n13 v_n35 v_n40 z6 z10 (v_n7 (z9 - 64).toNatClampNeg) u (by omega) _ _ hP hS _ (lv_sub hl [0, 1, 2, 3, 4, 5, 6, 7, 8] rfl) _ hR k
            · replace hR := Eq.trans (Eq.symm (if_neg c_3)) hR
              refine lv_aload_n hx hb dL_kinOf_70 rfl (lv_at hl 1 rfl) ?_
              refine lv_iload hx hb dL_kinOf_71 (lv_at hl 7 rfl) ?_
              by_cases c_11 : jin z9 64 = true
              case neg => replace hR := Eq.trans (Eq.symm (if_neg c_11)) hR; cases hR
              replace hR := Eq.trans (Eq.symm (if_pos c_11)) hR
              refine va_iald hx hb hK.1 hP 2 0 rfl rfl (jin_in c_11) dL_kinOf_73 ?_
              refine lv_goto (tgt := 105) hx hb dL_kinOf_74 (by decide) ?_
              exact J105 v_n2 v_n7 v_n13 v_n35 v_n40 z6 z10 (v_n2 z9.toNatClampNeg) u (by omega) _ _ hP hS _ (lv_sub hl [0, 1, 2, 3, 4, 5, 6, 7, 8] rfl) _ hR k
      intro z6 z9 v_n2 v_n7 v_n13 v_n35 v_n40 u hu H locs hP hS ls hl q hR k
      rw [jf_Lw_kinOf_L47] at hR
      refine lv_iload hx hb dL_kinOf_47 (lv_at hl 7 rfl) ?_
      refine lv_iload hx hb dL_kinOf_49 (lv_at hl 4 rfl) ?_
      refine lv_icmp_ge (tgt := 206) hx hb dL_kinOf_51 (by decide) (fun c_1 => ?_) (fun c_1 => ?_)
      · replace hR := Eq.trans (Eq.symm (if_pos c_1)) hR
        cases hR
        refine W.widen (k := X) (n := 10 * X) (by omega) (by omega) ?_
        exact k _ _ hP hS _ (lv_sub hl [4] rfl)
      · replace hR := Eq.trans (Eq.symm (if_neg c_1)) hR
        refine lv_iconst (v := 0) hx hb dL_kinOf_54 (by decide) ?_
        refine lv_istore (lv' := [(10, .int 0), (0, .int z0), (3, .ref a_n2), (4, .ref a_n7), (5, .ref a_n13), (6, .int z6), (7, .ref a_n35), (8, .ref a_n40), (9, .int z9)]) hx hb dL_kinOf_55 hl (by decide) rfl (fun ls hl => ?_)
        obtain ⟨q_8, hq_8, hR⟩ := jbind hR
        try dsimp only at hR
        refine L57 4 (u + 8) (by omega) z0 z9 z6 0 v_n2 v_n7 v_n13 v_n35 v_n40 u (by omega) _ _ hP hS _ (lv_sub hl [1, 2, 3, 4, 5, 6, 7, 8, 0] rfl) _ hq_8 (fun H locs hP hS ls hl => ?_)
        refine lv_iinc (v := z9 + 1) (lv' := [(9, .int (z9 + 1)), (0, .int z0), (3, .ref a_n2), (4, .ref a_n7), (5, .ref a_n13), (6, .int q_8.1), (7, .ref a_n35), (8, .ref a_n40)]) hx hb dL_kinOf_200 hl (k := 7) rfl (by first | rfl | decide) (by decide) rfl (fun ls hl => ?_)
        refine lv_goto (tgt := 47) hx hb dL_kinOf_203 (by decide) ?_
        exact ih q_8.1 (z9 + 1) q_8.2.1 q_8.2.2.1 q_8.2.2.2.1 q_8.2.2.2.2.1 q_8.2.2.2.2.2 (u + 8) (by omega) _ _ hP hS _ (lv_sub hl [1, 2, 3, 4, 5, 6, 7, 0] rfl) _ hR k
  refine lv_astore (lv' := [(8, .ref a_n40), (7, .ref a_n35), (6, .int q_2.1), (5, .ref a_n13), (4, .ref a_n7), (3, .ref a_n2), (0, .int x0), (1, .ref a_r1), (2, .ref a_r2)]) hx hb dL_kinOf_42 hl (by decide) rfl (fun ls hl => ?_)
  refine lv_iconst (v := 0) hx hb dL_kinOf_44 (by decide) ?_
  refine lv_istore (lv' := [(9, .int 0), (8, .ref a_n40), (7, .ref a_n35), (6, .int q_2.1), (5, .ref a_n13), (4, .ref a_n7), (3, .ref a_n2), (0, .int x0), (1, .ref a_r1), (2, .ref a_r2)]) hx hb dL_kinOf_45 hl (by decide) rfl (fun ls hl => ?_)
  obtain ⟨q_9, hq_9, hR⟩ := jbind hR
  try dsimp only at hR
  refine L47 170 (0 + 1384) (by omega) x0 q_2.1 0 q_2.2.1 q_2.2.2.1 q_2.2.2.2 (fun _ => 0) (fun _ => 0) (0 + 24) (by omega) _ _ hP hS _ (lv_sub hl [7, 6, 5, 4, 3, 2, 1, 0] rfl) _ hq_9 (fun H locs hP hS ls hl => ?_)
  refine lv_iload hx hb dL_kinOf_206 (lv_at hl 0 rfl) ?_
  obtain rfl := (Option.some.inj hR)
  refine W.widen (k := 1384) (n := 13840) (by omega) (by omega) ?_
  exact fin _ _ _ _ _ rfl (hP.sub [0, 1] rfl) hS dL_kinOf_208
