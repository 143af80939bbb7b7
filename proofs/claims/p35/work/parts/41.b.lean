/-! the law, from its entry -/
def jW0 : List Cond := [Cond.instantiable RX0 5, Cond.instantiable RX1 3, Cond.instantiable RX2 2, Cond.instantiable RX3 1, Cond.instantiable RX4 2, Cond.instantiable RX5 9, Cond.instantiable RX6 5, Cond.classLink RL 9 RX6, Cond.initialized RX6, Cond.methodLink RL 207 yX6_init, Cond.instanceMethod yX6_init, Cond.arrayClass .int, Cond.arrayClass .long, Cond.arrayClass .byte, Cond.laysStatic "java/lang/Throwable" "UNASSIGNED_STACK" "[Ljava/lang/StackTraceElement;", Cond.laysStatic "java/lang/Throwable" "SUPPRESSED_SENTINEL" "Ljava/util/List;", Cond.initialized "java/lang/Throwable"]
theorem jW0_in : ∀ w ∈ jW0, w ∈ lw_tbl := jmem_r [136, 118, 70, 52, 46, 84, 38, 37, 21, 39, 40, 82, 61, 324, 284, 286, 28] (by decide +kernel)
theorem jW1_in : ∀ w ∈ jNL.map (fun q => Cond.methodLinkNest q.1 q.2.1 q.2.2 RX6), w ∈ lw_tbl := jmem_r [71, 85, 119, 137, 47, 142, 534, 551, 550, 572, 795, 796, 124, 446, 688, 53, 329, 194, 187, 513] (by decide +kernel)
theorem jW2_in : ∀ w ∈ jEN.map (fun E => Cond.castable E E), w ∈ lw_tbl := jmem_r [259, 353, 369] (by decide +kernel)
theorem jW3_in : ∀ w ∈ jES.map (fun q => Cond.stringRef RX6 q.1 q.2), w ∈ lw_tbl := jmem_r [441, 778, 529, 563, 298, 508, 360, 376] (by decide +kernel)
theorem jW4_in : ∀ w ∈ jEDc.map (fun y => Cond.declares y), w ∈ lw_tbl := jmem_r [261, 263, 265] (by decide +kernel)
theorem jarr {ws : List Cond} {s : State} {args : Array Value} {ty : FieldType} (h : (Cond.arrayClass ty).before args s = true) : ∃ cA : ClassId, ArrOfT s cA ty ∧ s.vm.findClass ("[" ++ ty.toString) = some cA := by
  obtain ⟨cA, kA, comp, h1, h2, h3⟩ := Cond.arrayClass_spec h
  exact ⟨cA, fun n z => ⟨fun k h => (by cases h), kA, h2, comp, h3⟩, h1⟩
set_option maxRecDepth 100000 in
set_option maxHeartbeats 4000000 in
/-- what the tables say of the classes, the arrays, the exceptions -/
theorem jworld {s : State} {b : Nat} (hts : ∀ w ∈ lw_tbl, w.before #[Value.ref b] s = true) (hgv : (Jvm.Cond.and given_1 narrow_1).before #[Value.ref b] s = true) : ∃ g : jG, jK g s ∧ jE s ∧ jZ (fun q => s.heap.size ≤ q) s s.heap := by
  have hs := flat_of_before _ hgv
  obtain ⟨c0, i0, k0⟩ := u_known (C := RX0) (T := TX0) (N := 5) (n := 5) hts inX0 (hts (.instantiable RX0 5) (jW0_in _ (List.mem_of_getElem? (i := 0) (by decide +kernel))))
  obtain ⟨c1, i1, k1⟩ := u_known (C := RX1) (T := TX1) (N := 3) (n := 3) hts inX1 (hts (.instantiable RX1 3) (jW0_in _ (List.mem_of_getElem? (i := 1) (by decide +kernel))))
  obtain ⟨c2, i2, k2⟩ := u_known (C := RX2) (T := TX2) (N := 2) (n := 2) hts inX2 (hts (.instantiable RX2 2) (jW0_in _ (List.mem_of_getElem? (i := 2) (by decide +kernel))))
  obtain ⟨c3, i3, k3⟩ := u_known (C := RX3) (T := TX3) (N := 1) (n := 1) hts inX3 (hts (.instantiable RX3 1) (jW0_in _ (List.mem_of_getElem? (i := 3) (by decide +kernel))))
  obtain ⟨c4, i4, k4⟩ := u_known (C := RX4) (T := TX4) (N := 2) (n := 2) hts inX4 (hts (.instantiable RX4 2) (jW0_in _ (List.mem_of_getElem? (i := 4) (by decide +kernel))))
  obtain ⟨c5, i5, k5⟩ := u_known (C := RX5) (T := TX5) (N := 9) (n := 9) hts inX5 (hts (.instantiable RX5 9) (jW0_in _ (List.mem_of_getElem? (i := 5) (by decide +kernel))))
  obtain ⟨c6, i6, k6⟩ := u_known (C := RX6) (T := TX6) (N := 5) (n := 5) hts inX6 (hts (.instantiable RX6 5) (jW0_in _ (List.mem_of_getElem? (i := 6) (by decide +kernel))))
  obtain ⟨a_int, p_int, q_int⟩ := jarr (ws := lw_tbl) (hts (.arrayClass .int) (jW0_in _ (List.mem_of_getElem? (i := 11) (by decide +kernel))))
  obtain ⟨a_long, p_long, q_long⟩ := jarr (ws := lw_tbl) (hts (.arrayClass .long) (jW0_in _ (List.mem_of_getElem? (i := 12) (by decide +kernel))))
  obtain ⟨a_byte, p_byte, q_byte⟩ := jarr (ws := lw_tbl) (hts (.arrayClass .byte) (jW0_in _ (List.mem_of_getElem? (i := 13) (by decide +kernel))))
  refine ⟨((fun k => match k with | 0 => c0 | 1 => c1 | 2 => c2 | 3 => c3 | 4 => c4 | 5 => c5 | _ => c6, fun k => match k with | 0 => i0 | 1 => i1 | 2 => i2 | 3 => i3 | 4 => i4 | 5 => i5 | _ => i6), a_int, a_long, a_byte), ⟨⟨fun k q hq => ?_, fun k q hq => ?_⟩, fun q hq => ?_⟩, ⟨fun E hE => ?_, fun q hq => ?_, fun q hq => ?_, fun y hy => ?_⟩, ?_, ?_⟩
  · match k, hq with
    | 0, hq => cases hq; exact k0
    | 1, hq => cases hq; exact k1
    | 2, hq => cases hq; exact k2
    | 3, hq => cases hq; exact k3
    | 4, hq => cases hq; exact k4
    | 5, hq => cases hq; exact k5
    | 6, hq => cases hq; exact k6
    | k + 7, hq => simp [vwCl] at hq
  · match k, hq with
    | 0, hq => cases hq; exact ⟨p_int, q_int⟩
    | 1, hq => cases hq; exact ⟨p_long, q_long⟩
    | 2, hq => cases hq; exact ⟨p_byte, q_byte⟩
    | k + 3, hq => simp [jT] at hq
  · exact va_Nw.of rfl (hts _ (jW1_in _ (List.mem_map.2 ⟨q, hq, rfl⟩)))
  · exact va_Nw.of rfl (hts _ (jW2_in _ (List.mem_map.2 ⟨E, hE, rfl⟩)))
  · have h1 : (Cond.stringRef RX6 q.1 q.2).before #[Value.ref b] s = true := hts _ (jW3_in _ (List.mem_map.2 ⟨q, hq, rfl⟩))
    obtain ⟨k, cf, i, a, _, _, _, _, _, hev⟩ := Cond.stringRef_spec k6.2.1 h1
    exact ⟨a, vk_R.of h1 hev⟩
  · have hmem : q = (eI, eA) ∨ q = (eI, eS) ∨ q = (eA, eI) ∨ q = (eA, eS) ∨ q = (eS, eI) ∨ q = (eS, eA) := by simpa [jEp] using hq
    rcases hmem with rfl | rfl | rfl | rfl | rfl | rfl
    · exact va_Nc.of (hs (.not (.castable eI eA)) (by decide +kernel))
    · exact va_Nc.of (hs (.not (.castable eI eS)) (by decide +kernel))
    · exact va_Nc.of (hs (.not (.castable eA eI)) (by decide +kernel))
    · exact va_Nc.of (hs (.not (.castable eA eS)) (by decide +kernel))
    · exact va_Nc.of (hs (.not (.castable eS eI)) (by decide +kernel))
    · exact va_Nc.of (hs (.not (.castable eS eA)) (by decide +kernel))
  · exact va_Nw.of rfl (hts _ (jW4_in _ (List.mem_map.2 ⟨y, hy, rfl⟩)))
  · exact vx_Zqof (hts (.laysStatic "java/lang/Throwable" "UNASSIGNED_STACK" "[Ljava/lang/StackTraceElement;") (jW0_in _ (List.mem_of_getElem? (i := 14) (by decide +kernel)))) (hts (.initialized "java/lang/Throwable") (jW0_in _ (List.mem_of_getElem? (i := 16) (by decide +kernel)))) (hs (.isRef (.static "java/lang/Throwable" "UNASSIGNED_STACK" "[Ljava/lang/StackTraceElement;")) (by decide +kernel)) (fun a ha h => absurd ha (Nat.not_lt.2 h))
  · exact vx_Zqof (hts (.laysStatic "java/lang/Throwable" "SUPPRESSED_SENTINEL" "Ljava/util/List;") (jW0_in _ (List.mem_of_getElem? (i := 15) (by decide +kernel)))) (hts (.initialized "java/lang/Throwable") (jW0_in _ (List.mem_of_getElem? (i := 16) (by decide +kernel)))) (hs (.isRef (.static "java/lang/Throwable" "SUPPRESSED_SENTINEL" "Ljava/util/List;")) (by decide +kernel)) (fun a ha h => absurd ha (Nat.not_lt.2 h))
theorem zInv0 : zInv 0 0 1 0 0 (fun _ => 0) 1 (fun _ => 0) (fun _ => 0) (fun _ => 0) (fun _ => 0) 0 (fun _ => 0) (fun _ => 0) (fun _ => 0) (fun _ => 0) (fun _ => 0) (fun _ => 0) (fun _ => 0) := by
  have hp : ∀ n, n ≤ 1 → jPm n (fun _ => 0) (fun _ => 0) := fun n hn => ⟨fun k => k, fun k => k, fun k hk => by
    have : k = 0 := by omega
    subst this
    exact ⟨hk, hk, rfl, rfl, rfl, rfl⟩⟩
  exact ⟨rfl, ⟨0, fun _ => 0, by omega, rfl, rfl, fun k hk => absurd hk (Nat.not_lt_zero _)⟩, ⟨1, by omega, by omega, rfl, rfl, hp 1 (Nat.le_refl 1), hp 1 (Nat.le_refl 1), fun k _ => ⟨rfl, rfl⟩⟩, ⟨0, by omega, rfl, rfl, ⟨_, _, hp 0 (by omega), hp 0 (by omega)⟩, fun k hk => absurd hk (Nat.not_lt_zero _)⟩⟩
set_option maxRecDepth 100000 in
set_option maxHeartbeats 4000000 in
theorem whole_start {p : Program} {e : Env} {s : State} {m : MethodId} {below : List Frame} {meth : Method} {c : Code} (l : Launch) (hflags : l.flags = flags0) {b L : Nat} {xs : Nat → Int32} (hL : L ≤ 260) (C0 : lw_At p s m meth c b L xs) : W p l e room_1 s m #[Value.ref b] below meth c s.heap [] 0 0 (lw_Z below #[Value.ref b] s) (entryFrame m ([Value.ref b] : List Value).toArray 25) := by
  obtain ⟨hx, hb, hr, hml, hown, hts, hX, hbl, hlocks, hgv⟩ := id C0
  have hown : s.vm.findClass RL = some m.cls := hown
  have hb : c.code = cL_law := hb
  have hst : l.stackTraces = false := by
    show (!l.flags.contains noTraceFlag) = false
    rw [hflags]; decide +kernel
  have htl : ∀ w ∈ wsL_law, w.before #[Value.ref b] s = true := fun w hw => hts w (wsL_law_in w hw)
  have hA : ∀ q : Nat, s.heap.size ≤ q → (fun q : Nat => s.heap.size ≤ q) q := fun _ h => h
  have hbA : ¬ (fun q : Nat => s.heap.size ≤ q) b := fun h => absurd hbl (Nat.not_lt.2 h)
  obtain ⟨g, hK, hE, hZ⟩ := jworld hts hgv
  have hS : va_S (fun q : Nat => s.heap.size ≤ q) s.heap s.heap [] := va_S.rf
  have hP : va_P g.1 vwCl [] s.heap := fun k q h => by simp at h
  have hD : va_D (fun q : Nat => s.heap.size ≤ q) [] := ⟨fun i j p q h => by simp at h, fun k q h => by simp at h⟩
  have hl := lv_entry ([.ref b]) (n := 25) (Nat.le_of_ble_eq_true rfl)
  rw [lg_entry_eq]
  generalize (lg_sl ([.ref b]) ++ List.replicate (25 - (lg_sl ([.ref b])).length) Slot.unset).toArray = ls at hl ⊢
  have hl : lv_has ls 25 [(0, .ref b)] := hl
  refine va_new (ci := 6) (fs := [.null, .null, .null, .null, .null]) (C := RX6) (T := TX6) (N := 5) hx hb hts inX6 tyX6 tyX6_ok hown (hts (.classLink RL 9 RX6) (jW0_in _ (List.mem_of_getElem? (i := 7) (by decide +kernel)))) (hts (.instantiable RX6 5) (jW0_in _ (List.mem_of_getElem? (i := 6) (by decide +kernel)))) (hts (.initialized RX6) (jW0_in _ (List.mem_of_getElem? (i := 8) (by decide +kernel)))) hK.1 hP hD hS hA rfl (by intro j hj; match j, hj with | 0, _ => rfl | 1, _ => rfl | 2, _ => rfl | 3, _ => rfl | 4, _ => rfl | j + 5, hj => exact absurd hj (by omega)) (Nat.le_of_ble_eq_true rfl) (Nat.le_of_ble_eq_true rfl) dL_law_0 (fun qx H hP hD hS => ?_)
  have hP : va_P g.1 vwCl [(qx, .inr (6, [.null, .null, .null, .null, .null]))] H := hP
  have hD : va_D (fun q : Nat => s.heap.size ≤ q) [(qx, .inr (6, [.null, .null, .null, .null, .null]))] := hD
  refine W.widen (k := 1) (n := 5) (by decide) (by decide) ?_
  refine lv_dup hx hb dL_law_3 rfl ?_
  refine jcall_ci (wr := []) (cn := 30) (sn := 308) (wf := jwf_Bi g qx) (va_runI (As := []) (rest := [.ref qx]) ⟨hx, hb, hml, hown, htl⟩ (jc_Bi_init l g qx _) (cwI 0 htl gL_law_X6_init rfl rfl rfl (hts (.initialized RX6) (jW0_in _ (List.mem_of_getElem? (i := 8) (by decide +kernel)))) (hts (.methodLink RL 207 yX6_init) (jW0_in _ (List.mem_of_getElem? (i := 9) (by decide +kernel)))) (hts (.instanceMethod yX6_init) (jW0_in _ (List.mem_of_getElem? (i := 10) (by decide +kernel)))) rfl (by decide +kernel) ⟨Nat.le_of_ble_eq_true rfl, Nat.le_of_ble_eq_true rfl⟩) (jpw_s hK (hP.sub (ws' := [(qx, .inr (6, [.null, .null, .null, .null, .null]))]) [0] rfl) (hD.sub (ws' := [(qx, .inr (6, [.null, .null, .null, .null, .null]))]) [0] (by decide) rfl)) rfl rfl hl.1 rfl (lv_room (Nat.le_of_ble_eq_true rfl)) dL_law_4 ⟨Nat.le_of_ble_eq_true rfl, Nat.le_of_ble_eq_true rfl⟩) hP hD hS hA [0] [] rfl rfl (by decide) (by decide) rfl rfl (fun u1 H locs hP hD hS => ?_)
  have hP : va_P g.1 vwCl (jwf_Bi g qx u1) H := hP
  have hD : va_D (fun q : Nat => s.heap.size ≤ q) (jwf_Bi g qx u1) := hD
  refine lv_astore_n (lv' := [(1, .ref qx), (0, .ref b)]) hx hb dL_law_7 rfl hl (by decide) rfl (fun ls hl => ?_)
  refine lv_lconst (v := 0) hx hb dL_law_8 (by decide) ?_
  refine lv_lstore_n (lv' := [(2, .long 0), (1, .ref qx), (0, .ref b)]) hx hb dL_law_9 rfl hl (by decide) rfl (fun ls hl => ?_)
  refine lv_bipush (v := 6) hx hb dL_law_10 (by decide) ?_
  refine jnewa_I hx hb (hts (.arrayClass .int) (jW0_in _ (List.mem_of_getElem? (i := 11) (by decide +kernel)))) hK hP hD hS hA (N := 6) (by decide) (by decide) (by decide) (Nat.le_of_ble_eq_true rfl) (Nat.le_of_ble_eq_true rfl) dL_law_12 (fun q1 H hP hD hS => ?_)
  refine lv_astore (lv' := [(4, .ref q1), (2, .long 0), (1, .ref qx), (0, .ref b)]) hx hb dL_law_14 hl (by decide) rfl (fun ls hl => ?_)
  refine lv_iconst (v := 0) hx hb dL_law_16 (by decide) ?_
  refine lv_istore (lv' := [(5, .int 0), (4, .ref q1), (2, .long 0), (1, .ref qx), (0, .ref b)]) hx hb dL_law_17 hl (by decide) rfl (fun ls hl => ?_)
  refine lv_iconst (v := 1) hx hb dL_law_19 (by decide) ?_
  refine lv_istore (lv' := [(6, .int 1), (5, .int 0), (4, .ref q1), (2, .long 0), (1, .ref qx), (0, .ref b)]) hx hb dL_law_20 hl (by decide) rfl (fun ls hl => ?_)
  refine lv_iconst (v := 5) hx hb dL_law_22 (by decide) ?_
  refine jnewa_I hx hb (hts (.arrayClass .int) (jW0_in _ (List.mem_of_getElem? (i := 11) (by decide +kernel)))) hK hP hD hS hA (N := 5) (by decide) (by decide) (by decide) (Nat.le_of_ble_eq_true rfl) (Nat.le_of_ble_eq_true rfl) dL_law_23 (fun q2 H hP hD hS => ?_)
  refine lv_astore (lv' := [(7, .ref q2), (6, .int 1), (5, .int 0), (4, .ref q1), (2, .long 0), (1, .ref qx), (0, .ref b)]) hx hb dL_law_25 hl (by decide) rfl (fun ls hl => ?_)
  refine lv_iconst (v := 5) hx hb dL_law_27 (by decide) ?_
  refine jnewa_I hx hb (hts (.arrayClass .int) (jW0_in _ (List.mem_of_getElem? (i := 11) (by decide +kernel)))) hK hP hD hS hA (N := 5) (by decide) (by decide) (by decide) (Nat.le_of_ble_eq_true rfl) (Nat.le_of_ble_eq_true rfl) dL_law_28 (fun q3 H hP hD hS => ?_)
  refine lv_astore (lv' := [(8, .ref q3), (7, .ref q2), (6, .int 1), (5, .int 0), (4, .ref q1), (2, .long 0), (1, .ref qx), (0, .ref b)]) hx hb dL_law_30 hl (by decide) rfl (fun ls hl => ?_)
  refine lv_bipush (v := 19) hx hb dL_law_32 (by decide) ?_
  refine jnewa_I hx hb (hts (.arrayClass .int) (jW0_in _ (List.mem_of_getElem? (i := 11) (by decide +kernel)))) hK hP hD hS hA (N := 19) (by decide) (by decide) (by decide) (Nat.le_of_ble_eq_true rfl) (Nat.le_of_ble_eq_true rfl) dL_law_34 (fun q4 H hP hD hS => ?_)
  refine lv_astore (lv' := [(9, .ref q4), (8, .ref q3), (7, .ref q2), (6, .int 1), (5, .int 0), (4, .ref q1), (2, .long 0), (1, .ref qx), (0, .ref b)]) hx hb dL_law_36 hl (by decide) rfl (fun ls hl => ?_)
  refine lv_iconst (v := 0) hx hb dL_law_38 (by decide) ?_
  refine lv_istore (lv' := [(10, .int 0), (9, .ref q4), (8, .ref q3), (7, .ref q2), (6, .int 1), (5, .int 0), (4, .ref q1), (2, .long 0), (1, .ref qx), (0, .ref b)]) hx hb dL_law_39 hl (by decide) rfl (fun ls hl => ?_)
  refine W.widen (k := 35) (n := 10 * 35) (by decide) (by decide) ?_
  refine jc_Lw_law hst hx hb hml hown htl hX hbl hbA hK hE hZ hA qx (u1 0) (u1 1) (u1 2) (u1 3) (u1 4) (u1 5) (u1 6) (u1 7) (u1 8) (u1 9) (u1 10) (u1 11) (u1 12) (u1 13) (u1 14) (u1 15) (u1 16) (u1 17) (u1 18) (u1 19) (u1 20) (u1 21) (u1 22) (u1 23) (u1 24) (u1 25) (u1 26) (u1 27) (u1 28) q1 q2 q3 q4 0 (fun _ => 0) 0 (fun _ => 0) 0 1 (fun _ => 0) (fun _ => 0) (fun _ => 0) (fun _ => 0) (fun _ => 0) (fun _ => 0) (fun _ => 0) 0 0 1 (fun _ => 0) (fun _ => 0) (fun _ => 0) (fun _ => 0) (fun _ => 0) (fun _ => 0) (fun _ => 0) (fun _ => 0) 0 (fun _ => 0) (fun _ => 0) (fun _ => 0) (fun _ => 0) (fun _ => 0) (fun _ => 0) (fun _ => 0) (fun _ => 0) (z_law xs (show L ≤ 100000 by omega) 0 0 (fun _ => 0) 0 1 (fun _ => 0) (fun _ => 0) (fun _ => 0) (fun _ => 0) (fun _ => 0) (fun _ => 0) (fun _ => 0) 0 0 1 (fun _ => 0) (fun _ => 0) (fun _ => 0) (fun _ => 0) (fun _ => 0) (fun _ => 0) (fun _ => 0) (fun _ => 0) 0 (fun _ => 0) (fun _ => 0) (fun _ => 0) (fun _ => 0) (fun _ => 0) (fun _ => 0) (fun _ => 0) (fun _ => 0) zInv0) H _ hP hD hS (fun H locs pc ls hS hd => ?_) ls (lv_sub hl [9, 8, 7, 6, 5, 4, 3, 2, 1, 0] rfl)
  refine va_forget (fun q hq => hS.2.2 q hq) ?_
  exact W.base (lw_ret (Drawn.sameBut.refl s.drawn lw_cs) hx hb hr hlocks hd)
