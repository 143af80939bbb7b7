/-! the law of p35: bodies with handlers, bodies that make cells, the script -/
theorem jMet_ofWH {l : Launch} {y : MethodName} {ws ws' : List Cond} {rm : Room} {Pc : Array Value → State → Prop} {Qc : Array Value → State → Outcome → State → Prop} {mc ms : Nat} {free : Addr → Prop} {cc : ByteArray} {maxL : Nat} {ret : Option FieldType} {hh : List (Nat × Nat × Nat × Nat)}
    (hy : plainName y.cls = true) (hw : ws = Cond.codeWith y cc maxL ret hh :: ws')
    (body : ∀ p e s m args below meth c s₁, BodyLoose p l y (headSpec ws rm) cc maxL ret e s m args below meth c s₁ → c.maxLocals = maxL → Pc args s →
      W p l e (headSpec ws rm).room s m args below meth c s.heap [] 0 0 (MQ below Qc args s mc ms free) (entryFrame m args maxL)) : Met l y ws rm Pc Qc mc ms free := by
  refine MetFree.of_bodyS (code := cc) (maxLocals := maxL) (ret := ret) hy ?_ ?_
  · intro args s m h hn
    obtain ⟨m9, meth, c, hn9, h1, h2, h3, h4, -, h5, h6, -⟩ := Cond.codeWith_spec (atoms_spec (ws := ws) h _ (by rw [hw]; exact List.mem_cons_self))
    cases hn.symm.trans hn9
    exact ⟨meth, c, h1, h2, h3, h4, h5, h6⟩
  · intro p e s m args below meth c s₁ B hml hP _
    have hh0 : s₁.heap = s.heap := by rw [B.state]; rfl
    obtain ⟨t, a1, o, b1, b2, b3⟩ := body p e s m args below meth c s₁ B hml hP s₁ hh0 (Stand.of_body B)
    exact ⟨t, o, a1, b1, b2, ⟨b3.1, b3.2⟩⟩
section JL
variable {p : Program} {l : Launch} {e : Env} {R : Room} {s : State} {m : MethodId} {args : Array Value} {below : List Frame} {meth : Method} {c : Code} {H : Heap} {locs : List Loc} {cells slots : Nat} {Q : State → Prop}
variable {pc : Nat} {ls : Array Slot} {rest st0 : List Value} {a : Array Value} {A : Nat → Prop} {H0 : Heap} {cc : ByteArray}
theorem jcall_rf {v : UInt32} (hr : va_Run p l e R s m args below meth c H locs cells slots 0 0 (F0 m pc ls st0) rest (vp_Sf (fun r => r = v) a) (fun _ => False))
    (kk : W p l e R s m args below meth c H locs cells slots Q (F0 m (pc + 3) ls (.float v :: rest))) : W p l e R s m args below meth c H locs cells slots Q (F0 m pc ls st0) := by
  intro T hT X
  obtain ⟨v0, st₀, t, T', L, h0, X', hL, e1, e2, ⟨r, hv, hp, hh⟩, st⟩ := hr T hT X
  cases hv
  subst hp
  obtain ⟨t2, a1, b1⟩ := kk T' (by rw [e1, hh, h0]) (Stand.forget X' (fun q h => (hL q h).elim))
  exact ⟨t2, st t2 a1, b1⟩
theorem jcall_wf {g : jG} {v : UInt32} {ws wc wn ws' : va_W} (hr : va_Run p l e R s m args below meth c H locs cells slots 0 0 (F0 m pc ls st0) rest (jQf g v wn (va_A wc H.size) a) (va_A wc H.size)) (hP : va_P g.1 vwCl ws H) (hD : va_D A ws) (hS : va_S A H0 H locs) (hA : ∀ q, H0.size ≤ q → A q) (isC isR perm : List Nat) (hC : isC.map (fun i => ws[i]?) = wc.map some) (hdis : ∀ i ∈ isR, i ∉ isC) (hp : perm.filterMap (fun i => (isR.filterMap (fun i => ws[i]?) ++ wn)[i]?) = ws')
    (kk : ∀ (H1 : Heap) (locs1 : List Loc), va_P g.1 vwCl ws' H1 → va_S A H0 H1 locs1 → W p l e R s m args below meth c H1 locs1 cells slots Q (F0 m (pc + 3) ls (.float v :: rest))) : W p l e R s m args below meth c H locs cells slots Q (F0 m pc ls st0) := by
  have hF := va_free (wc := wc) hD hS hA isC hC
  refine va_callf hr hS (fun q _ h => hF q h) hF (fun r u t H1 locs1 ht hvm hw hB hz1 hk1 hS1 => ?_)
  subst hw
  rw [ht] at hB
  exact kk H1 locs1 (jmerge hP hD hk1 hB isC isR perm hC hdis hp) hS1
theorem jcall_wx {g : jG} {v : Int32} {ws wc wn ws' : va_W} {mc ms : Nat} (hr : va_Run p l e R s m args below meth c H locs cells slots mc ms (F0 m pc ls st0) rest (jQi g v wn (va_A wc H.size) a) (va_A wc H.size)) (hP : va_P g.1 vwCl ws H) (hD : va_D A ws) (hS : va_S A H0 H locs) (hA : ∀ q, H0.size ≤ q → A q) (isC isR perm : List Nat) (hC : isC.map (fun i => ws[i]?) = wc.map some) (hdis : ∀ i ∈ isR, i ∉ isC) (hp : perm.filterMap (fun i => (isR.filterMap (fun i => ws[i]?) ++ wn)[i]?) = ws')
    (kk : ∀ (H1 : Heap) (locs1 : List Loc), va_P g.1 vwCl ws' H1 → va_S A H0 H1 locs1 → W p l e R s m args below meth c H1 locs1 (cells + mc) (slots + ms) Q (F0 m (pc + 3) ls (.int v :: rest))) : W p l e R s m args below meth c H locs cells slots Q (F0 m pc ls st0) := by
  have hF := va_free (wc := wc) hD hS hA isC hC
  refine va_calli hr hS (fun q _ h => hF q h) hF (fun r u t H1 locs1 ht hvm hw hB hz1 hk1 hS1 => ?_)
  subst hw
  rw [ht] at hB
  exact kk H1 locs1 (jmerge hP hD hk1 hB isC isR perm hC hdis hp) hS1
theorem jcall_wvx {g : jG} {ws wc wn ws' : va_W} {mc ms : Nat} (hr : va_Run p l e R s m args below meth c H locs cells slots mc ms (F0 m pc ls st0) rest (jQv g wn (va_A wc H.size) a) (va_A wc H.size)) (hP : va_P g.1 vwCl ws H) (hD : va_D A ws) (hS : va_S A H0 H locs) (hA : ∀ q, H0.size ≤ q → A q) (isC isR perm : List Nat) (hC : isC.map (fun i => ws[i]?) = wc.map some) (hdis : ∀ i ∈ isR, i ∉ isC) (hp : perm.filterMap (fun i => (isR.filterMap (fun i => ws[i]?) ++ wn)[i]?) = ws')
    (kk : ∀ (H1 : Heap) (locs1 : List Loc), va_P g.1 vwCl ws' H1 → va_S A H0 H1 locs1 → W p l e R s m args below meth c H1 locs1 (cells + mc) (slots + ms) Q (F0 m (pc + 3) ls rest)) : W p l e R s m args below meth c H locs cells slots Q (F0 m pc ls st0) := by
  have hF := va_free (wc := wc) hD hS hA isC hC
  refine va_callv hr hS (fun q _ h => hF q h) hF (fun u t H1 locs1 ht hvm hw hB hz1 hk1 hS1 => ?_)
  rw [ht] at hB
  exact kk H1 locs1 (jmerge hP hD hk1 hB isC isR perm hC hdis hp) hS1
end JL
/-- a body with handlers: one contract, whatever the callee does -/
theorem jm_hk {l : Launch} {y : MethodName} {ws ws' : List Cond} {rm : Room} {cc : ByteArray} {maxL sz : Nat} {hh : List (Nat × Nat × Nat × Nat)} {As : List Value} {cs cn : va_W} {g : jG} {R : Int32} (hy : plainName y.cls = true) (hw : ws = Cond.codeWith y cc maxL (some .int) hh :: ws') (hlen : (lg_sl As).length ≤ maxL)
    (body : ∀ (p : Program) (e : Env) (s : State) (m : MethodId) (below : List Frame) (meth : Method) (c : Code) (A : Nat → Prop) (Q : State → Prop), p.tables.exec = Jvm.exec → c.code = cc → c.maxLocals = maxL → s.vm.findClass y.cls = some m.cls → (∀ w ∈ ws, w.before As.toArray s = true) → c.exceptionTable.toList = tableOf hh → jK g s → jE s → jZ A s s.heap → va_P g.1 vwCl cs s.heap → va_D A cs → (∀ q, s.heap.size ≤ q → A q) → va_S A s.heap s.heap [] →
      (∀ (H : Heap) (locs : List Loc) (pc : Nat) (ls : Array Slot) (v : Int32), v = R → va_P g.1 vwCl cn H → va_S A s.heap H locs → decode cc pc = .ok (.ireturn, 1) → W p l e rm s m As.toArray below meth c H locs (0 + 1) (0 + 6) Q (F0 m pc ls [.int v])) →
      ∀ ls : Array Slot, lv_has ls maxL (lv_args 0 As) → W p l e rm s m As.toArray below meth c s.heap [] 0 0 Q (F0 m 0 ls [])) : Met l y ws rm (jPx g As cs sz) (jQi g R cn (va_A cs sz)) 1 6 (va_A cs sz) := by
  refine jMet_ofWH (cc := cc) (maxL := maxL) (ret := some .int) (hh := hh) hy hw ?_
  intro p e s m args below meth c s₁ B hml hv
  obtain ⟨rfl, hsz, hK, hE, hZ, hP, hD0⟩ := hv
  subst hsz
  have hl := lv_entry As (n := maxL) hlen
  have hr := B.returns
  have hlocks := B.notSynchronized
  have hx := B.exec
  have hb := B.bytes
  have hw0 : ∀ w ∈ ws, w.before As.toArray s = true := atoms_spec (ws := ws) B.pre
  have htab : c.exceptionTable.toList = tableOf hh := vx_table (x := y) B (hw0 _ (by rw [hw]; exact List.mem_cons_self))
  rw [lg_entry_eq]
  exact body p e s m below meth c (va_A cs s.heap.size) _ hx hb hml (findClass_of_methodNamed B.named) hw0 htab hK hE hZ hP hD0.self (fun q h => Or.inr h) va_S.rf (fun H locs pc ls v hv hP hS hd => W.iret hx hb hr (fun t ht hW => ⟨⟨v, (), rfl, hv, by show va_P g.1 vwCl cn t.heap; rw [ht]; exact hP⟩, hS.F ht⟩) hS.2.2 hd hlocks) _ hl
theorem jm_ki {l : Launch} {y : MethodName} {ws ws' : List Cond} {rm : Room} {cc : ByteArray} {maxL sz : Nat} {As : List Value} {cs cn : va_W} {g : jG} {R : Int32} (hy : plainName y.cls = true) (hw : ws = Cond.code y cc maxL (some .int) :: ws') (hlen : (lg_sl As).length ≤ maxL)
    (body : ∀ (p : Program) (e : Env) (s : State) (m : MethodId) (below : List Frame) (meth : Method) (c : Code) (A : Nat → Prop) (Q : State → Prop), p.tables.exec = Jvm.exec → c.code = cc → c.maxLocals = maxL → s.vm.findClass y.cls = some m.cls → (∀ w ∈ ws, w.before As.toArray s = true) → jK g s → jE s → jZ A s s.heap → va_P g.1 vwCl cs s.heap → va_D A cs → (∀ q, s.heap.size ≤ q → A q) → va_S A s.heap s.heap [] →
      (∀ (H : Heap) (locs : List Loc) (pc : Nat) (ls : Array Slot) (v : Int32), v = R → va_P g.1 vwCl cn H → va_S A s.heap H locs → decode cc pc = .ok (.ireturn, 1) → W p l e rm s m As.toArray below meth c H locs rm.cells rm.slots Q (F0 m pc ls [.int v])) →
      ∀ ls : Array Slot, lv_has ls maxL (lv_args 0 As) → W p l e rm s m As.toArray below meth c s.heap [] 0 0 Q (F0 m 0 ls [])) : Met l y ws rm (jPx g As cs sz) (jQi g R cn (va_A cs sz)) rm.cells rm.slots (va_A cs sz) := by
  refine Met.ofW (cc := cc) (maxL := maxL) (ret := some .int) hy hw ?_
  intro p e s m args below meth c s₁ B hml hv
  obtain ⟨rfl, hsz, hK, hE, hZ, hP, hD0⟩ := hv
  subst hsz
  have hl := lv_entry As (n := maxL) hlen
  have hr := B.returns
  have hlocks := B.notSynchronized
  have hx := B.exec
  have hb := B.bytes
  have hw0 : ∀ w ∈ ws, w.before As.toArray s = true := atoms_spec (ws := ws) B.pre
  rw [lg_entry_eq]
  exact body p e s m below meth c (va_A cs s.heap.size) _ hx hb hml (findClass_of_methodNamed B.named) hw0 hK hE hZ hP hD0.self (fun q h => Or.inr h) va_S.rf (fun H locs pc ls v hv hP hS hd => W.iret hx hb hr (fun t ht hW => ⟨⟨v, (), rfl, hv, by show va_P g.1 vwCl cn t.heap; rw [ht]; exact hP⟩, hS.F ht⟩) hS.2.2 hd hlocks) _ hl
theorem jm_kz {l : Launch} {y : MethodName} {ws ws' : List Cond} {rm : Room} {cc : ByteArray} {maxL sz : Nat} {As : List Value} {cs cn : va_W} {g : jG} {R : Int32} (hy : plainName y.cls = true) (hw : ws = Cond.code y cc maxL (some .boolean) :: ws') (hlen : (lg_sl As).length ≤ maxL)
    (body : ∀ (p : Program) (e : Env) (s : State) (m : MethodId) (below : List Frame) (meth : Method) (c : Code) (A : Nat → Prop) (Q : State → Prop), p.tables.exec = Jvm.exec → c.code = cc → c.maxLocals = maxL → s.vm.findClass y.cls = some m.cls → (∀ w ∈ ws, w.before As.toArray s = true) → jK g s → jE s → jZ A s s.heap → va_P g.1 vwCl cs s.heap → va_D A cs → (∀ q, s.heap.size ≤ q → A q) → va_S A s.heap s.heap [] →
      (∀ (H : Heap) (locs : List Loc) (pc : Nat) (ls : Array Slot) (v : Int32), v &&& 1 = R → va_P g.1 vwCl cn H → va_S A s.heap H locs → decode cc pc = .ok (.ireturn, 1) → W p l e rm s m As.toArray below meth c H locs rm.cells rm.slots Q (F0 m pc ls [.int v])) →
      ∀ ls : Array Slot, lv_has ls maxL (lv_args 0 As) → W p l e rm s m As.toArray below meth c s.heap [] 0 0 Q (F0 m 0 ls [])) : Met l y ws rm (jPx g As cs sz) (jQi g R cn (va_A cs sz)) rm.cells rm.slots (va_A cs sz) := by
  refine Met.ofW (cc := cc) (maxL := maxL) (ret := some .boolean) hy hw ?_
  intro p e s m args below meth c s₁ B hml hv
  obtain ⟨rfl, hsz, hK, hE, hZ, hP, hD0⟩ := hv
  subst hsz
  have hl := lv_entry As (n := maxL) hlen
  have hr := B.returns
  have hlocks := B.notSynchronized
  have hx := B.exec
  have hb := B.bytes
  have hw0 : ∀ w ∈ ws, w.before As.toArray s = true := atoms_spec (ws := ws) B.pre
  rw [lg_entry_eq]
  exact body p e s m below meth c (va_A cs s.heap.size) _ hx hb hml (findClass_of_methodNamed B.named) hw0 hK hE hZ hP hD0.self (fun q h => Or.inr h) va_S.rf (fun H locs pc ls v hv hP hS hd => jzret hx hb hr hv (fun t ht hW => ⟨⟨R, (), rfl, rfl, by show va_P g.1 vwCl cn t.heap; rw [ht]; exact hP⟩, hS.F ht⟩) hS.2.2 hd hlocks) _ hl
theorem jm_kv {l : Launch} {y : MethodName} {ws ws' : List Cond} {rm : Room} {cc : ByteArray} {maxL sz : Nat} {As : List Value} {cs cn : va_W} {g : jG} (hy : plainName y.cls = true) (hw : ws = Cond.code y cc maxL none :: ws') (hlen : (lg_sl As).length ≤ maxL)
    (body : ∀ (p : Program) (e : Env) (s : State) (m : MethodId) (below : List Frame) (meth : Method) (c : Code) (A : Nat → Prop) (Q : State → Prop), p.tables.exec = Jvm.exec → c.code = cc → c.maxLocals = maxL → s.vm.findClass y.cls = some m.cls → (∀ w ∈ ws, w.before As.toArray s = true) → jK g s → jE s → jZ A s s.heap → va_P g.1 vwCl cs s.heap → va_D A cs → (∀ q, s.heap.size ≤ q → A q) → va_S A s.heap s.heap [] →
      (∀ (H : Heap) (locs : List Loc) (pc : Nat) (ls : Array Slot), va_P g.1 vwCl cn H → va_S A s.heap H locs → decode cc pc = .ok (.return_, 1) → W p l e rm s m As.toArray below meth c H locs rm.cells rm.slots Q (F0 m pc ls [])) →
      ∀ ls : Array Slot, lv_has ls maxL (lv_args 0 As) → W p l e rm s m As.toArray below meth c s.heap [] 0 0 Q (F0 m 0 ls [])) : Met l y ws rm (jPx g As cs sz) (jQv g cn (va_A cs sz)) rm.cells rm.slots (va_A cs sz) := by
  refine Met.ofW (cc := cc) (maxL := maxL) (ret := none) hy hw ?_
  intro p e s m args below meth c s₁ B hml hv
  obtain ⟨rfl, hsz, hK, hE, hZ, hP, hD0⟩ := hv
  subst hsz
  have hl := lv_entry As (n := maxL) hlen
  have hr := B.returns
  have hlocks := B.notSynchronized
  have hx := B.exec
  have hb := B.bytes
  have hw0 : ∀ w ∈ ws, w.before As.toArray s = true := atoms_spec (ws := ws) B.pre
  rw [lg_entry_eq]
  exact body p e s m below meth c (va_A cs s.heap.size) _ hx hb hml (findClass_of_methodNamed B.named) hw0 hK hE hZ hP hD0.self (fun q h => Or.inr h) va_S.rf (fun H locs pc ls hP hS hd => W.vret hx hb hr (fun t ht hW => ⟨⟨(), rfl, trivial, by show va_P g.1 vwCl cn t.heap; rw [ht]; exact hP⟩, hS.F ht⟩) hS.2.2 hd hlocks) _ hl
/-- a method that reads the script -/
abbrev jPs (g : jG) (As : List Value) (b L : Nat) (xs : Nat → Int32) : Array Value → State → Prop := va_Pc As (fun U => jK g U ∧ va_X b L xs U U.heap ∧ b < U.heap.size)
theorem jPs_blind {g : jG} {As : List Value} {b L : Nat} {xs : Nat → Int32} : FrameBlind (jPs g As b L xs) := fun a U fr mk q => ⟨q.1, jK_call q.2.1, va_X.moved (u := U) (U := U.calling fr mk a) (Vm.Alike.refl U.vm) q.2.2.1, q.2.2.2⟩
theorem jps_s {g : jG} {s : State} {H : Heap} {As : List Value} {b L : Nat} {xs : Nat → Int32} {A : Nat → Prop} {locs : List Loc} (hK : jK g s) (hX : va_X b L xs s s.heap) (hbl : b < s.heap.size) (hbA : ¬ A b) (hS : va_S A s.heap H locs) : PreS s H (jPs g As b L xs) As := ⟨jPs_blind, fun U hU hW => ⟨rfl, jK_warm hW hK, by rw [hU]; exact va_X.moved hW.alike (hX.kept (hS.2.1 b hbl hbA)), by rw [hU]; exact Nat.lt_of_lt_of_le hbl hS.1⟩⟩
theorem jm_si {l : Launch} {y : MethodName} {ws ws' : List Cond} {rm : Room} {cc : ByteArray} {maxL : Nat} {As : List Value} {b L : Nat} {xs : Nat → Int32} {g : jG} {R : Int32} (hy : plainName y.cls = true) (hw : ws = Cond.code y cc maxL (some .int) :: ws') (hlen : (lg_sl As).length ≤ maxL)
    (body : ∀ (p : Program) (e : Env) (s : State) (m : MethodId) (below : List Frame) (meth : Method) (c : Code) (Q : State → Prop), p.tables.exec = Jvm.exec → c.code = cc → c.maxLocals = maxL → s.vm.findClass y.cls = some m.cls → (∀ w ∈ ws, w.before As.toArray s = true) → jK g s → va_X b L xs s s.heap → b < s.heap.size →
      (∀ (pc : Nat) (ls : Array Slot) (v : Int32), v = R → decode cc pc = .ok (.ireturn, 1) → W p l e rm s m As.toArray below meth c s.heap [] 0 0 Q (F0 m pc ls [.int v])) →
      ∀ ls : Array Slot, lv_has ls maxL (lv_args 0 As) → W p l e rm s m As.toArray below meth c s.heap [] 0 0 Q (F0 m 0 ls [])) : Met l y ws rm (jPs g As b L xs) (vp_Si (fun r => r = R)) 0 0 (fun _ => False) := by
  refine Met.ofW (cc := cc) (maxL := maxL) (ret := some .int) hy hw ?_
  intro p e s m args below meth c s₁ B hml hv
  obtain ⟨rfl, hK, hX, hbl⟩ := hv
  have hl := lv_entry As (n := maxL) hlen
  have hr := B.returns
  have hlocks := B.notSynchronized
  have hx := B.exec
  have hb := B.bytes
  rw [lg_entry_eq]
  exact body p e s m below meth c _ hx hb hml (findClass_of_methodNamed B.named) (atoms_spec (ws := ws) B.pre) hK hX hbl (fun pc ls v hv hd => W.iret hx hb hr (fun t ht hW => ⟨v, rfl, hv, ht⟩) (fun _ h => nomatch h) hd hlocks) _ hl
/-- the script's cell, or what stands for it behind its end -/
def jf_Lw_cell (L : Nat) (xs : Nat → Int32) (x1 : Int32) : Option Int32 := if nI L ≤ x1 then some (1205587487 * (x1 + 11)) else if jin x1 L = true then some (xs x1.toNatClampNeg) else none
abbrev jr_Lw_cell : Room := { frames := 0, cells := 0, slots := 0, locals := 0 }
set_option maxRecDepth 100000 in
set_option maxHeartbeats 4000000 in
theorem jc_Lw_cell (l : Launch) (g : jG) (b L : Nat) (xs : Nat → Int32) (x1 : Int32) (R : Int32) (hR : jf_Lw_cell L xs x1 = some R) : Met l yL_cell wsL_cell jr_Lw_cell (jPs g [.ref b, .int x1] b L xs) (vp_Si (fun r => r = R)) 0 0 (fun _ => False) := by
  refine jm_si (cc := cL_cell) (maxL := 2) (by decide +kernel) rfl (Nat.le_of_ble_eq_true rfl) ?_
  intro p e s m below meth c Q hx hb hml hown hts hK hX hbl fin ls hl
  have hl : lv_has ls 2 [(0, .ref b), (1, .int x1)] := hl
  have hown : s.vm.findClass RL = some m.cls := hown
  have hS : va_S (fun _ => False) s.heap s.heap [] := va_S.rf
  unfold jf_Lw_cell at hR
  refine lv_iload_n hx hb dL_cell_0 rfl (lv_at hl 1 rfl) ?_
  refine lv_aload_n hx hb dL_cell_1 rfl (lv_at hl 0 rfl) ?_
  refine va_slen hx hb hX hbl (fun h => h) hS dL_cell_2 ?_
  refine lv_icmp_ge (tgt := 12) hx hb dL_cell_3 (by decide) (fun h => ?_) (fun h => ?_)
  · have h : nI L ≤ x1 := h
    rw [if_pos h] at hR
    obtain rfl := Option.some.inj hR
    refine lv_ldc (v := 1205587487) hx hb hown (hts (.constant RL 7 (1205587487)) (by decide +kernel)) dL_cell_12 ?_
    refine lv_iload_n hx hb dL_cell_14 rfl (lv_at hl 1 rfl) ?_
    refine lv_bipush (v := 11) hx hb dL_cell_15 (by decide) ?_
    refine lv_iadd hx hb dL_cell_17 ?_
    refine lv_imul hx hb dL_cell_18 ?_
    exact fin _ _ _ rfl dL_cell_19
  · have h : ¬ nI L ≤ x1 := h
    rw [if_neg h] at hR
    by_cases h2 : jin x1 L = true
    case neg => rw [if_neg h2] at hR; cases hR
    rw [if_pos h2] at hR
    obtain rfl := Option.some.inj hR
    refine lv_aload_n hx hb dL_cell_6 rfl (lv_at hl 0 rfl) ?_
    refine lv_iload_n hx hb dL_cell_7 rfl (lv_at hl 1 rfl) ?_
    refine va_sld hx hb hX hbl (fun h => h) hS (jin_in h2) dL_cell_8 ?_
    refine lv_goto (tgt := 19) hx hb dL_cell_9 (by decide) ?_
    exact fin _ _ _ rfl dL_cell_19
