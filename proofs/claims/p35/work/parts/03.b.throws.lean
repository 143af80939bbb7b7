/-! what a method that throws asks, and what it leaves -/
abbrev eI : String := "java/lang/IndexOutOfBoundsException"
abbrev eA : String := "java/lang/IllegalArgumentException"
abbrev eS : String := "java/lang/IllegalStateException"
abbrev eN : List String := ["java/lang/RuntimeException", "java/lang/Exception"]
def jEN : List String := [eI, eA, eS]
def jEp : List (String × String) := [(eI, eA), (eI, eS), (eA, eI), (eA, eS), (eS, eI), (eS, eA)]
def jES : List (Nat × String) := [(99, "there are 6 lamps"), (166, "there is more than one PIECE"), (174, "there are 6 INTERVALS"), (187, "no INTERVALS, or the last ones are alike"), (224, "there is no such CELL"), (227, "there is no such SQUARE, INTERVAL, POINT or place"), (231, "an argument is out of its range"), (234, "the CELL is a BLOCK")]
def jEDc : List MethodName := [⟨"java/lang/RuntimeException", "<init>", "(Ljava/lang/String;)V"⟩, ⟨"java/lang/Exception", "<init>", "(Ljava/lang/String;)V"⟩, ⟨"java/lang/Throwable", "<init>", "(Ljava/lang/String;)V"⟩]
def jE (U : State) : Prop := (∀ E ∈ jEN, va_Nw (.castable E E) U) ∧ (∀ q ∈ jES, ∃ sa, vk_R RX6 q.1 q.2 sa U) ∧ (∀ q ∈ jEp, va_Nc q.1 q.2 U) ∧ (∀ y ∈ jEDc, va_Nw (.declares y) U)
theorem jE_warm {s U : State} (hW : s.WarmedH U.vm) (h : jE s) : jE U := ⟨fun E hE => va_Nw.warmC hW (h.1 E hE), fun q hq => (h.2.1 q hq).elim fun sa hs => ⟨sa, vk_R.warm hW hs⟩, fun q hq => va_Nc.moved hW.alike (h.2.2.1 q hq), fun y hy => va_Nw.warmD hW (h.2.2.2 y hy)⟩
theorem jE_call {U : State} {fr : JFrame} {mk : MethodId} {a : Array Value} (h : jE U) : jE (U.calling fr mk a) := ⟨fun E hE => va_Nw.same (u := U) (U := U.calling fr mk a) rfl rfl (h.1 E hE), fun q hq => (h.2.1 q hq).elim fun sa hs => ⟨sa, vk_R.same (u := U) (U := U.calling fr mk a) rfl hs⟩, fun q hq => va_Nc.moved (u := U) (U := U.calling fr mk a) (Vm.Alike.refl U.vm) (h.2.2.1 q hq), fun y hy => va_Nw.same (u := U) (U := U.calling fr mk a) rfl rfl (h.2.2.2 y hy)⟩
/-- the words of a throw that are no good ones -/
def jBE (E : String) : List Cond := Cond.castable E E :: jEDc.map Cond.declares
theorem jBE_h {args : Array Value} {s : State} {E : String} (h : jE s) (hE : va_Nw (.castable E E) s) : ∀ w ∈ jBE E, w.before args s = true := by
  intro w hw
  rcases List.mem_cons.mp hw with rfl | hw
  · exact va_Nw.use rfl hE
  · obtain ⟨y, hy, rfl⟩ := List.mem_map.mp hw
    exact va_Nw.use rfl (h.2.2.2 y hy)
theorem jE_s {U : State} (h : jE U) (i : Nat) {q : Nat × String} (hi : jES[i]? = some q) : ∃ sa, vk_R RX6 q.1 q.2 sa U := h.2.1 q (List.mem_of_getElem? hi)
theorem jE_c {U : State} (h : jE U) (i : Nat) {E : String} (hi : jEN[i]? = some E) : va_Nw (.castable E E) U := h.1 E (List.mem_of_getElem? hi)
theorem jE_n {U : State} (h : jE U) (i : Nat) {q : String × String} (hi : jEp[i]? = some q) : va_Nc q.1 q.2 U := h.2.2.1 q (List.mem_of_getElem? hi)
def jZ (A : Nat → Prop) (U : State) (H : Heap) : Prop := vx_Zq Bundle.tN "UNASSIGNED_STACK" Bundle.steD A U H ∧ vx_Zq Bundle.tN "SUPPRESSED_SENTINEL" Bundle.listD A U H
theorem jZ_moved {A : Nat → Prop} {u U : State} {H : Heap} (hvm : u.vm.Alike U.vm) (h : jZ A u H) : jZ A U H := ⟨h.1.moved hvm, h.2.moved hvm⟩
theorem jZ_kept {A : Nat → Prop} {U : State} {H H1 : Heap} (h : jZ A U H) (hq : ∀ a : Nat, a < H.size → ¬ A a → H1[a]? = H[a]?) : jZ A U H1 := ⟨h.1.kept hq, h.2.kept hq⟩
theorem jZ_narrow {A B : Nat → Prop} {U : State} {H : Heap} (h : jZ A U H) (hAB : ∀ q, B q → A q) : jZ B U H := ⟨h.1.narrow hAB, h.2.narrow hAB⟩
abbrev jPx (g : jG) (As : List Value) (cs : va_W) (sz : Nat) : Array Value → State → Prop := va_Pc As (fun U => U.heap.size = sz ∧ jK g U ∧ jE U ∧ jZ (va_A cs sz) U U.heap ∧ va_P g.1 vwCl cs U.heap ∧ va_D (fun _ => True) cs)
abbrev jXx (g : jG) (E : String) (cs : va_W) (A : Nat → Prop) : String → State → State → Prop := vx_X (S := Unit) (fun _ => True) (fun E' _ t => E' = E ∧ va_P g.1 vwCl cs t.heap) A
abbrev jNo : Array Value → State → Outcome → State → Prop := fun _ _ _ _ => False
theorem jPx_blind {g : jG} {As : List Value} {cs : va_W} {sz : Nat} : FrameBlind (jPx g As cs sz) := fun a U fr mk q => ⟨q.1, q.2.1, jK_call q.2.2.1, jE_call q.2.2.2.1, jZ_moved (u := U) (U := U.calling fr mk a) (Vm.Alike.refl U.vm) q.2.2.2.2.1, q.2.2.2.2.2⟩
theorem jpx_s {g : jG} {s : State} {H : Heap} {As : List Value} {cs : va_W} {A : Nat → Prop} (hK : jK g s) (hE : jE s) (hZ : jZ A s H) (hF : ∀ q, va_A cs H.size q → A q) (hP : va_P g.1 vwCl cs H) (hD : va_D A cs) : PreS s H (jPx g As cs H.size) As := ⟨jPx_blind, fun U hU hW => ⟨rfl, by rw [hU], jK_warm hW hK, jE_warm hW hE, by rw [hU]; exact jZ_moved hW.alike (jZ_narrow hZ hF), by rw [hU]; exact hP, hD.weaken (fun _ _ _ _ => trivial)⟩⟩
theorem jpx_v {g : jG} {s : State} {H : Heap} {b q0 ci : Nat} {fs As : List Value} {q : vw_C} {cs : va_W} {A : Nat → Prop} (hK : jK g s) (hE : jE s) (hZ : jZ A s H) (hF : ∀ q, va_A cs H.size q → A q) (hP : va_P g.1 vwCl cs H) (hD : va_D A cs) (hc : vwCl[ci]? = some q) (he : cs[q0]? = some (b, .inr (ci, fs))) : PreV s H q.1 b (jPx g (.ref b :: As) cs H.size) As := ⟨jPx_blind, va_recv hK.1 hP hc he, fun U hU hW => ⟨rfl, by rw [hU], jK_warm hW hK, jE_warm hW hE, by rw [hU]; exact jZ_moved hW.alike (jZ_narrow hZ hF), by rw [hU]; exact hP, hD.weaken (fun _ _ _ _ => trivial)⟩⟩
/-- a method without an answer that reads alone -/
abbrev jQn : Array Value → State → Outcome → State → Prop := fun _ st oc t => oc = .returned none ∧ t.heap = st.heap
theorem jm_rv {l : Launch} {y : MethodName} {ws ws' : List Cond} {rm : Room} {cc : ByteArray} {maxL : Nat} {As : List Value} {cs : va_W} {g : jG} (hy : plainName y.cls = true) (hw : ws = Cond.code y cc maxL none :: ws') (hlen : (lg_sl As).length ≤ maxL)
    (body : ∀ (p : Program) (e : Env) (s : State) (m : MethodId) (below : List Frame) (meth : Method) (c : Code) (Q : State → Prop), p.tables.exec = Jvm.exec → c.code = cc → c.maxLocals = maxL → s.vm.findClass y.cls = some m.cls → (∀ w ∈ ws, w.before As.toArray s = true) → jK g s → va_P g.1 vwCl cs s.heap →
      (∀ (pc : Nat) (ls : Array Slot), decode cc pc = .ok (.return_, 1) → W p l e rm s m As.toArray below meth c s.heap [] 0 0 Q (F0 m pc ls [])) →
      ∀ ls : Array Slot, lv_has ls maxL (lv_args 0 As) → W p l e rm s m As.toArray below meth c s.heap [] 0 0 Q (F0 m 0 ls [])) : Met l y ws rm (jPr g As cs) jQn 0 0 (fun _ => False) := by
  refine Met.ofW (cc := cc) (maxL := maxL) (ret := none) hy hw ?_
  intro p e s m args below meth c s₁ B hml hv
  obtain ⟨rfl, hK, hP⟩ := hv
  have hl := lv_entry As (n := maxL) hlen
  have hr := B.returns
  have hlocks := B.notSynchronized
  have hx := B.exec
  have hb := B.bytes
  rw [lg_entry_eq]
  exact body p e s m below meth c _ hx hb hml (findClass_of_methodNamed B.named) (atoms_spec (ws := ws) B.pre) hK hP (fun pc ls hd => W.vret hx hb hr (fun t ht hW => ⟨rfl, ht⟩) (fun _ h => nomatch h) hd hlocks) _ hl
/-- a body that throws E, and nothing else -/
theorem jm_x {l : Launch} {y : MethodName} {ws ws' : List Cond} {rm : Room} {cc : ByteArray} {maxL sz : Nat} {ret : Option FieldType} {As : List Value} {cs : va_W} {g : jG} {E : String} (hy : plainName y.cls = true) (hw : ws = Cond.code y cc maxL ret :: ws') (hlen : (lg_sl As).length ≤ maxL)
    (body : ∀ (p : Program) (e : Env) (s : State) (m : MethodId) (below : List Frame) (meth : Method) (c : Code) (A : Nat → Prop), p.tables.exec = Jvm.exec → c.code = cc → c.maxLocals = maxL → s.vm.findClass y.cls = some m.cls → (∀ w ∈ ws, w.before As.toArray s = true) → (∀ x ∈ c.exceptionTable.toList, False) → meth.locks = false → jK g s → jE s → jZ A s s.heap → va_P g.1 vwCl cs s.heap → va_D A cs → (∀ q, s.heap.size ≤ q → A q) → va_S A s.heap s.heap [] →
      ∀ ls : Array Slot, lv_has ls maxL (lv_args 0 As) → W p l e rm s m As.toArray below meth c s.heap [] 0 0 (vx_MQ below jNo (jXx g E cs A) As.toArray s 1 6 A) (F0 m 0 ls [])) : vx_Met l y ws rm (jPx g As cs sz) jNo (jXx g E cs (va_A cs sz)) 1 6 (va_A cs sz) := by
  refine vx_ofW (cc := cc) (maxL := maxL) (ret := ret) hy hw ?_
  intro p e s m args below meth c s₁ B hml hout hv
  obtain ⟨rfl, hsz, hK, hE, hZ, hP, hD0⟩ := hv
  subst hsz
  have hl := lv_entry As (n := maxL) hlen
  have hlocks := B.notSynchronized
  rw [lg_entry_eq]
  exact body p e s m below meth c (va_A cs s.heap.size) B.exec B.bytes hml (findClass_of_methodNamed B.named) (atoms_spec (ws := ws) B.pre) hout hlocks hK hE hZ hP hD0.self (fun q h => Or.inr h) va_S.rf _ hl
section JX
variable {p : Program} {l : Launch} {e : Env} {R : Room} {s : State} {m : MethodId} {args : Array Value} {below : List Frame} {meth : Method} {c : Code} {H : Heap} {locs : List Loc} {cells slots : Nat} {Q : State → Prop}
variable {pc : Nat} {ls : Array Slot} {rest st0 : List Value} {a : Array Value} {A : Nat → Prop} {H0 : Heap}
theorem jcall_rv (hr : va_Run p l e R s m args below meth c H locs cells slots 0 0 (F0 m pc ls st0) rest (jQn a) (fun _ => False))
    (kk : W p l e R s m args below meth c H locs cells slots Q (F0 m (pc + 3) ls rest)) : W p l e R s m args below meth c H locs cells slots Q (F0 m pc ls st0) := by
  intro T hT X
  obtain ⟨v0, st₀, t, T', L, h0, X', hL, e1, e2, ⟨hv, hh⟩, st⟩ := hr T hT X
  cases hv
  obtain ⟨t2, a1, b1⟩ := kk T' (by rw [e1, hh, h0]) (Stand.forget X' (fun q h => (hL q h).elim))
  exact ⟨t2, st t2 a1, b1⟩
/-- a call that throws E: the caller's world stays -/
theorem jxcall {g : jG} {E : String} {ws wc : va_W} {mc ms : Nat} (hr : vx_Run p l e R s m args below meth c H locs cells slots mc ms (F0 m pc ls st0) rest (jNo a) (jXx g E wc (va_A wc H.size)) (va_A wc H.size)) (hP : va_P g.1 vwCl ws H) (hD : va_D A ws) (hS : va_S A H0 H locs) (hA : ∀ q, H0.size ≤ q → A q) (isC isR perm : List Nat) (hC : isC.map (fun i => ws[i]?) = wc.map some) (hdis : ∀ i ∈ isR, i ∉ isC) (hp : perm.filterMap (fun i => (isR.filterMap (fun i => ws[i]?) ++ wc)[i]?) = ws)
    (kx : ∀ (ce : Cell) (q9 : Addr) (H1 : Heap) (locs1 : List Loc), va_P g.1 vwCl ws H1 → H.size ≤ H1.size → (∀ q : Nat, q < H.size → ¬ A q → H1[q]? = H[q]?) → va_S A H0 H1 locs1 → H1[q9]? = some ce → ce.vm = .none → s.vm.findClass E = some ce.cls → vx_W p l e R s m args below meth c H1 locs1 (cells + mc) (slots + ms) Q (F0 m pc ls rest) q9) : W p l e R s m args below meth c H locs cells slots Q (F0 m pc ls st0) := by
  have hF := va_free (wc := wc) hD hS hA isC hC
  intro T hT X
  rcases hr T hT X with ⟨v, st₀, t, T', L, h0, X', hL, e1, e2, hno, st⟩ | ⟨q, st₀, t, T', L, E', ce, h0, X', hL, e1, e2, ⟨u, -, ⟨hE, hB⟩, hFr⟩, hce, hcv, hcl, st⟩
  · exact hno.elim
  · subst hE
    obtain ⟨k1, k2, k3⟩ := vx_keep h0 e1 hS (fun q _ h => hF q h) hF hL hFr
    rw [← e1] at hB
    obtain ⟨t2, a1, b1⟩ := kx ce q T'.heap (locs ++ L) (jmerge hP hD k2 hB isC isR perm hC hdis hp) k1 (fun q h1 h2 => k2 q h1 (fun z => h2 (hF q z))) k3 (by rw [e1]; exact hce) hcv hcl T' rfl X'
    exact ⟨t2, st.trans a1, b1⟩
/-- out of a method without handlers -/
theorem jx_out {g : jG} {E : String} {cs : va_W} {ce : Cell} {q : Addr} (hout : ∀ x ∈ c.exceptionTable.toList, False) (hlocks : meth.locks = false) (hcell : H[q]? = some ce) (hv : ce.vm = .none) (hcl : s.vm.findClass E = some ce.cls) (hP : va_P g.1 vwCl cs H) (hS : va_S A s.heap H locs) (hc : cells ≤ 1) (hs : slots ≤ 6) : vx_W p l e R s m args below meth c H locs cells slots (vx_MQ below jNo (jXx g E cs A) args s 1 6 A) (F0 m pc ls rest) q :=
  vx_out (fun x hx => (hout x hx).elim) hlocks hcell hv hcl (fun t ht hvm => ⟨(), trivial, ⟨rfl, by rw [ht]; exact hP⟩, hS.F ht⟩) hS.2.2 hc hs
/-- 'throw new E("text")' in Billiardry -/
theorem jx_throw {g : jG} {cc : ByteArray} {E text : String} {cs : va_W} {ik is ic sa : Nat} (hx : p.tables.exec = Jvm.exec) (hb : c.code = cc) (hst : l.stackTraces = false) (hown : s.vm.findClass RX6 = some m.cls) (hcls : Bundle.fit E = true)
    (hk : (Cond.classLink RX6 ik E).before args s = true) (hini : (Cond.initialized E).before args s = true) (hstr : vk_R RX6 is text sa s) (hat1 : ∀ w ∈ (vx_atS RX6 ic E eN).filter goodWord, w.before args s = true) (hE : jE s) (hcast : va_Nw (.castable E E) s)
    (hng : ∀ w ∈ (vx_atS RX6 ic E eN).filter (fun w => !goodWord w), w ∈ jBE E)
    (hgood : ∀ w ∈ Cond.classLink RX6 ik E :: Cond.initialized E :: vx_atS RX6 ic E eN, vx_ot w = true)
    (hZ : jZ A s s.heap) (hS : va_S A s.heap H locs) (hsize : ls.size = c.maxLocals) (hP : va_P g.1 vwCl cs H)
    (d0 : decode cc pc = .ok (.new ik, 3)) (d3 : decode cc (pc + 3) = .ok (.dup, 1)) (d4 : decode cc (pc + 4) = .ok (.ldc is, 2)) (d6 : decode cc (pc + 6) = .ok (.invokespecial ic, 3)) (d9 : decode cc (pc + 9) = .ok (.athrow, 1))
    (hout : ∀ x ∈ c.exceptionTable.toList, False) (hRf : 5 < R.frames) (hRl : (rest.map fun v => v.category).sum + 82 ≤ R.locals) (hRc : cells + 1 ≤ R.cells) (hRs : slots + 6 ≤ R.slots) (hlocks : meth.locks = false) (hc : cells + 1 ≤ 1) (hs : slots + 6 ≤ 6) :
    W p l e R s m args below meth c H locs cells slots (vx_MQ below jNo (jXx g E cs A) args s 1 6 A) (F0 m pc ls rest) :=
  vx_throwS (names := eN) hx hb hst hown hcls (by decide +kernel) hk hini hstr (vx_hat hat1 (B := jBE E) hng (jBE_h hE hcast)) hgood hZ.1 hZ.2 hS hsize d0 d3 d4 d6 d9 (fun x hx => (hout x hx).elim) hRf hRl hRc hRs hlocks
    (fun t hvm h1 h2 => ⟨(), trivial, ⟨rfl, hP.kept (fun k q hk => h2 q.1 (hP k q hk).lt)⟩, ⟨Nat.le_trans hS.1 h1, fun q hq hn => (h2 q (Nat.lt_of_lt_of_le hq hS.1)).trans (hS.2.1 q hq hn)⟩⟩) hS.2.2 hc hs
theorem jx_throwW {g : jG} {cc : ByteArray} {E text : String} {cs : va_W} {ik is ic sa : Nat} (hx : p.tables.exec = Jvm.exec) (hb : c.code = cc) (hst : l.stackTraces = false) (hown : s.vm.findClass RX6 = some m.cls) (hcls : Bundle.fit E = true)
    (hk : (Cond.classLink RX6 ik E).before args s = true) (hini : (Cond.initialized E).before args s = true) (hstr : vk_R RX6 is text sa s) (hat1 : ∀ w ∈ (vx_atS RX6 ic E eN).filter goodWord, w.before args s = true) (hE : jE s) (hcast : va_Nw (.castable E E) s)
    (hng : ∀ w ∈ (vx_atS RX6 ic E eN).filter (fun w => !goodWord w), w ∈ jBE E)
    (hgood : ∀ w ∈ Cond.classLink RX6 ik E :: Cond.initialized E :: vx_atS RX6 ic E eN, vx_ot w = true)
    (hZ : jZ A s s.heap) (hS : va_S A s.heap H locs) (hsize : ls.size = c.maxLocals) (hP : va_P g.1 vwCl cs H)
    (d0 : decode cc pc = .ok (.new ik, 3)) (d3 : decode cc (pc + 3) = .ok (.dup, 1)) (d4 : decode cc (pc + 4) = .ok (.ldc_w is, 3)) (d7 : decode cc (pc + 7) = .ok (.invokespecial ic, 3)) (d10 : decode cc (pc + 10) = .ok (.athrow, 1))
    (hout : ∀ x ∈ c.exceptionTable.toList, False) (hRf : 5 < R.frames) (hRl : (rest.map fun v => v.category).sum + 82 ≤ R.locals) (hRc : cells + 1 ≤ R.cells) (hRs : slots + 6 ≤ R.slots) (hlocks : meth.locks = false) (hc : cells + 1 ≤ 1) (hs : slots + 6 ≤ 6) :
    W p l e R s m args below meth c H locs cells slots (vx_MQ below jNo (jXx g E cs A) args s 1 6 A) (F0 m pc ls rest) :=
  vx_throwSW (names := eN) hx hb hst hown hcls (by decide +kernel) hk hini hstr (vx_hat hat1 (B := jBE E) hng (jBE_h hE hcast)) hgood hZ.1 hZ.2 hS hsize d0 d3 d4 d7 d10 (fun x hx => (hout x hx).elim) hRf hRl hRc hRs hlocks
    (fun t hvm h1 h2 => ⟨(), trivial, ⟨rfl, hP.kept (fun k q hk => h2 q.1 (hP k q hk).lt)⟩, ⟨Nat.le_trans hS.1 h1, fun q hq hn => (h2 q (Nat.lt_of_lt_of_le hq hS.1)).trans (hS.2.1 q hq hn)⟩⟩) hS.2.2 hc hs
end JX
