/-! common words of the walk: the nest's links, the array classes, contracts that read, contracts that write -/
/-- the links to nest mates' private members, as the tables have them -/
def jNL : List (String × Nat × MethodName) := [(RX6, 18, yX2_init), (RX6, 25, yX5_init), (RX6, 32, yX1_init), (RX6, 39, yX0_init), (RX6, 9, yX4_init), (RX0, 23, yX3_init), (RX0, 32, yX6_put), (RX0, 36, yX6_at), (RX0, 40, yX6_exchangeIn), (RX0, 47, yX6_placeOf), (RX1, 28, yX6_at), (RX1, 48, yX6_put), (RX1, 9, yX5_init), (RX2, 19, yX6_put), (RX2, 27, yX6_at), (RX4, 11, yX3_init), (RX4, 22, yX6_isCell), (RX5, 40, yX6_put), (RX5, 54, yX6_at), (RX5, 58, yX6_exchangeIn)]
def jN (U : State) : Prop := ∀ q ∈ jNL, va_Nw (.methodLinkNest q.1 q.2.1 q.2.2 RX6) U
abbrev jG : Type := va_G × ClassId × ClassId × ClassId
abbrev jT (g : jG) : List (ClassId × FieldType) := [(g.2.1, .int), (g.2.2.1, .long), (g.2.2.2, .byte)]
def jK (g : jG) (U : State) : Prop := va_K g.1 vwCl (jT g) U ∧ jN U
theorem jK_warm {g : jG} {s U : State} (hW : s.WarmedH U.vm) (h : jK g s) : jK g U := ⟨va_K.moved hW.alike h.1, fun q hq => va_Nw.warmM hW (h.2 q hq)⟩
theorem jK_call {g : jG} {U : State} {fr : JFrame} {mk : MethodId} {a : Array Value} (h : jK g U) : jK g (U.calling fr mk a) := ⟨va_K.moved (u := U) (U := U.calling fr mk a) (Vm.Alike.refl U.vm) h.1, fun q hq => va_Nw.same (u := U) (U := U.calling fr mk a) rfl rfl (h.2 q hq)⟩
theorem jN_at {U : State} (h : jN U) (i : Nat) {q : String × Nat × MethodName} (hi : jNL[i]? = some q) : va_Nw (.methodLinkNest q.1 q.2.1 q.2.2 RX6) U := h q (List.mem_of_getElem? hi)
/-- addresses alone say what is apart -/
theorem jD_to {A : Nat → Prop} {ws ws' : va_W} (h : va_D A ws) (e : ws'.map Prod.fst = ws.map Prod.fst) : va_D A ws' := by
  have at' : ∀ (k : Nat) (q : Nat × va_E), ws'[k]? = some q → ∃ q0, ws[k]? = some q0 ∧ q0.1 = q.1 := by
    intro k q hk
    have h1 : (ws'.map Prod.fst)[k]? = some q.1 := by rw [List.getElem?_map, hk]; rfl
    rw [e, List.getElem?_map] at h1
    cases h2 : ws[k]? with
    | none => rw [h2] at h1; cases h1
    | some q0 => rw [h2] at h1; exact ⟨q0, rfl, Option.some.inj h1⟩
  refine ⟨fun i j x y hi hj hxy => ?_, fun k q hk => ?_⟩
  · obtain ⟨x0, h1, h2⟩ := at' i x hi
    obtain ⟨y0, h3, h4⟩ := at' j y hj
    exact h.1 i j x0 y0 h1 h3 (h2.trans (hxy.trans h4.symm))
  · obtain ⟨q0, h1, h2⟩ := at' k q hk
    rw [← h2]
    exact h.2 k q0 h1
/-- behind a call that wrote into a part of the world -/
theorem jmerge {G : va_G} {cl : List vw_C} {A : Nat → Prop} {ws wc wn ws' : va_W} {H H1 : Heap} (hP : va_P G cl ws H) (hD : va_D A ws) (hk : ∀ q : Nat, q < H.size → ¬ va_A wc H.size q → H1[q]? = H[q]?) (hB : va_P G cl wn H1) (isC isR perm : List Nat) (hC : isC.map (fun i => ws[i]?) = wc.map some) (hdis : ∀ i ∈ isR, i ∉ isC) (hp : perm.filterMap (fun i => (isR.filterMap (fun i => ws[i]?) ++ wn)[i]?) = ws') : va_P G cl ws' H1 := by
  have at' : ∀ {is : List Nat} {w : va_W}, is.map (fun i => ws[i]?) = w.map some → ∀ (k : Nat) (q : Nat × va_E), w[k]? = some q → ∃ i, is[k]? = some i ∧ ws[i]? = some q := by
    intro is w hs k q hq
    have h1 : (is.map (fun i => ws[i]?))[k]? = some (some q) := by rw [hs, List.getElem?_map, hq]; rfl
    rw [List.getElem?_map] at h1
    cases hi : is[k]? with
    | none => rw [hi] at h1; cases h1
    | some i => rw [hi] at h1; exact ⟨i, rfl, Option.some.inj h1⟩
  refine va_P.sub (ws := isR.filterMap (fun i => ws[i]?) ++ wn) (va_P.app (fun k q hq => ?_) hB) perm hp
  obtain ⟨i, h1, h2⟩ := List.mem_filterMap.mp (List.mem_of_getElem? hq)
  have hl := (hP i q h2).lt
  refine (hP i q h2).kept (hk q.1 hl fun h => ?_)
  rcases h with ⟨k2, e, h⟩ | h
  · obtain ⟨j, h3, h4⟩ := at' hC k2 (q.1, e) h
    have hij := hD.1 i j q (q.1, e) h2 h4 rfl
    subst hij
    exact hdis i h1 (List.mem_of_getElem? h3)
  · omega
theorem jbind {α β : Type} {o : Option α} {k : α → Option β} {r : β} (h : Option.bind o k = some r) : ∃ q, o = some q ∧ k q = some r := by
  cases o with
  | none => cases h
  | some q => exact ⟨q, rfl, h⟩
/-- an index that an array has -/
def jin (i : Int32) (n : Nat) : Bool := decide (¬ (i < 0 ∨ n ≤ i.toNatClampNeg))
theorem jin_in {i : Int32} {n : Nat} (h : jin i n = true) : vp_in i n := by
  have h2 : ¬ (i < 0 ∨ n ≤ i.toNatClampNeg) := of_decide_eq_true h
  exact h2
/-- how often a loop may go round -/
def jF : Nat := 8589934592
/-- contracts: what they ask at the start -/
abbrev jPr (g : jG) (As : List Value) (cs : va_W) : Array Value → State → Prop := va_Pc As (fun U => jK g U ∧ va_P g.1 vwCl cs U.heap)
abbrev jPw (g : jG) (As : List Value) (cs : va_W) (sz : Nat) : Array Value → State → Prop := va_Pc As (fun U => U.heap.size = sz ∧ jK g U ∧ va_P g.1 vwCl cs U.heap ∧ va_D (fun _ => True) cs)
/-- and at the end, where something was written: the answer and the new cells -/
abbrev jQi (g : jG) (v : Int32) (cs : va_W) (A : Nat → Prop) : Array Value → State → Outcome → State → Prop := va_Qi (S := Unit) (fun r _ => r = v) (fun _ t => va_P g.1 vwCl cs t.heap) A
abbrev jQf (g : jG) (v : UInt32) (cs : va_W) (A : Nat → Prop) : Array Value → State → Outcome → State → Prop := va_Qf (S := Unit) (fun r _ => r = v) (fun _ t => va_P g.1 vwCl cs t.heap) A
abbrev jQv (g : jG) (cs : va_W) (A : Nat → Prop) : Array Value → State → Outcome → State → Prop := va_Qv (S := Unit) (fun _ => True) (fun _ t => va_P g.1 vwCl cs t.heap) A
theorem jPr_blind {g : jG} {As : List Value} {cs : va_W} : FrameBlind (jPr g As cs) := fun _ _ _ _ q => ⟨q.1, jK_call q.2.1, q.2.2⟩
theorem jPw_blind {g : jG} {As : List Value} {cs : va_W} {sz : Nat} : FrameBlind (jPw g As cs sz) := fun _ _ _ _ q => ⟨q.1, q.2.1, jK_call q.2.2.1, q.2.2.2⟩
theorem jpr_s {g : jG} {s : State} {H : Heap} {As : List Value} {cs : va_W} (hK : jK g s) (hP : va_P g.1 vwCl cs H) : PreS s H (jPr g As cs) As := ⟨jPr_blind, fun U hU hW => ⟨rfl, jK_warm hW hK, by rw [hU]; exact hP⟩⟩
theorem jpw_s {g : jG} {s : State} {H : Heap} {As : List Value} {cs : va_W} {A : Nat → Prop} (hK : jK g s) (hP : va_P g.1 vwCl cs H) (hD : va_D A cs) : PreS s H (jPw g As cs H.size) As := ⟨jPw_blind, fun U hU hW => ⟨rfl, by rw [hU], jK_warm hW hK, by rw [hU]; exact hP, hD.weaken (fun _ _ _ _ => trivial)⟩⟩
theorem jpr_v {g : jG} {s : State} {H : Heap} {b q0 ci : Nat} {fs As : List Value} {q : vw_C} {cs : va_W} (hK : jK g s) (hP : va_P g.1 vwCl cs H) (hc : vwCl[ci]? = some q) (he : cs[q0]? = some (b, .inr (ci, fs))) : PreV s H q.1 b (jPr g (.ref b :: As) cs) As := ⟨jPr_blind, va_recv hK.1 hP hc he, fun U hU hW => ⟨rfl, jK_warm hW hK, by rw [hU]; exact hP⟩⟩
theorem jpw_v {g : jG} {s : State} {H : Heap} {b q0 ci : Nat} {fs As : List Value} {q : vw_C} {cs : va_W} {A : Nat → Prop} (hK : jK g s) (hP : va_P g.1 vwCl cs H) (hD : va_D A cs) (hc : vwCl[ci]? = some q) (he : cs[q0]? = some (b, .inr (ci, fs))) : PreV s H q.1 b (jPw g (.ref b :: As) cs H.size) As := ⟨jPw_blind, va_recv hK.1 hP hc he, fun U hU hW => ⟨rfl, by rw [hU], jK_warm hW hK, by rw [hU]; exact hP, hD.weaken (fun _ _ _ _ => trivial)⟩⟩
/-- a name for what was computed -/
def jlet {α β : Type} (a : α) (f : α → β) : β := f a
theorem jlet_b {α β : Type} {a : α} {f : α → β} {r : β} (h : jlet a f = r) : ∃ q, a = q ∧ f q = r := ⟨a, rfl, h⟩
def jsum {α β γ : Type} (f : α → γ) (k : β → γ) : α ⊕ β → γ
  | .inl a => f a
  | .inr b => k b
def jush (x y : Int32) : Int32 := (x.toUInt32 >>> (y.toUInt32 &&& Int32.toUInt32 31)).toInt32
def jlushr (x : Int64) (y : Int32) : Int64 := (x.toUInt64 >>> (y.toInt64.toUInt64 &&& Int64.toUInt64 63)).toInt64
def jlshl (x : Int64) (y : Int32) : Int64 := x <<< (y.toInt64 &&& 63)
def jlshr (x : Int64) (y : Int32) : Int64 := x >>> (y.toInt64 &&& 63)
def jmax (x y : Int32) : Int32 := if x < y then y else x
def jmin (x y : Int32) : Int32 := if y < x then y else x
def jabs (x : Int32) : Int32 := if 0 ≤ x then x else 0 - x
/-- a float that is a number -/
def jnn (x : UInt32) : Bool := decide (x &&& 0x7fffffff ≤ 0x7f800000)
theorem jnn_n {x : UInt32} (h : jnn x = true) : vf_n32 x := by
  have h2 : x &&& 0x7fffffff ≤ 0x7f800000 := of_decide_eq_true h
  exact h2
section JW
variable {p : Program} {l : Launch} {e : Env} {R : Room} {s : State} {m : MethodId} {args : Array Value} {below : List Frame} {meth : Method} {c : Code} {H : Heap} {locs : List Loc} {cells slots : Nat} {Q : State → Prop}
variable {pc : Nat} {ls : Array Slot} {rest st0 : List Value} {a : Array Value} {A : Nat → Prop} {H0 : Heap}
/-- the end of a method that answers a boolean: the answer's last bit -/
theorem jzret {cc : ByteArray} {Qc : Array Value → State → Outcome → State → Prop} {free : Addr → Prop} {v v' : Int32} (hexec : p.tables.exec = Jvm.exec) (hb : c.code = cc) (hr : meth.sig.returnType = some .boolean) (hn : v &&& 1 = v')
    (hq : ∀ t : State, t.heap = H → s.WarmedH t.vm → Qc args s (.returned (some (.int v'))) t) (hf : ∀ q ∈ locs, free q.base)
    (hdg : decode cc pc = .ok (.ireturn, 1)) (hlocks : meth.locks = false) : W p l e R s m args below meth c H locs cells slots (MQ below Qc args s cells slots free) (F0 m pc ls [.int v]) := by
  intro T hT X
  have hn' : narrow .boolean (.int v) = .int v' := by rw [← hn]; rfl
  obtain ⟨fs, hret, hrun, hended, hW, hframe⟩ := X.leave (v := some (.int v')) (hlocks := hlocks) (fun h => by rw [hr] at h; cases h)
  have hmeth' : T.vm.method? m = some meth := X.method'
  refine ⟨T.setFrames fs, ?_, .returned (some (.int v')), hrun, hended, hq _ hT hW, locs, ⟨⟨_, rfl⟩, hW, hframe⟩, hf⟩
  jvm_step X.here [X.here.top, hexec, hb, hdg, hmeth', hr, hn']
  (try refine ⟨rfl, ?_⟩); (try refine ⟨rfl, ?_⟩)
  first | (intro acts; rw [hret _ acts rfl rfl rfl]) | rw [hret _ _ rfl rfl rfl]
  exact Steps.refl _
/-- a call that reads alone -/
theorem jcall_ri {v : Int32} (hr : va_Run p l e R s m args below meth c H locs cells slots 0 0 (F0 m pc ls st0) rest (vp_Si (fun r => r = v) a) (fun _ => False))
    (kk : W p l e R s m args below meth c H locs cells slots Q (F0 m (pc + 3) ls (.int v :: rest))) : W p l e R s m args below meth c H locs cells slots Q (F0 m pc ls st0) := by
  intro T hT X
  obtain ⟨v0, st₀, t, T', L, h0, X', hL, e1, e2, ⟨r, hv, hp, hh⟩, st⟩ := hr T hT X
  cases hv
  subst hp
  obtain ⟨t2, a1, b1⟩ := kk T' (by rw [e1, hh, h0]) (Stand.forget X' (fun q h => (hL q h).elim))
  exact ⟨t2, st t2 a1, b1⟩
/-- a call that writes into a part of the world -/
theorem jcall_wi {g : jG} {v : Int32} {ws wc wn ws' : va_W} (hr : va_Run p l e R s m args below meth c H locs cells slots 0 0 (F0 m pc ls st0) rest (jQi g v wn (va_A wc H.size) a) (va_A wc H.size)) (hP : va_P g.1 vwCl ws H) (hD : va_D A ws) (hS : va_S A H0 H locs) (hA : ∀ q, H0.size ≤ q → A q) (isC isR perm : List Nat) (hC : isC.map (fun i => ws[i]?) = wc.map some) (hdis : ∀ i ∈ isR, i ∉ isC) (hp : perm.filterMap (fun i => (isR.filterMap (fun i => ws[i]?) ++ wn)[i]?) = ws')
    (kk : ∀ (H1 : Heap) (locs1 : List Loc), va_P g.1 vwCl ws' H1 → va_S A H0 H1 locs1 → W p l e R s m args below meth c H1 locs1 cells slots Q (F0 m (pc + 3) ls (.int v :: rest))) : W p l e R s m args below meth c H locs cells slots Q (F0 m pc ls st0) := by
  have hF := va_free (wc := wc) hD hS hA isC hC
  refine va_calli hr hS (fun q _ h => hF q h) hF (fun r u t H1 locs1 ht hvm hw hB hz1 hk1 hS1 => ?_)
  subst hw
  rw [ht] at hB
  exact kk H1 locs1 (jmerge hP hD hk1 hB isC isR perm hC hdis hp) hS1
theorem jcall_wv {g : jG} {ws wc wn ws' : va_W} (hr : va_Run p l e R s m args below meth c H locs cells slots 0 0 (F0 m pc ls st0) rest (jQv g wn (va_A wc H.size) a) (va_A wc H.size)) (hP : va_P g.1 vwCl ws H) (hD : va_D A ws) (hS : va_S A H0 H locs) (hA : ∀ q, H0.size ≤ q → A q) (isC isR perm : List Nat) (hC : isC.map (fun i => ws[i]?) = wc.map some) (hdis : ∀ i ∈ isR, i ∉ isC) (hp : perm.filterMap (fun i => (isR.filterMap (fun i => ws[i]?) ++ wn)[i]?) = ws')
    (kk : ∀ (H1 : Heap) (locs1 : List Loc), va_P g.1 vwCl ws' H1 → va_S A H0 H1 locs1 → W p l e R s m args below meth c H1 locs1 cells slots Q (F0 m (pc + 3) ls rest)) : W p l e R s m args below meth c H locs cells slots Q (F0 m pc ls st0) := by
  have hF := va_free (wc := wc) hD hS hA isC hC
  refine va_callv hr hS (fun q _ h => hF q h) hF (fun u t H1 locs1 ht hvm hw hB hz1 hk1 hS1 => ?_)
  rw [ht] at hB
  exact kk H1 locs1 (jmerge hP hD hk1 hB isC isR perm hC hdis hp) hS1
theorem jlet_i {e1 : Int32} {β : Type} {f : Int32 → β} {r : β} (h : jlet e1 f = r) (k : ∀ x : Int32, f x = r → W p l e R s m args below meth c H locs cells slots Q (F0 m pc ls (.int x :: rest))) : W p l e R s m args below meth c H locs cells slots Q (F0 m pc ls (.int e1 :: rest)) := k e1 h
theorem jlet_l {e1 : Int64} {β : Type} {f : Int64 → β} {r : β} (h : jlet e1 f = r) (k : ∀ x : Int64, f x = r → W p l e R s m args below meth c H locs cells slots Q (F0 m pc ls (.long x :: rest))) : W p l e R s m args below meth c H locs cells slots Q (F0 m pc ls (.long e1 :: rest)) := k e1 h
end JW
/-- constructors: the new cells lie where u says -/
abbrev jQc (g : jG) (wf : (Nat → Nat) → va_W) (A : Nat → Prop) : Array Value → State → Outcome → State → Prop := va_Qv (S := Nat → Nat) (fun _ => True) (fun u t => va_P g.1 vwCl (wf u) t.heap ∧ va_D A (wf u)) A
section JC
variable {p : Program} {l : Launch} {e : Env} {R : Room} {s : State} {m : MethodId} {args : Array Value} {below : List Frame} {meth : Method} {c : Code} {H : Heap} {locs : List Loc} {cells slots : Nat} {Q : State → Prop}
variable {pc : Nat} {ls : Array Slot} {rest st0 : List Value} {a : Array Value} {A : Nat → Prop} {H0 : Heap}
theorem jcall_ci {g : jG} {ws wc wr : va_W} {wf : (Nat → Nat) → va_W} {mc ms cn sn : Nat} (hr : va_Run p l e R s m args below meth c H locs cells slots mc ms (F0 m pc ls st0) rest (jQc g wf (va_A wc H.size) a) (va_A wc H.size)) (hP : va_P g.1 vwCl ws H) (hD : va_D A ws) (hS : va_S A H0 H locs) (hA : ∀ q, H0.size ≤ q → A q) (isC isR : List Nat) (hC : isC.map (fun i => ws[i]?) = wc.map some) (hR : isR.map (fun i => ws[i]?) = wr.map some) (hn : va_nd isR = true) (hdis : ∀ i ∈ isR, i ∉ isC) (hcn : cells + mc = cn) (hsn : slots + ms = sn)
    (kk : ∀ (u : Nat → Nat) (H1 : Heap) (locs1 : List Loc), va_P g.1 vwCl (wr ++ wf u) H1 → va_D A (wr ++ wf u) → va_S A H0 H1 locs1 → W p l e R s m args below meth c H1 locs1 cn sn Q (F0 m (pc + 3) ls rest)) : W p l e R s m args below meth c H locs cells slots Q (F0 m pc ls st0) := by
  subst hcn; subst hsn
  have hF := va_free (wc := wc) hD hS hA isC hC
  refine va_callv hr hS (fun q _ h => hF q h) hF (fun u t H1 locs1 ht hvm hw hB hz1 hk1 hS1 => ?_)
  obtain ⟨hP1, hD1⟩ := hB
  rw [ht] at hP1
  obtain ⟨hP2, hD2⟩ := va_join (wr := wr) (w1 := wf u) hP hD isC isR hC hR hn hdis hk1 hF hP1 hD1
  exact kk u H1 locs1 hP2 hD2 hS1
theorem jnewa_I {cc : ByteArray} (hx : p.tables.exec = Jvm.exec) (hb : c.code = cc) (harr : (Cond.arrayClass .int).before args s = true) {g : jG} {ws : va_W} (hK : jK g s) (hP : va_P g.1 vwCl ws H) (hD : va_D A ws) (hS : va_S A H0 H locs) (hA : ∀ q, H0.size ≤ q → A q) {n : Int32} {N : Nat} (hn : ¬ n < 0) (hN : n.toNatClampNeg = N) (hbytes : N * componentBytes .int ≤ 536870912) (hcells : cells + 1 ≤ R.cells) (hslots : slots + N ≤ R.slots) (hdg : decode cc pc = .ok (.newarray .int, 2))
    (kk : ∀ (q : Nat) (H1 : Heap), va_P g.1 vwCl (ws ++ [(q, .inl (g.2.1, N, .inl (fun _ => 0)))]) H1 → va_D A (ws ++ [(q, .inl (g.2.1, N, .inl (fun _ => 0)))]) → va_S A H0 H1 locs → W p l e R s m args below meth c H1 locs (cells + 1) (slots + N) Q (F0 m (pc + 2) ls (.ref q :: rest))) : W p l e R s m args below meth c H locs cells slots Q (F0 m pc ls (.int n :: rest)) := by
  refine va_newa (atype := .int) (ty := .int) (a0 := (N, .inl (fun _ => 0))) hx hb harr rfl hK.1 hP hD hS hA (fun cA => rfl) hn hN hbytes hcells hslots hdg (fun q cA H1 hK1 hP1 hD1 hS1 => ?_)
  have e1 : s.vm.findClass ("[" ++ FieldType.int.toString) = some g.2.1 := (hK.1.2 0 _ rfl).2
  have e2 : s.vm.findClass ("[" ++ FieldType.int.toString) = some cA := (hK1.2 3 _ rfl).2
  have e3 : cA = g.2.1 := Option.some.inj (e2.symm.trans e1)
  subst e3
  exact kk q H1 hP1 hD1 hS1
theorem jnewa_J {cc : ByteArray} (hx : p.tables.exec = Jvm.exec) (hb : c.code = cc) (harr : (Cond.arrayClass .long).before args s = true) {g : jG} {ws : va_W} (hK : jK g s) (hP : va_P g.1 vwCl ws H) (hD : va_D A ws) (hS : va_S A H0 H locs) (hA : ∀ q, H0.size ≤ q → A q) {n : Int32} {N : Nat} (hn : ¬ n < 0) (hN : n.toNatClampNeg = N) (hbytes : N * componentBytes .long ≤ 536870912) (hcells : cells + 1 ≤ R.cells) (hslots : slots + N ≤ R.slots) (hdg : decode cc pc = .ok (.newarray .long, 2))
    (kk : ∀ (q : Nat) (H1 : Heap), va_P g.1 vwCl (ws ++ [(q, .inl (g.2.2.1, N, .inr (.inl (fun _ => 0))))]) H1 → va_D A (ws ++ [(q, .inl (g.2.2.1, N, .inr (.inl (fun _ => 0))))]) → va_S A H0 H1 locs → W p l e R s m args below meth c H1 locs (cells + 1) (slots + N) Q (F0 m (pc + 2) ls (.ref q :: rest))) : W p l e R s m args below meth c H locs cells slots Q (F0 m pc ls (.int n :: rest)) := by
  refine va_newa (atype := .long) (ty := .long) (a0 := (N, .inr (.inl (fun _ => 0)))) hx hb harr rfl hK.1 hP hD hS hA (fun cA => rfl) hn hN hbytes hcells hslots hdg (fun q cA H1 hK1 hP1 hD1 hS1 => ?_)
  have e1 : s.vm.findClass ("[" ++ FieldType.long.toString) = some g.2.2.1 := (hK.1.2 1 _ rfl).2
  have e2 : s.vm.findClass ("[" ++ FieldType.long.toString) = some cA := (hK1.2 3 _ rfl).2
  have e3 : cA = g.2.2.1 := Option.some.inj (e2.symm.trans e1)
  subst e3
  exact kk q H1 hP1 hD1 hS1
end JC
theorem jm_c {l : Launch} {y : MethodName} {ws ws' : List Cond} {rm : Room} {cc : ByteArray} {maxL sz : Nat} {As : List Value} {cs : va_W} {wf : (Nat → Nat) → va_W} {g : jG} (hy : plainName y.cls = true) (hw : ws = Cond.code y cc maxL none :: ws') (hlen : (lg_sl As).length ≤ maxL) (hyn : y.name = "<init>")
    (body : ∀ (p : Program) (e : Env) (s : State) (m : MethodId) (below : List Frame) (meth : Method) (c : Code) (A : Nat → Prop) (Q : State → Prop), p.tables.exec = Jvm.exec → c.code = cc → c.maxLocals = maxL → s.vm.findClass y.cls = some m.cls → (∀ w ∈ ws, w.before As.toArray s = true) → meth.name = "<init>" → jK g s → va_P g.1 vwCl cs s.heap → va_D A cs → (∀ q, s.heap.size ≤ q → A q) → va_S A s.heap s.heap [] →
      (∀ (H : Heap) (locs : List Loc) (pc : Nat) (ls : Array Slot) (u : Nat → Nat), va_P g.1 vwCl (wf u) H → va_D A (wf u) → va_S A s.heap H locs → decode cc pc = .ok (.return_, 1) → W p l e rm s m As.toArray below meth c H locs rm.cells rm.slots Q (F0 m pc ls [])) →
      ∀ ls : Array Slot, lv_has ls maxL (lv_args 0 As) → W p l e rm s m As.toArray below meth c s.heap [] 0 0 Q (F0 m 0 ls [])) : Met l y ws rm (jPw g As cs sz) (jQc g wf (va_A cs sz)) rm.cells rm.slots (va_A cs sz) := by
  refine Met.ofW (cc := cc) (maxL := maxL) (ret := none) hy hw ?_
  intro p e s m args below meth c s₁ B hml hv
  obtain ⟨rfl, hsz, hK, hP, hD0⟩ := hv
  subst hsz
  have hl := lv_entry As (n := maxL) hlen
  have hr := B.returns
  have hlocks := B.notSynchronized
  have hx := B.exec
  have hb := B.bytes
  have hin : meth.name = "<init>" := (name_of_methodNamed B.named B.method).1.trans hyn
  rw [lg_entry_eq]
  exact body p e s m below meth c (va_A cs s.heap.size) _ hx hb hml (findClass_of_methodNamed B.named) (atoms_spec (ws := ws) B.pre) hin hK hP hD0.self (fun q h => Or.inr h) va_S.rf (fun H locs pc ls u hP hD hS hd => W.vret hx hb hr (fun t ht hW => ⟨⟨u, rfl, trivial, by rw [ht]; exact hP, hD⟩, hS.F ht⟩) hS.2.2 hd hlocks) _ hl
/-- bodies: what stands at the entry, and the rule by which they end; 'fin' -/
theorem jm_ri {l : Launch} {y : MethodName} {ws ws' : List Cond} {rm : Room} {cc : ByteArray} {maxL : Nat} {As : List Value} {cs : va_W} {g : jG} {R : Int32} (hy : plainName y.cls = true) (hw : ws = Cond.code y cc maxL (some .int) :: ws') (hlen : (lg_sl As).length ≤ maxL)
    (body : ∀ (p : Program) (e : Env) (s : State) (m : MethodId) (below : List Frame) (meth : Method) (c : Code) (Q : State → Prop), p.tables.exec = Jvm.exec → c.code = cc → c.maxLocals = maxL → s.vm.findClass y.cls = some m.cls → (∀ w ∈ ws, w.before As.toArray s = true) → jK g s → va_P g.1 vwCl cs s.heap →
      (∀ (pc : Nat) (ls : Array Slot) (v : Int32), v = R → decode cc pc = .ok (.ireturn, 1) → W p l e rm s m As.toArray below meth c s.heap [] 0 0 Q (F0 m pc ls [.int v])) →
      ∀ ls : Array Slot, lv_has ls maxL (lv_args 0 As) → W p l e rm s m As.toArray below meth c s.heap [] 0 0 Q (F0 m 0 ls [])) : Met l y ws rm (jPr g As cs) (vp_Si (fun r => r = R)) 0 0 (fun _ => False) := by
  refine Met.ofW (cc := cc) (maxL := maxL) (ret := some .int) hy hw ?_
  intro p e s m args below meth c s₁ B hml hv
  obtain ⟨rfl, hK, hP⟩ := hv
  have hl := lv_entry As (n := maxL) hlen
  have hr := B.returns
  have hlocks := B.notSynchronized
  have hx := B.exec
  have hb := B.bytes
  rw [lg_entry_eq]
  exact body p e s m below meth c _ hx hb hml (findClass_of_methodNamed B.named) (atoms_spec (ws := ws) B.pre) hK hP (fun pc ls v hv hd => W.iret hx hb hr (fun t ht hW => ⟨v, rfl, hv, ht⟩) (fun _ h => nomatch h) hd hlocks) _ hl
theorem jm_rf {l : Launch} {y : MethodName} {ws ws' : List Cond} {rm : Room} {cc : ByteArray} {maxL : Nat} {As : List Value} {cs : va_W} {g : jG} {R : UInt32} (hy : plainName y.cls = true) (hw : ws = Cond.code y cc maxL (some .float) :: ws') (hlen : (lg_sl As).length ≤ maxL)
    (body : ∀ (p : Program) (e : Env) (s : State) (m : MethodId) (below : List Frame) (meth : Method) (c : Code) (Q : State → Prop), p.tables.exec = Jvm.exec → c.code = cc → c.maxLocals = maxL → s.vm.findClass y.cls = some m.cls → (∀ w ∈ ws, w.before As.toArray s = true) → jK g s → va_P g.1 vwCl cs s.heap →
      (∀ (pc : Nat) (ls : Array Slot) (v : UInt32), v = R → decode cc pc = .ok (.freturn, 1) → W p l e rm s m As.toArray below meth c s.heap [] 0 0 Q (F0 m pc ls [.float v])) →
      ∀ ls : Array Slot, lv_has ls maxL (lv_args 0 As) → W p l e rm s m As.toArray below meth c s.heap [] 0 0 Q (F0 m 0 ls [])) : Met l y ws rm (jPr g As cs) (vp_Sf (fun r => r = R)) 0 0 (fun _ => False) := by
  refine Met.ofW (cc := cc) (maxL := maxL) (ret := some .float) hy hw ?_
  intro p e s m args below meth c s₁ B hml hv
  obtain ⟨rfl, hK, hP⟩ := hv
  have hl := lv_entry As (n := maxL) hlen
  have hr := B.returns
  have hlocks := B.notSynchronized
  have hx := B.exec
  have hb := B.bytes
  rw [lg_entry_eq]
  exact body p e s m below meth c _ hx hb hml (findClass_of_methodNamed B.named) (atoms_spec (ws := ws) B.pre) hK hP (fun pc ls v hv hd => W.fret hx hb hr (fun t ht hW => ⟨v, rfl, hv, ht⟩) (fun _ h => nomatch h) hd hlocks) _ hl
theorem jm_rz {l : Launch} {y : MethodName} {ws ws' : List Cond} {rm : Room} {cc : ByteArray} {maxL : Nat} {As : List Value} {cs : va_W} {g : jG} {R : Int32} (hy : plainName y.cls = true) (hw : ws = Cond.code y cc maxL (some .boolean) :: ws') (hlen : (lg_sl As).length ≤ maxL)
    (body : ∀ (p : Program) (e : Env) (s : State) (m : MethodId) (below : List Frame) (meth : Method) (c : Code) (Q : State → Prop), p.tables.exec = Jvm.exec → c.code = cc → c.maxLocals = maxL → s.vm.findClass y.cls = some m.cls → (∀ w ∈ ws, w.before As.toArray s = true) → jK g s → va_P g.1 vwCl cs s.heap →
      (∀ (pc : Nat) (ls : Array Slot) (v : Int32), v &&& 1 = R → decode cc pc = .ok (.ireturn, 1) → W p l e rm s m As.toArray below meth c s.heap [] 0 0 Q (F0 m pc ls [.int v])) →
      ∀ ls : Array Slot, lv_has ls maxL (lv_args 0 As) → W p l e rm s m As.toArray below meth c s.heap [] 0 0 Q (F0 m 0 ls [])) : Met l y ws rm (jPr g As cs) (vp_Si (fun r => r = R)) 0 0 (fun _ => False) := by
  refine Met.ofW (cc := cc) (maxL := maxL) (ret := some .boolean) hy hw ?_
  intro p e s m args below meth c s₁ B hml hv
  obtain ⟨rfl, hK, hP⟩ := hv
  have hl := lv_entry As (n := maxL) hlen
  have hr := B.returns
  have hlocks := B.notSynchronized
  have hx := B.exec
  have hb := B.bytes
  rw [lg_entry_eq]
  exact body p e s m below meth c _ hx hb hml (findClass_of_methodNamed B.named) (atoms_spec (ws := ws) B.pre) hK hP (fun pc ls v hv hd => jzret hx hb hr hv (fun t ht hW => ⟨R, rfl, rfl, ht⟩) (fun _ h => nomatch h) hd hlocks) _ hl
theorem jm_wi {l : Launch} {y : MethodName} {ws ws' : List Cond} {rm : Room} {cc : ByteArray} {maxL sz : Nat} {As : List Value} {cs cn : va_W} {g : jG} {R : Int32} (hy : plainName y.cls = true) (hw : ws = Cond.code y cc maxL (some .int) :: ws') (hlen : (lg_sl As).length ≤ maxL)
    (body : ∀ (p : Program) (e : Env) (s : State) (m : MethodId) (below : List Frame) (meth : Method) (c : Code) (A : Nat → Prop) (Q : State → Prop), p.tables.exec = Jvm.exec → c.code = cc → c.maxLocals = maxL → s.vm.findClass y.cls = some m.cls → (∀ w ∈ ws, w.before As.toArray s = true) → jK g s → va_P g.1 vwCl cs s.heap → va_D A cs → (∀ q, s.heap.size ≤ q → A q) → va_S A s.heap s.heap [] →
      (∀ (H : Heap) (locs : List Loc) (pc : Nat) (ls : Array Slot) (v : Int32), v = R → va_P g.1 vwCl cn H → va_S A s.heap H locs → decode cc pc = .ok (.ireturn, 1) → W p l e rm s m As.toArray below meth c H locs 0 0 Q (F0 m pc ls [.int v])) →
      ∀ ls : Array Slot, lv_has ls maxL (lv_args 0 As) → W p l e rm s m As.toArray below meth c s.heap [] 0 0 Q (F0 m 0 ls [])) : Met l y ws rm (jPw g As cs sz) (jQi g R cn (va_A cs sz)) 0 0 (va_A cs sz) := by
  refine Met.ofW (cc := cc) (maxL := maxL) (ret := some .int) hy hw ?_
  intro p e s m args below meth c s₁ B hml hv
  obtain ⟨rfl, hsz, hK, hP, hD0⟩ := hv
  subst hsz
  have hl := lv_entry As (n := maxL) hlen
  have hr := B.returns
  have hlocks := B.notSynchronized
  have hx := B.exec
  have hb := B.bytes
  rw [lg_entry_eq]
  exact body p e s m below meth c (va_A cs s.heap.size) _ hx hb hml (findClass_of_methodNamed B.named) (atoms_spec (ws := ws) B.pre) hK hP hD0.self (fun q h => Or.inr h) va_S.rf (fun H locs pc ls v hv hP hS hd => W.iret hx hb hr (fun t ht hW => ⟨⟨v, (), rfl, hv, by show va_P g.1 vwCl cn t.heap; rw [ht]; exact hP⟩, hS.F ht⟩) hS.2.2 hd hlocks) _ hl
theorem jm_wf {l : Launch} {y : MethodName} {ws ws' : List Cond} {rm : Room} {cc : ByteArray} {maxL sz : Nat} {As : List Value} {cs cn : va_W} {g : jG} {R : UInt32} (hy : plainName y.cls = true) (hw : ws = Cond.code y cc maxL (some .float) :: ws') (hlen : (lg_sl As).length ≤ maxL)
    (body : ∀ (p : Program) (e : Env) (s : State) (m : MethodId) (below : List Frame) (meth : Method) (c : Code) (A : Nat → Prop) (Q : State → Prop), p.tables.exec = Jvm.exec → c.code = cc → c.maxLocals = maxL → s.vm.findClass y.cls = some m.cls → (∀ w ∈ ws, w.before As.toArray s = true) → jK g s → va_P g.1 vwCl cs s.heap → va_D A cs → (∀ q, s.heap.size ≤ q → A q) → va_S A s.heap s.heap [] →
      (∀ (H : Heap) (locs : List Loc) (pc : Nat) (ls : Array Slot) (v : UInt32), v = R → va_P g.1 vwCl cn H → va_S A s.heap H locs → decode cc pc = .ok (.freturn, 1) → W p l e rm s m As.toArray below meth c H locs 0 0 Q (F0 m pc ls [.float v])) →
      ∀ ls : Array Slot, lv_has ls maxL (lv_args 0 As) → W p l e rm s m As.toArray below meth c s.heap [] 0 0 Q (F0 m 0 ls [])) : Met l y ws rm (jPw g As cs sz) (jQf g R cn (va_A cs sz)) 0 0 (va_A cs sz) := by
  refine Met.ofW (cc := cc) (maxL := maxL) (ret := some .float) hy hw ?_
  intro p e s m args below meth c s₁ B hml hv
  obtain ⟨rfl, hsz, hK, hP, hD0⟩ := hv
  subst hsz
  have hl := lv_entry As (n := maxL) hlen
  have hr := B.returns
  have hlocks := B.notSynchronized
  have hx := B.exec
  have hb := B.bytes
  rw [lg_entry_eq]
  exact body p e s m below meth c (va_A cs s.heap.size) _ hx hb hml (findClass_of_methodNamed B.named) (atoms_spec (ws := ws) B.pre) hK hP hD0.self (fun q h => Or.inr h) va_S.rf (fun H locs pc ls v hv hP hS hd => W.fret hx hb hr (fun t ht hW => ⟨⟨v, (), rfl, hv, by show va_P g.1 vwCl cn t.heap; rw [ht]; exact hP⟩, hS.F ht⟩) hS.2.2 hd hlocks) _ hl
theorem jm_wz {l : Launch} {y : MethodName} {ws ws' : List Cond} {rm : Room} {cc : ByteArray} {maxL sz : Nat} {As : List Value} {cs cn : va_W} {g : jG} {R : Int32} (hy : plainName y.cls = true) (hw : ws = Cond.code y cc maxL (some .boolean) :: ws') (hlen : (lg_sl As).length ≤ maxL)
    (body : ∀ (p : Program) (e : Env) (s : State) (m : MethodId) (below : List Frame) (meth : Method) (c : Code) (A : Nat → Prop) (Q : State → Prop), p.tables.exec = Jvm.exec → c.code = cc → c.maxLocals = maxL → s.vm.findClass y.cls = some m.cls → (∀ w ∈ ws, w.before As.toArray s = true) → jK g s → va_P g.1 vwCl cs s.heap → va_D A cs → (∀ q, s.heap.size ≤ q → A q) → va_S A s.heap s.heap [] →
      (∀ (H : Heap) (locs : List Loc) (pc : Nat) (ls : Array Slot) (v : Int32), v &&& 1 = R → va_P g.1 vwCl cn H → va_S A s.heap H locs → decode cc pc = .ok (.ireturn, 1) → W p l e rm s m As.toArray below meth c H locs 0 0 Q (F0 m pc ls [.int v])) →
      ∀ ls : Array Slot, lv_has ls maxL (lv_args 0 As) → W p l e rm s m As.toArray below meth c s.heap [] 0 0 Q (F0 m 0 ls [])) : Met l y ws rm (jPw g As cs sz) (jQi g R cn (va_A cs sz)) 0 0 (va_A cs sz) := by
  refine Met.ofW (cc := cc) (maxL := maxL) (ret := some .boolean) hy hw ?_
  intro p e s m args below meth c s₁ B hml hv
  obtain ⟨rfl, hsz, hK, hP, hD0⟩ := hv
  subst hsz
  have hl := lv_entry As (n := maxL) hlen
  have hr := B.returns
  have hlocks := B.notSynchronized
  have hx := B.exec
  have hb := B.bytes
  rw [lg_entry_eq]
  exact body p e s m below meth c (va_A cs s.heap.size) _ hx hb hml (findClass_of_methodNamed B.named) (atoms_spec (ws := ws) B.pre) hK hP hD0.self (fun q h => Or.inr h) va_S.rf (fun H locs pc ls v hv hP hS hd => jzret hx hb hr hv (fun t ht hW => ⟨⟨R, (), rfl, rfl, by show va_P g.1 vwCl cn t.heap; rw [ht]; exact hP⟩, hS.F ht⟩) hS.2.2 hd hlocks) _ hl
theorem jm_wv {l : Launch} {y : MethodName} {ws ws' : List Cond} {rm : Room} {cc : ByteArray} {maxL sz : Nat} {As : List Value} {cs cn : va_W} {g : jG} (hy : plainName y.cls = true) (hw : ws = Cond.code y cc maxL none :: ws') (hlen : (lg_sl As).length ≤ maxL)
    (body : ∀ (p : Program) (e : Env) (s : State) (m : MethodId) (below : List Frame) (meth : Method) (c : Code) (A : Nat → Prop) (Q : State → Prop), p.tables.exec = Jvm.exec → c.code = cc → c.maxLocals = maxL → s.vm.findClass y.cls = some m.cls → (∀ w ∈ ws, w.before As.toArray s = true) → jK g s → va_P g.1 vwCl cs s.heap → va_D A cs → (∀ q, s.heap.size ≤ q → A q) → va_S A s.heap s.heap [] →
      (∀ (H : Heap) (locs : List Loc) (pc : Nat) (ls : Array Slot), va_P g.1 vwCl cn H → va_S A s.heap H locs → decode cc pc = .ok (.return_, 1) → W p l e rm s m As.toArray below meth c H locs 0 0 Q (F0 m pc ls [])) →
      ∀ ls : Array Slot, lv_has ls maxL (lv_args 0 As) → W p l e rm s m As.toArray below meth c s.heap [] 0 0 Q (F0 m 0 ls [])) : Met l y ws rm (jPw g As cs sz) (jQv g cn (va_A cs sz)) 0 0 (va_A cs sz) := by
  refine Met.ofW (cc := cc) (maxL := maxL) (ret := none) hy hw ?_
  intro p e s m args below meth c s₁ B hml hv
  obtain ⟨rfl, hsz, hK, hP, hD0⟩ := hv
  subst hsz
  have hl := lv_entry As (n := maxL) hlen
  have hr := B.returns
  have hlocks := B.notSynchronized
  have hx := B.exec
  have hb := B.bytes
  rw [lg_entry_eq]
  exact body p e s m below meth c (va_A cs s.heap.size) _ hx hb hml (findClass_of_methodNamed B.named) (atoms_spec (ws := ws) B.pre) hK hP hD0.self (fun q h => Or.inr h) va_S.rf (fun H locs pc ls hP hS hd => W.vret hx hb hr (fun t ht hW => ⟨⟨(), rfl, trivial, by show va_P g.1 vwCl cn t.heap; rw [ht]; exact hP⟩, hS.F ht⟩) hS.2.2 hd hlocks) _ hl
