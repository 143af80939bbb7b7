/-! p35: a turn of the law, but for what it changes -/
abbrev zT : Type := Int64 × Int32 × (Nat → Int32) × Int32 × Int32 × (Nat → Int32) × (Nat → Int32) × (Nat → Int32) × (Nat → Int32) × (Nat → Int32) × (Nat → Int32) × (Nat → Int32) × Int32 × Int32 × Int32 × (Nat → Int32) × (Nat → Int32) × (Nat → Int32) × (Nat → Int32) × (Nat → Int32) × (Nat → Int32) × (Nat → Int32) × (Nat → Int32) × Int32 × (Nat → Int32) × (Nat → Int32) × (Nat → Int32) × (Nat → Int64) × (Nat → Int32) × (Nat → Int32) × (Nat → Int32) × (Nat → Int32)
abbrev zR : Type := zT ⊕ (zT ⊕ (zT ⊕ (Int32 × Int64 × Int32 × (Nat → Int32) × Int32 × Int32 × (Nat → Int32) × (Nat → Int32) × (Nat → Int32) × (Nat → Int32) × (Nat → Int32) × (Nat → Int32) × (Nat → Int32) × Int32 × Int32 × Int32 × (Nat → Int32) × (Nat → Int32) × (Nat → Int32) × (Nat → Int32) × (Nat → Int32) × (Nat → Int32) × (Nat → Int32) × (Nat → Int32) × Int32 × (Nat → Int32) × (Nat → Int32) × (Nat → Int32) × (Nat → Int64) × (Nat → Int32) × (Nat → Int32) × (Nat → Int32) × (Nat → Int32))))
abbrev zF : Type := Int64 → Int32 → Int32 → Int32 → Int64 → Int32 → (Nat → Int32) → Int32 → Int32 → (Nat → Int32) → (Nat → Int32) → (Nat → Int32) → (Nat → Int32) → (Nat → Int32) → (Nat → Int32) → (Nat → Int32) → Int32 → Int32 → Int32 → (Nat → Int32) → (Nat → Int32) → (Nat → Int32) → (Nat → Int32) → (Nat → Int32) → (Nat → Int32) → (Nat → Int32) → (Nat → Int32) → Int32 → (Nat → Int32) → (Nat → Int32) → (Nat → Int32) → (Nat → Int64) → (Nat → Int32) → (Nat → Int32) → (Nat → Int32) → (Nat → Int32) → Option zR
def zEnd (X : Option zR) : Prop := ∃ (n : Nat) (o : Int32 × Int64 × Int32 × (Nat → Int32) × Int32 × Int32 × (Nat → Int32) × (Nat → Int32) × (Nat → Int32) × (Nat → Int32) × (Nat → Int32) × (Nat → Int32) × (Nat → Int32) × Int32 × Int32 × Int32 × (Nat → Int32) × (Nat → Int32) × (Nat → Int32) × (Nat → Int32) × (Nat → Int32) × (Nat → Int32) × (Nat → Int32) × (Nat → Int32) × Int32 × (Nat → Int32) × (Nat → Int32) × (Nat → Int32) × (Nat → Int64) × (Nat → Int32) × (Nat → Int32) × (Nat → Int32) × (Nat → Int32)), 1 ≤ n ∧ n ≤ 5 ∧ X = some (.inr (.inr (.inr o))) ∧ o.1 = nI n ∧ o.2.2.2.2.2.1 = nI n
def zInv (z2 : Int64) (z5 z6 : Int32) (B : Int64) (LA : Int32) (cO : Nat → Int32) (GS : Int32) (gr gu gl gd : Nat → Int32) (EI : Int32) (el ea eb lm r u e : Nat → Int32) : Prop := z2 = B ∧ zL z5 LA cO lm ∧ jIs GS gr gu gl gd z6 r u ∧ zE EI el ea eb e
def zGo (self : zF) (z10 : Int32) : Prop := ∀ {z2 : Int64} {z5 z6 : Int32} {B : Int64} {LA : Int32} {cO : Nat → Int32} {GN : Int32} {GS : Int32} {gr : Nat → Int32} {gu : Nat → Int32} {gl : Nat → Int32} {gd : Nat → Int32} {gs : Nat → Int32} {go : Nat → Int32} {gm : Nat → Int32} {KF : Int32} {KN : Int32} {KS : Int32} {kr : Nat → Int32} {ku : Nat → Int32} {kl : Nat → Int32} {kd : Nat → Int32} {ks : Nat → Int32} {ko : Nat → Int32} {km : Nat → Int32} {kc : Nat → Int32} {EI : Int32} {el : Nat → Int32} {ea : Nat → Int32} {eb : Nat → Int32} {em : Nat → Int64} {lm : Nat → Int32} {r : Nat → Int32} {u : Nat → Int32} {e : Nat → Int32}, zInv z2 z5 z6 B LA cO GS gr gu gl gd EI el ea eb lm r u e → zEnd (self z2 z5 z6 z10 B LA cO GN GS gr gu gl gd gs go gm KF KN KS kr ku kl kd ks ko km kc EI el ea eb em lm r u e)
theorem z_and16 (x : Int32) : ∃ n, n < 65536 ∧ x &&& 65535 = nI n := pk_andE x 16 (by decide)
theorem z_fin {self : zF} {n xn : Nat} {R S U W xL xr xs xp xu : Nat → Nat} (z2 : Int64) (z5 z10 z12 : Int32) (B : Int64) (LA : Int32) (cO : Nat → Int32) (GN : Int32) (gr : Nat → Int32) (gu : Nat → Int32) (gl : Nat → Int32) (gd : Nat → Int32) (gs : Nat → Int32) (go : Nat → Int32) (gm : Nat → Int32) (KF : Int32) (KN : Int32) (KS : Int32) (kr : Nat → Int32) (ku : Nat → Int32) (kl : Nat → Int32) (kd : Nat → Int32) (ks : Nat → Int32) (ko : Nat → Int32) (km : Nat → Int32) (kc : Nat → Int32) (el : Nat → Int32) (ea : Nat → Int32) (eb : Nat → Int32) (em : Nat → Int64) (lm : Nat → Int32) (r : Nat → Int32) (u : Nat → Int32) (e : Nat → Int32) (hG : zGo self (z10 + 1)) (n1 : 1 ≤ n) (n5 : n ≤ 5) (hr : sP n R S) (hu : sP n U W) (fr : sR n gr R) (fu : sR n gu U) (fl : sR n gl S) (fd : sR n gd W) (hr2 : sR n r R) (hu2 : sR n u U) (x1 : xn ≤ 6) (x3 : xOk xn el ea eb xL xr xs xp xu) (x4 : eR e xn xL xr xp) (hI : zInv z2 z5 (nI n) B LA cO (nI n) gr gu gl gd (nI xn) el ea eb lm r u e) (t : Int32) : zEnd (jf_Lw_law_b1287 self B LA cO GN (nI n) gr gu gl gd gs go gm KF KN KS kr ku kl kd ks ko km kc (nI xn) el ea eb em lm r u e z2 z5 (nI n) z10 z12 (nI n) t) := by
  obtain ⟨q, eq⟩ := x_surface n1 n5 hr hu fr fu fl fd hr2 hu2 GN go gm KF KN KS kr ku kl kd ks ko km kc t
  obtain ⟨bits, ex⟩ := x_law x1 x3 x4 em z12
  unfold jf_Lw_law_b1287
  rw [eq]
  simp only [Option.bind]
  rw [if_neg (show ¬ (1 : Int32) = 0 by decide), ex]
  simp only []
  rw [if_neg (show ¬ (1 : Int32) = 0 by decide)]
  exact hG hI
theorem z_check {self : zF} (z2 : Int64) (z5 z6 z10 z11 z12 : Int32) (B : Int64) (LA : Int32) (cO : Nat → Int32) (GN : Int32) (GS : Int32) (gr : Nat → Int32) (gu : Nat → Int32) (gl : Nat → Int32) (gd : Nat → Int32) (gs : Nat → Int32) (go : Nat → Int32) (gm : Nat → Int32) (KF : Int32) (KN : Int32) (KS : Int32) (kr : Nat → Int32) (ku : Nat → Int32) (kl : Nat → Int32) (kd : Nat → Int32) (ks : Nat → Int32) (ko : Nat → Int32) (km : Nat → Int32) (kc : Nat → Int32) (EI : Int32) (el : Nat → Int32) (ea : Nat → Int32) (eb : Nat → Int32) (em : Nat → Int64) (lm : Nat → Int32) (r : Nat → Int32) (u : Nat → Int32) (e : Nat → Int32) (hG : zGo self (z10 + 1)) (h : zInv z2 z5 z6 B LA cO GS gr gu gl gd EI el ea eb lm r u e) : zEnd (jf_Lw_law_b1084 self B LA cO GN GS gr gu gl gd gs go gm KF KN KS kr ku kl kd ks ko km kc EI el ea eb em lm r u e z2 z5 z6 z10 z11 z12 1) := by
  have hI := h
  obtain ⟨hB, hL, hS, hE⟩ := h
  subst hB
  obtain ⟨nl, L, l1, l2, l3, l4⟩ := hL
  subst l2
  subst l3
  obtain ⟨n, n1, n5, e1, e2, hpr, hpu, hk⟩ := hS
  subst e1
  subst e2
  obtain ⟨R, S, hr, fr, fl⟩ := jPm_sP hpr
  obtain ⟨U, W, hu, fu, fd⟩ := jPm_sP hpu
  have hr2 : sR n r R := sR_eq fr (fun k h => (hk k h).1)
  have hu2 : sR n u U := sR_eq fu (fun k h => (hk k h).2)
  obtain ⟨xn, xL, xr, xs, xp, xu, x1, x2, x3, x4⟩ := zE_ok hE
  subst x2
  obtain ⟨a, ha, ea1⟩ := z_low512 (z11 >>> (3 &&& 31))
  obtain ⟨w, hw, ew⟩ := z_and16 z12
  unfold jf_Lw_law_b1084
  rw [if_neg (show ¬ (1 : Int32) = 0 by decide), ea1]
  simp only [Option.bind]
  rw [ew, q_shot _ ha hw]
  simp only []
  rw [if_neg (show ¬ (1 : Int32) = 0 by decide), show jf_Lw_law_L1117 _ _ (nI nl) (nI n) z10 z11 z12 6 0 = some (.inr ()) from z_sees _ _ _ _ _ _ 4 0 6 (by omega) (by omega)]
  simp only [jsum]
  rw [a_law _ l1 (fun k hk2 => ⟨(l4 k hk2).1, (l4 k hk2).2.2⟩) (fun k hk2 => ⟨(l4 k hk2).1, (l4 k hk2).2.1⟩)]
  simp only []
  rw [if_neg (show ¬ (1 : Int32) = 0 by decide)]
  split
  · exact z_fin _ _ _ _ _ _ _ _ _ _ _ _ _ _ _ _ _ _ _ _ _ _ _ _ _ _ _ _ _ _ _ _ _ _ hG n1 n5 hr hu fr fu fl fd hr2 hu2 x1 x3 x4 hI 1
  · exact z_fin _ _ _ _ _ _ _ _ _ _ _ _ _ _ _ _ _ _ _ _ _ _ _ _ _ _ _ _ _ _ _ _ _ _ hG n1 n5 hr hu fr fu fl fd hr2 hu2 x1 x3 x4 hI 0
