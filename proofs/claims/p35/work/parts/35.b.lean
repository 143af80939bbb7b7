/-! p35: flat ROWS, and CYLINDERS -/
def rowOk (n : Nat) (r u g : Nat → Nat) (W : Nat → Nat) : Prop := ∀ k, k < n → W k < 2 ^ n ∧ ∀ x, x < n → sHas (W k) x = sD n (sE n r u g 3) k x
theorem w_flat1 {n k : Nat} {right up row : Nat → Int32} {r s u w W : Nat → Nat} (hn : n ≤ 5) (hr : sP n r s) (hu : sP n u w) (fr : sR n right r) (fu : sR n up u) (hk : k < n) (hW : sR n row W) (hW2 : W k < 2 ^ n) (z4 z5 z6 z7 : Int32) : ∀ d i m f (b : Bool), i + d = n → d < m → f k = (if b then 1 else 0) → ∃ (f' : Nat → Int32) (b' : Bool), jf_Lw_isSurface_L268 right up row (nI n) z4 z5 z6 z7 (nI k) m (nI i) f = some f' ∧ f' k = (if b' then 1 else 0) ∧ (∀ x, x ≠ k → f' x = f x) ∧ (b' = true ↔ b = true ∧ ∀ i', i ≤ i' → i' < n → sHas (W k) i' = true → sG r s u w i' = i') := by
  have h32 := f_32 hn hW2
  have jk : jin (nI k) 5 = true := jin_nI (by omega) (by decide)
  intro d
  induction d with
  | zero =>
    intro i m f b e hm hf
    obtain ⟨q, rfl⟩ : ∃ q, m = q + 1 := ⟨m - 1, by omega⟩
    exact ⟨f, b, by rw [jf_Lw_isSurface_L268, if_pos (nI_le (by omega) (by omega))], hf, fun _ _ => rfl, fun h => ⟨h, fun i' h1 h2 => by omega⟩, fun h => h.1⟩
  | succ d ih =>
    intro i m f b e hm hf
    obtain ⟨q, rfl⟩ : ∃ q, m = q + 1 := ⟨m - 1, by omega⟩
    have hi : i < n := by omega
    have ri := (hr i hi).1
    rw [jf_Lw_isSurface_L268, if_neg (nI_ge hi (by omega)), if_pos jk, nI_clamp (by omega), hW k hk, sBit h32 (by omega)]
    unfold jf_Lw_isSurface_b313
    rw [nI_1]
    cases g : sHas (W k) i with
    | false =>
      rw [if_neg (by decide)]
      obtain ⟨f', b', e1, e2, e3, e4⟩ := ih (i + 1) q f b (by omega) (by omega) hf
      refine ⟨f', b', e1, e2, e3, ?_⟩
      rw [e4]
      refine and_congr_right (fun _ => ⟨fun h i' h1 h2 h3 => ?_, fun h i' h1 => h i' (by omega)⟩)
      by_cases c : i' = i
      · subst c; rw [g] at h3; cases h3
      · exact h i' (by omega) h2 h3
    | true =>
      rw [if_pos (by decide), if_pos (jin_nI (by omega) (by decide)), nI_clamp (by omega), fr i hi, if_pos (jin_nI (by omega) (by decide)), nI_clamp (by omega), fu _ ri, p_before (σ := s) (τ := r) hn (sP_inv hr) fr (hu _ ri).1]
      simp only [Option.bind]
      rw [p_before (σ := w) (τ := u) hn (sP_inv hu) fu (hr _ (hu _ ri).1).2.1]
      simp only []
      have hg := (sG_P hr hu i hi).1
      show ∃ (f' : Nat → Int32) (b' : Bool), (if nI (sG r s u w i) = nI i then _ else _) = some f' ∧ _
      by_cases c : sG r s u w i = i
      · rw [if_pos (by rw [c])]
        obtain ⟨f', b', e1, e2, e3, e4⟩ := ih (i + 1) q f b (by omega) (by omega) hf
        refine ⟨f', b', e1, e2, e3, ?_⟩
        rw [e4]
        refine and_congr_right (fun _ => ⟨fun h i' h1 h2 h3 => ?_, fun h i' h1 => h i' (by omega)⟩)
        by_cases c2 : i' = i
        · subst c2; exact c
        · exact h i' (by omega) h2 h3
      · rw [if_neg (fun z => c ((nI_eq (by omega) (by omega)).1 z)), if_pos jk]
        obtain ⟨f', b', e1, e2, e3, e4⟩ := ih (i + 1) q (upd f k 0) false (by omega) (by omega) (upd_at _ _ _)
        refine ⟨f', b', e1, e2, fun x hx => by rw [e3 x hx, upd_ne _ _ hx], ?_⟩
        rw [e4]
        exact ⟨fun h => (by cases h.1), fun h => absurd (h.2 i (Nat.le_refl i) hi g) c⟩
theorem w_flatIff {n k : Nat} {r s u w : Nat → Nat} (hn : n ≤ 5) (hr : sP n r s) (hu : sP n u w) (hk : k < n) : (∀ i, i < n → sD n (sE n r u (sG r s u w) 3) k i = true → sG r s u w i = i) ↔ sFlat n r (sG r s u w) k = true := by
  have hE := sE_in (what := 3) hr hu (sG_P hr hu)
  unfold sFlat
  rw [jall_iff]
  constructor
  · intro h t ht
    refine beq_iff_eq.mpr (h _ (s_itlt hr hk t) ((sD_at hn hE k _ hk (s_itlt hr hk t)).2 (fun S hS => ?_)))
    clear ht
    induction t with
    | zero => rfl
    | succ t ih =>
      rw [ih]
      exact hS _ (s_itlt hr hk t) _ (by rw [sE3]; exact List.mem_singleton.2 rfl)
  · intro h i hi hd
    obtain ⟨p, hp, h5⟩ := s_per hr hk
    have hrel := (sD_at hn hE k i hk hi).1 hd
    obtain ⟨t, ht, rfl⟩ := (sO_iff r k i p).1 ((sO_rel (E := sE n r u (sG r s u w) 3) hr (fun a _ => sE3 a) hk hp hi).2 hrel)
    exact eq_of_beq (h t (by omega))
theorem w_flat {n : Nat} {right up row : Nat → Int32} {r s u w W : Nat → Nat} (hn : n ≤ 5) (hr : sP n r s) (hu : sP n u w) (fr : sR n right r) (fu : sR n up u) (hW : sR n row W) (hO : rowOk n r u (sG r s u w) W) (z4 z5 z6 z7 : Int32) : ∀ d k m f, k + d = n → d < m → (∀ x, x < k → f x = if sFlat n r (sG r s u w) x then 1 else 0) → ∃ f', jf_Lw_isSurface_L253 right up row (nI n) z4 z5 z6 z7 m (nI k) f = some f' ∧ ∀ x, x < n → f' x = if sFlat n r (sG r s u w) x then 1 else 0 := by
  intro d
  induction d with
  | zero =>
    intro k m f e hm hf
    obtain ⟨q, rfl⟩ : ∃ q, m = q + 1 := ⟨m - 1, by omega⟩
    exact ⟨f, by rw [jf_Lw_isSurface_L253, if_pos (nI_le (by omega) (by omega))], fun x hx => hf x (by omega)⟩
  | succ d ih =>
    intro k m f e hm hf
    obtain ⟨q, rfl⟩ : ∃ q, m = q + 1 := ⟨m - 1, by omega⟩
    have hk : k < n := by omega
    obtain ⟨w1, w2⟩ := hO k hk
    obtain ⟨f', b', e1, e2, e3, e4⟩ := w_flat1 hn hr hu fr fu hk hW w1 z4 z5 z6 z7 n 0 jF (upd f k 1) true (by omega) (jF_gt (by omega)) (upd_at _ _ _)
    have hb : b' = sFlat n r (sG r s u w) k := by
      rw [Bool.eq_iff_iff, e4, ← w_flatIff hn hr hu hk]
      exact ⟨fun h i hi hd => h.2 i (Nat.zero_le i) hi (by rw [w2 i hi]; exact hd), fun h => ⟨rfl, fun i _ hi hd => h i hi (by rw [← w2 i hi]; exact hd)⟩⟩
    rw [jf_Lw_isSurface_L253, if_neg (nI_ge hk (by omega)), if_pos (jin_nI (by omega) (by decide)), nI_clamp (by omega), show jf_Lw_isSurface_L268 right up row (nI n) z4 z5 z6 z7 (nI k) jF 0 (upd f k 1) = some f' from e1]
    simp only [Option.bind]
    rw [nI_1]
    refine ih (k + 1) q f' (by omega) (by omega) (fun x hx => ?_)
    by_cases c : x = k
    · subst c; rw [e2, hb]
    · rw [e3 x c, upd_ne _ _ c]; exact hf x (by omega)
theorem orOk0 : jall 6 (fun n => jall (2 ^ n) (fun A => jall (2 ^ n) (fun B => decide (A ||| B < 2 ^ n)))) = true := by decide +kernel
theorem orOk {n A B : Nat} (hn : n ≤ 5) (hA : A < 2 ^ n) (hB : B < 2 ^ n) : A ||| B < 2 ^ n := of_decide_eq_true (jall_at (jall_at (jall_at orOk0 n (by omega)) A hA) B hB)
/-- what a look at some flat ROWS keeps -/
def yOk (n : Nat) (r u g : Nat → Nat) (lo : Nat) (S S' : Nat) : Prop := S' < 2 ^ n ∧ (∀ x, x < n → sHas S x = true → sHas S' x = true) ∧ (∀ i, lo ≤ i → i < n → sFlat n r g i = true → (sHas S i = true ∨ sHas S (u i) = true) → sHas S' i = true ∧ sHas S' (u i) = true) ∧ (∀ T : Nat → Bool, sClosed n (sE n r u g 4) T → (∀ x, x < n → sHas S x = true → T x = true) → ∀ x, x < n → sHas S' x = true → T x = true) ∧ (sClosed n (sE n r u g 3) (sHas S) → sClosed n (sE n r u g 3) (sHas S'))
theorem sE4_r {n : Nat} {r u g : Nat → Nat} (a : Nat) : r a ∈ sE n r u g 4 a := by rw [sE4]; split <;> exact List.mem_cons_self
theorem sE4_u {n : Nat} {r u g : Nat → Nat} {a : Nat} (h : sFlat n r g a = true) : u a ∈ sE n r u g 4 a := by rw [sE4, if_pos h]; exact List.mem_cons_of_mem _ (List.mem_singleton.2 rfl)
theorem closed_43 {n : Nat} {r u g : Nat → Nat} {T : Nat → Bool} (h : sClosed n (sE n r u g 4) T) : sClosed n (sE n r u g 3) T := fun a ha b hb => by
  rw [sE3, List.mem_singleton] at hb
  subst hb
  exact h a ha _ (sE4_r a)
theorem y_pass {n : Nat} {up row flat : Nat → Int32} {r s u w W : Nat → Nat} (hn : n ≤ 5) (hr : sP n r s) (hu : sP n u w) (fu : sR n up u) (hW : sR n row W) (hO : rowOk n r u (sG r s u w) W) (hf : ∀ x, x < n → flat x = if sFlat n r (sG r s u w) x then 1 else 0) (z4 z5 z6 z7 z10 z11 z12 z14 : Int32) : ∀ d i m S, i + d = n → d < m → S < 2 ^ n → ∃ S', jf_Lw_isSurface_L377 up row flat (nI n) z4 z5 z6 z7 z10 z11 z12 z14 m (nI S) (nI i) = some (nI S') ∧ yOk n r u (sG r s u w) i S S' := by
  have hE := sE_in (what := 3) hr hu (sG_P hr hu)
  intro d
  induction d with
  | zero =>
    intro i m S e hm hS
    obtain ⟨q, rfl⟩ : ∃ q, m = q + 1 := ⟨m - 1, by omega⟩
    exact ⟨S, by rw [jf_Lw_isSurface_L377, if_pos (nI_le (by omega) (by omega))], hS, fun _ _ h => h, fun i' h1 h2 => by omega, fun _ _ h => h, fun h => h⟩
  | succ d ih =>
    intro i m S e hm hS
    obtain ⟨q, rfl⟩ : ∃ q, m = q + 1 := ⟨m - 1, by omega⟩
    have hi : i < n := by omega
    have ui := (hu i hi).1
    have h32 := f_32 hn hS
    have ji : jin (nI i) 5 = true := jin_nI (by omega) (by decide)
    have ju : jin (nI (u i)) 5 = true := jin_nI (by omega) (by decide)
    obtain ⟨wi1, wi2⟩ := hO i hi
    obtain ⟨wu1, wu2⟩ := hO (u i) ui
    have wo := orOk hn wi1 wu1
    have so := orOk hn hS wo
    rw [jf_Lw_isSurface_L377, if_neg (nI_ge hi (by omega)), if_pos ji, nI_clamp (by omega), hf i hi]
    have skip : ∃ S', jf_Lw_isSurface_L377 up row flat (nI n) z4 z5 z6 z7 z10 z11 z12 z14 q (nI S) (nI (i + 1)) = some (nI S') ∧ yOk n r u (sG r s u w) (i + 1) S S' := ih (i + 1) q S (by omega) (by omega) hS
    by_cases cf : sFlat n r (sG r s u w) i = true
    · rw [if_pos cf, if_pos rfl, sBit h32 (by omega), if_pos ji, fu i hi, sBit h32 (by omega)]
      by_cases c : sHas S i = true ∨ sHas S (u i) = true
      · obtain ⟨S', e1, b1, b2, b3, b4, b5⟩ := ih (i + 1) q (S ||| (W i ||| W (u i))) (by omega) (by omega) so
        have o1 := sOr (f_32 hn wi1) (f_32 hn wu1)
        have o2 := sOr h32 (f_32 hn wo)
        have t416 : jf_Lw_isSurface_b416 (jf_Lw_isSurface_L377 up row flat (nI n) z4 z5 z6 z7 z10 z11 z12 z14 q) up row flat (nI n) z4 z5 z6 z7 z10 z11 z12 (nI S) z14 (nI i) = some (nI S') := by
          unfold jf_Lw_isSurface_b416 jf_Lw_isSurface_b434
          rw [if_pos ji, if_pos ji, nI_clamp (by omega), fu i hi, if_pos ju, nI_clamp (by omega), hW i hi, hW _ ui, o1.2.1, o2.2.1]
          simp only [jlet]
          rw [nI_1]
          exact e1
        have hin : ∀ x, x < n → (sHas (S ||| (W i ||| W (u i))) x = true ↔ sHas S x = true ∨ sHas (W i) x = true ∨ sHas (W (u i)) x = true) := fun x hx => by
          rw [o2.2.2 x (by omega), o1.2.2 x (by omega), Bool.or_eq_true, Bool.or_eq_true]
        have selfW : ∀ a, a < n → sHas (W a) a = true := fun a ha => by
          rw [(hO a ha).2 a ha]; exact (sD_at hn hE a a ha ha).2 (fun S hS => rfl)
        refine ⟨S', ?_, b1, fun x hx h => b2 x hx ((hin x hx).2 (Or.inl h)), fun i' h1 h2 h3 h4 => ?_, fun T hT h x hx hx2 => ?_, fun h => ?_⟩
        · rcases c with c | c
          · rw [if_pos (by rw [c]; rfl)]; exact t416
          · by_cases c2 : sHas S i = true
            · rw [if_pos (by rw [c2]; rfl)]; exact t416
            · have c3 : sHas S i = false := by
                cases h : sHas S i with
                | false => rfl
                | true => exact absurd h c2
              rw [if_neg (by rw [c3]; decide), if_pos (by rw [c]; rfl)]; exact t416
        · by_cases c2 : i' = i
          · subst c2
            exact ⟨b2 _ hi ((hin _ hi).2 (Or.inr (Or.inl (selfW _ hi)))), b2 _ ui ((hin _ ui).2 (Or.inr (Or.inr (selfW _ ui))))⟩
          · refine b3 i' (by omega) h2 h3 ?_
            rcases h4 with h4 | h4
            · exact Or.inl ((hin i' h2).2 (Or.inl h4))
            · exact Or.inr ((hin _ (hu i' h2).1).2 (Or.inl h4))
        · refine b4 T hT (fun y hy hy2 => ?_) x hx hx2
          have hT3 := closed_43 hT
          have hTi : T i = T (u i) := hT i hi _ (sE4_u cf)
          have hT1 : T i = true ∧ T (u i) = true := by
            rcases c with c | c
            · have := h i hi c; exact ⟨this, hTi ▸ this⟩
            · have := h (u i) ui c; exact ⟨hTi.trans this, this⟩
          rcases (hin y hy).1 hy2 with z | z | z
          · exact h y hy z
          · rw [wi2 y hy] at z
            rw [← (sD_at hn hE i y hi hy).1 z T hT3]; exact hT1.1
          · rw [wu2 y hy] at z
            rw [← (sD_at hn hE (u i) y ui hy).1 z T hT3]; exact hT1.2
        · refine b5 (fun a ha b hb => ?_)
          have hbn := hE a ha b hb
          have hab : sRel n (sE n r u (sG r s u w) 3) a b := fun T hT => hT a ha b hb
          have key : ∀ k, k < n → sHas (W k) a = sHas (W k) b := fun k hk => by
            rw [(hO k hk).2 a ha, (hO k hk).2 b hbn, Bool.eq_iff_iff, sD_at hn hE k a hk ha, sD_at hn hE k b hk hbn]
            exact ⟨fun z => sRel_trans z hab, fun z => sRel_trans z (sRel_symm hab)⟩
          rw [o2.2.2 a (by omega), o1.2.2 a (by omega), o2.2.2 b (by omega), o1.2.2 b (by omega), h a ha b hb, key i hi, key (u i) ui]
      · have c1 : sHas S i = false := Bool.not_eq_true _ ▸ fun z => c (Or.inl z)
        have c2 : sHas S (u i) = false := Bool.not_eq_true _ ▸ fun z => c (Or.inr z)
        obtain ⟨S', e1, b1, b2, b3, b4, b5⟩ := skip
        refine ⟨S', ?_, b1, b2, fun i' h1 h2 h3 h4 => ?_, b4, b5⟩
        · rw [if_neg (by rw [c1]; decide), if_neg (by rw [c2]; decide)]
          unfold jf_Lw_isSurface_b434
          rw [nI_1]
          exact e1
        · by_cases d2 : i' = i
          · subst d2; exact absurd h4 c
          · exact b3 i' (by omega) h2 h3 h4
    · obtain ⟨S', e1, b1, b2, b3, b4, b5⟩ := skip
      refine ⟨S', ?_, b1, b2, fun i' h1 h2 h3 h4 => ?_, b4, b5⟩
      · rw [if_neg cf, if_neg (by decide)]
        unfold jf_Lw_isSurface_b434
        rw [nI_1]
        exact e1
      · by_cases d2 : i' = i
        · subst d2; exact absurd h3 cf
        · exact b3 i' (by omega) h2 h3 h4
theorem y_passes {n : Nat} {up row flat : Nat → Int32} {r s u w W : Nat → Nat} (hn : n ≤ 5) (hr : sP n r s) (hu : sP n u w) (fu : sR n up u) (hW : sR n row W) (hO : rowOk n r u (sG r s u w) W) (hf : ∀ x, x < n → flat x = if sFlat n r (sG r s u w) x then 1 else 0) (z4 z5 z6 z7 z10 z11 z12 : Int32) : ∀ d t m S, t + d = 10 → d < m → S < 2 ^ n → sClosed n (sE n r u (sG r s u w) 3) (sHas S) → ∃ S', jf_Lw_isSurface_L367 up row flat (nI n) z4 z5 z6 z7 z10 z11 z12 m (nI S) (nI t) = some (nI S') ∧ S' < 2 ^ n ∧ (∀ x, x < n → sHas S x = true → sHas S' x = true) ∧ (∀ T : Nat → Bool, sClosed n (sE n r u (sG r s u w) 4) T → (∀ x, x < n → sHas S x = true → T x = true) → ∀ x, x < n → sHas S' x = true → T x = true) ∧ (sClosed n (sE n r u (sG r s u w) 4) (sHas S') ∨ jcnt n (sHas S) + d ≤ jcnt n (sHas S')) := by
  have hE3 := sE_in (what := 3) hr hu (sG_P hr hu)
  have hE4 := sE_in (what := 4) hr hu (sG_P hr hu)
  intro d
  induction d with
  | zero =>
    intro t m S e hm hS h3
    obtain ⟨q, rfl⟩ : ∃ q, m = q + 1 := ⟨m - 1, by omega⟩
    have : t = 10 := by omega
    subst this
    exact ⟨S, by rw [jf_Lw_isSurface_L367, if_pos (by decide)], hS, fun _ _ h => h, fun _ _ h => h, Or.inr (Nat.le_refl _)⟩
  | succ d ih =>
    intro t m S e hm hS h3
    obtain ⟨q, rfl⟩ : ∃ q, m = q + 1 := ⟨m - 1, by omega⟩
    obtain ⟨S1, e1, a1, a2, a3, a4, a5⟩ := y_pass hn hr hu fu hW hO hf z4 z5 z6 z7 z10 z11 z12 (nI t) n 0 jF S (by omega) (jF_gt (by omega)) hS
    obtain ⟨S', e2, b1, b2, b3, b4⟩ := ih (t + 1) q S1 (by omega) (by omega) a1 (a5 h3)
    refine ⟨S', ?_, b1, fun x hx h => b2 x hx (a2 x hx h), fun T hT h => b3 T hT (a4 T hT h), ?_⟩
    · rw [jf_Lw_isSurface_L367, if_neg (ge_10 (by omega)), show jf_Lw_isSurface_L377 up row flat (nI n) z4 z5 z6 z7 z10 z11 z12 (nI t) jF (nI S) 0 = some (nI S1) from e1]
      simp only [Option.bind]
      rw [nI_1]
      exact e2
    · by_cases c : ∃ y, y < n ∧ sHas S y = false ∧ sHas S1 y = true
      · obtain ⟨y, hy, c1, c2⟩ := c
        have := jcnt_more a2 hy c1 c2
        rcases b4 with b4 | b4
        · exact Or.inl b4
        · right; omega
      · left
        have same1 : ∀ x, x < n → sHas S1 x = true → sHas S x = true := fun x hx h => by
          cases g : sHas S x with
          | true => rfl
          | false => exact absurd ⟨x, hx, g, h⟩ c
        have hc : sClosed n (sE n r u (sG r s u w) 4) (sHas S) := fun a ha b hb => by
          rw [sE4] at hb
          have hra : sHas S a = sHas S (r a) := h3 a ha _ (by rw [sE3]; exact List.mem_singleton.2 rfl)
          by_cases cf : sFlat n r (sG r s u w) a = true
          · rw [if_pos cf, List.mem_cons, List.mem_singleton] at hb
            rcases hb with rfl | rfl
            · exact hra
            · rw [Bool.eq_iff_iff]
              exact ⟨fun z => same1 _ (hu a ha).1 (a3 a (Nat.zero_le a) ha cf (Or.inl z)).2, fun z => same1 a ha (a3 a (Nat.zero_le a) ha cf (Or.inr z)).1⟩
          · rw [if_neg cf, List.mem_singleton] at hb
            subst hb; exact hra
        have same : ∀ x, x < n → sHas S' x = sHas S x := fun x hx => by
          rw [Bool.eq_iff_iff]
          exact ⟨b3 (sHas S) hc same1 x hx, fun h => b2 x hx (a2 x hx h)⟩
        intro a ha b hb
        rw [same a ha, same b (hE4 a ha b hb)]
        exact hc a ha b hb
theorem y_group {n k : Nat} {up row flat : Nat → Int32} {r s u w W : Nat → Nat} (hn : n ≤ 5) (hr : sP n r s) (hu : sP n u w) (fu : sR n up u) (hW : sR n row W) (hO : rowOk n r u (sG r s u w) W) (hf : ∀ x, x < n → flat x = if sFlat n r (sG r s u w) x then 1 else 0) (hk : k < n) (z4 z5 z6 z7 z10 z11 z12 : Int32) : ∃ S', jf_Lw_isSurface_L367 up row flat (nI n) z4 z5 z6 z7 z10 z11 z12 jF (nI (W k)) 0 = some (nI S') ∧ S' < 2 ^ n ∧ ∀ x, x < n → sHas S' x = sD n (sE n r u (sG r s u w) 4) k x := by
  have hE3 := sE_in (what := 3) hr hu (sG_P hr hu)
  have hE4 := sE_in (what := 4) hr hu (sG_P hr hu)
  obtain ⟨w1, w2⟩ := hO k hk
  have h3 : sClosed n (sE n r u (sG r s u w) 3) (sHas (W k)) := fun a ha b hb => by
    have hbn := hE3 a ha b hb
    have hab : sRel n (sE n r u (sG r s u w) 3) a b := fun T hT => hT a ha b hb
    rw [w2 a ha, w2 b hbn, Bool.eq_iff_iff, sD_at hn hE3 k a hk ha, sD_at hn hE3 k b hk hbn]
    exact ⟨fun z => sRel_trans z hab, fun z => sRel_trans z (sRel_symm hab)⟩
  obtain ⟨S', e1, b1, b2, b3, b4⟩ := y_passes hn hr hu fu hW hO hf z4 z5 z6 z7 z10 z11 z12 10 0 jF (W k) (by omega) (jF_gt (by omega)) w1 h3
  have hkk : sHas (W k) k = true := by rw [w2 k hk]; exact (sD_at hn hE3 k k hk hk).2 (fun S hS => rfl)
  have hc : sClosed n (sE n r u (sG r s u w) 4) (sHas S') := by
    rcases b4 with b4 | b4
    · exact b4
    · have := jcnt_le n (sHas S'); omega
  refine ⟨S', e1, b1, fun x hx => ?_⟩
  rw [Bool.eq_iff_iff, sD_at hn hE4 k x hk hx]
  constructor
  · intro h T hT
    have sub : ∀ T' : Nat → Bool, sClosed n (sE n r u (sG r s u w) 4) T' → T' k = true → T' x = true := fun T' hT' hk' => b3 T' hT' (fun y hy z => by
      rw [w2 y hy] at z
      rw [← (sD_at hn hE3 k y hk hy).1 z T' (closed_43 hT')]; exact hk') x hx h
    cases c : T k with
    | true => exact (sub T hT c).symm
    | false =>
      have := sub (fun y => !T y) (fun a ha b hb => by show (!T a) = (!T b); rw [hT a ha b hb]) (by show (!T k) = true; rw [c]; rfl)
      exact (jnot this).symm
  · intro h
    rw [← h _ hc]
    exact b2 k hk hkk
theorem y_cyls {n : Nat} {up row flat : Nat → Int32} {r s u w W : Nat → Nat} (hn : n ≤ 5) (hr : sP n r s) (hu : sP n u w) (fu : sR n up u) (hW : sR n row W) (hO : rowOk n r u (sG r s u w) W) (hf : ∀ x, x < n → flat x = if sFlat n r (sG r s u w) x then 1 else 0) (z4 z5 z6 z7 : Int32) : ∀ d k m M, k + d = n → d < m → M < 2 ^ n → (∀ x, x < n → (sHas M x = true ↔ ∃ i, i < k ∧ sD n (sE n r u (sG r s u w) 4) i x = true)) → jf_Lw_isSurface_L334 up row flat (nI n) z4 z5 z6 z7 m (nI (jcnt k (fun x => jall x (fun i => !sD n (sE n r u (sG r s u w) 4) i x)))) (nI M) (nI k) = some (nI (sMany n (sE n r u (sG r s u w) 4))) := by
  have hE4 := sE_in (what := 4) hr hu (sG_P hr hu)
  intro d
  induction d with
  | zero =>
    intro k m M e hm hM h
    obtain ⟨q, rfl⟩ : ∃ q, m = q + 1 := ⟨m - 1, by omega⟩
    have : k = n := by omega
    subst this
    rw [jf_Lw_isSurface_L334, if_pos (nI_le (Nat.le_refl k) (by omega))]
    rfl
  | succ d ih =>
    intro k m M e hm hM h
    obtain ⟨q, rfl⟩ : ∃ q, m = q + 1 := ⟨m - 1, by omega⟩
    have hk : k < n := by omega
    have h32 := f_32 hn hM
    have e3 : jcnt (k + 1) (fun x => jall x (fun i => !sD n (sE n r u (sG r s u w) 4) i x)) = jcnt k (fun x => jall x (fun i => !sD n (sE n r u (sG r s u w) 4) i x)) + (if jall k (fun i => !sD n (sE n r u (sG r s u w) 4) i k) then 1 else 0) := rfl
    have hno : jall k (fun i => !sD n (sE n r u (sG r s u w) 4) i k) = !sHas M k := by
      rw [Bool.eq_iff_iff, jall_iff]
      constructor
      · intro z
        cases c : sHas M k with
        | false => rfl
        | true =>
          obtain ⟨i, i1, i2⟩ := (h k hk).1 c
          have := z i i1
          rw [i2] at this; cases this
      · intro z i i1
        cases c : sD n (sE n r u (sG r s u w) 4) i k with
        | false => rfl
        | true =>
          have := (h k hk).2 ⟨i, i1, c⟩
          rw [this] at z; cases z
    rw [hno] at e3
    rw [jf_Lw_isSurface_L334, if_neg (nI_ge hk (by omega)), sBit h32 (by omega)]
    unfold jf_Lw_isSurface_b453
    rw [nI_1]
    cases g : sHas M k with
    | true =>
      rw [g] at e3
      rw [if_pos (by decide)]
      have i1 := ih (k + 1) q M (by omega) (by omega) hM (fun x hx => by
        rw [h x hx]
        constructor
        · rintro ⟨i, a, c⟩; exact ⟨i, by omega, c⟩
        · rintro ⟨i, a, c⟩
          by_cases c2 : i = k
          · subst c2
            obtain ⟨i0, a0, c0⟩ := (h i hk).1 g
            exact ⟨i0, a0, (sD_at hn hE4 i0 x (by omega) hx).2 (sRel_trans ((sD_at hn hE4 i0 i (by omega) hk).1 c0) ((sD_at hn hE4 i x hk hx).1 c))⟩
          · exact ⟨i, by omega, c⟩)
      rw [e3] at i1
      exact i1
    | false =>
      rw [g] at e3
      obtain ⟨S', s1, s2, s3⟩ := y_group hn hr hu fu hW hO hf hk z4 z5 z6 z7 (nI (jcnt k (fun x => jall x (fun i => !sD n (sE n r u (sG r s u w) 4) i x))) + 1) (nI M) (nI k)
      have o := sOr h32 (f_32 hn s2)
      rw [if_neg (by decide), if_pos (jin_nI (by omega) (by decide)), nI_clamp (by omega), hW k hk]
      simp only [jlet]
      rw [s1]
      simp only [Option.bind]
      rw [o.2.1, nI_1]
      have i1 := ih (k + 1) q (M ||| S') (by omega) (by omega) (orOk hn hM s2) (fun x hx => by
        rw [o.2.2 x (by omega), Bool.or_eq_true, h x hx, s3 x hx]
        constructor
        · rintro (⟨i, a, c⟩ | c)
          · exact ⟨i, by omega, c⟩
          · exact ⟨k, by omega, c⟩
        · rintro ⟨i, a, c⟩
          by_cases c2 : i = k
          · subst c2; exact Or.inr c
          · exact Or.inl ⟨i, by omega, c⟩)
      rw [e3] at i1
      exact i1
