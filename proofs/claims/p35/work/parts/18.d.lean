/-! the class's groups -/
def sG (r s u w : Nat → Nat) (k : Nat) : Nat := w (s (u (r k)))
def sG' (r s u w : Nat → Nat) (k : Nat) : Nat := s (w (r (u k)))
theorem sG_P {n : Nat} {r s u w : Nat → Nat} (hr : sP n r s) (hu : sP n u w) : sP n (sG r s u w) (sG' r s u w) := by
  have h := sP_comp (sP_comp (sP_comp hr hu) (sP_inv hr)) (sP_inv hu)
  exact h
def sFlat (n : Nat) (r g : Nat → Nat) (k : Nat) : Bool := jall n (fun t => g (jit r t k) == jit r t k)
theorem jall_iff {n : Nat} {f : Nat → Bool} : jall n f = true ↔ ∀ k, k < n → f k = true := by
  constructor
  · exact jall_at
  · intro h
    induction n with
    | zero => rfl
    | succ n ih => rw [jall, h n (by omega), ih (fun k hk => h k (by omega))]; rfl
def sE (n : Nat) (r u g : Nat → Nat) (what a : Nat) : List Nat := if what = 1 then [g a] else if what = 2 then [r a, u a] else if what = 4 ∧ sFlat n r g a = true then [r a, u a] else [r a]
theorem sE4 {n : Nat} {r u g : Nat → Nat} (a : Nat) : sE n r u g 4 a = if sFlat n r g a = true then [r a, u a] else [r a] := by
  unfold sE
  rw [if_neg (by decide), if_neg (by decide)]
  by_cases c : sFlat n r g a = true
  · rw [if_pos ⟨rfl, c⟩, if_pos c]
  · rw [if_neg (fun h => c h.2), if_neg c]
theorem sE_in {n : Nat} {r s u w g g' : Nat → Nat} (hr : sP n r s) (hu : sP n u w) (hg : sP n g g') (what : Nat) : sEin n (sE n r u g what) := by
  intro a ha b hb
  have h1 := (hr a ha).1
  have h2 := (hu a ha).1
  have h3 := (hg a ha).1
  unfold sE at hb
  split at hb
  · rw [List.mem_singleton] at hb; omega
  · split at hb
    · rw [List.mem_cons, List.mem_singleton] at hb; omega
    · split at hb
      · rw [List.mem_cons, List.mem_singleton] at hb; omega
      · rw [List.mem_singleton] at hb; omega
theorem c_round {n : Nat} {right up left down : Nat → Int32} {r s u w : Nat → Nat} (hn : n ≤ 5) (hr : sP n r s) (hu : sP n u w) (fr : sR n right r) (fu : sR n up u) (fl : sR n left s) (fd : sR n down w) {k : Nat} (hk : k < n) : jf_Su_roundCorner right up left down (nI k) = nI (sG r s u w k) := by
  have a1 := (hr k hk).1
  have a2 := (hu _ a1).1
  have a3 := (hr _ a2).2.1
  unfold jf_Su_roundCorner sG
  rw [jat_nI right (by omega) (by decide), fr k hk, jat_nI up (by omega) (by decide), fu _ a1, jat_nI left (by omega) (by decide), fl _ a2, jat_nI down (by omega) (by decide), fd _ a3]
theorem c_flat0 {n : Nat} {right up left down : Nat → Int32} {r s u w : Nat → Nat} (hn : n ≤ 5) (hr : sP n r s) (hu : sP n u w) (fr : sR n right r) (fu : sR n up u) (fl : sR n left s) (fd : sR n down w) {k : Nat} (hk : k < n) : ∀ j t m, t + j = n → j < m → ∃ b : Bool, jf_Su_isRowFlat_L4 (nI n) right up left down m (nI (jit r t k)) (nI t) = some (if b then .inr () else .inl ()) ∧ (b = true ↔ ∀ t', t ≤ t' → t' < n → sG r s u w (jit r t' k) = jit r t' k) := by
  intro j
  induction j with
  | zero =>
    intro t m e hm
    obtain ⟨q, rfl⟩ : ∃ q, m = q + 1 := ⟨m - 1, by omega⟩
    exact ⟨true, by rw [jf_Su_isRowFlat_L4, if_pos (nI_le (by omega) (by omega))]; rfl, fun _ t' h1 h2 => by omega, fun _ => rfl⟩
  | succ j ih =>
    intro t m e hm
    obtain ⟨q, rfl⟩ : ∃ q, m = q + 1 := ⟨m - 1, by omega⟩
    have hx : jit r t k < n := jit_P (P := fun x => x < n) (fun x h => (hr x h).1) hk t
    have hg := (sG_P hr hu _ hx).1
    obtain ⟨b, e1, e2⟩ := ih (t + 1) q (by omega) (by omega)
    rw [jf_Su_isRowFlat_L4, if_neg (nI_ge (by omega) (by omega)), c_round hn hr hu fr fu fl fd hx]
    by_cases c : sG r s u w (jit r t k) = jit r t k
    · rw [if_pos (congrArg nI c)]
      unfold jf_Su_rightOf
      simp only [jlet]
      rw [jat_nI right (by omega) (by decide), fr _ hx, nI_1]
      refine ⟨b, e1, ?_⟩
      rw [e2]
      constructor
      · intro h t' h1 h2
        by_cases d : t' = t
        · subst d; exact c
        · exact h t' (by omega) h2
      · intro h t' h1 h2; exact h t' (by omega) h2
    · rw [if_neg (fun h => c ((nI_eq (by omega) (by omega)).1 h))]
      refine ⟨false, rfl, ?_⟩
      constructor
      · intro h; cases h
      · intro h; exact absurd (h t (Nat.le_refl t) (by omega)) c
theorem c_flat {n : Nat} {right up left down : Nat → Int32} {r s u w : Nat → Nat} (hn : n ≤ 5) (hr : sP n r s) (hu : sP n u w) (fr : sR n right r) (fu : sR n up u) (fl : sR n left s) (fd : sR n down w) {k : Nat} (hk : k < n) : jf_Su_isRowFlat (nI n) right up left down (nI k) = some (if sFlat n r (sG r s u w) k then 1 else 0) := by
  obtain ⟨b, e1, e2⟩ := c_flat0 hn hr hu fr fu fl fd hk n 0 jF (by omega) (jF_gt (by omega))
  have hb : b = sFlat n r (sG r s u w) k := by
    rw [Bool.eq_iff_iff, e2]
    unfold sFlat
    rw [jall_iff]
    constructor
    · intro h t ht; exact beq_iff_eq.2 (h t (Nat.zero_le _) ht)
    · intro h t _ ht; exact beq_iff_eq.1 (h t ht)
  rw [← hb]
  unfold jf_Su_isRowFlat
  show Option.bind (jf_Su_isRowFlat_L4 (nI n) right up left down jF (nI (jit r 0 k)) (nI 0)) _ = _
  rw [e1]
  cases b <;> rfl
theorem c_grown {n : Nat} {right up left down : Nat → Int32} {r s u w : Nat → Nat} (hn : n ≤ 5) (hr : sP n r s) (hu : sP n u w) (fr : sR n right r) (fu : sR n up u) (fl : sR n left s) (fd : sR n down w) {what : Nat} (hw : 1 ≤ what ∧ what ≤ 4) {G a : Nat} (hG : G < 32) (ha : a < n) : jf_Su_grown (nI n) right up left down (nI G) (nI a) (nI what) = some (nI (sGrow (sE n r u (sG r s u w) what a) a G)) := by
  have h1 := (hr a ha).1
  have h2 := (hu a ha).1
  have h3 := (sG_P hr hu a ha).1
  have w1 := sWith_at hG (show a < 5 by omega) (show r a < 5 by omega)
  have w2 := sWith_at w1.1 (show a < 5 by omega) (show u a < 5 by omega)
  have w3 := sWith_at hG (show a < 5 by omega) (show sG r s u w a < 5 by omega)
  have hcase : what = 1 ∨ what = 2 ∨ what = 3 ∨ what = 4 := by omega
  unfold jf_Su_grown jf_Su_grown_b46 jf_Su_rightOf jf_Su_upOf
  simp only [jlet]
  rw [jat_nI right (by omega) (by decide), fr a ha, jat_nI up (by omega) (by decide), fu a ha, c_round hn hr hu fr fu fl fd ha, w1.2.1, w2.2.1, w3.2.1, c_flat hn hr hu fr fu fl fd ha]
  rcases hcase with rfl | rfl | rfl | rfl
  · rw [if_pos (show nI 1 = 1 from rfl)]; rfl
  · rw [if_neg (by decide), if_pos (show nI 2 = 2 from rfl)]; rfl
  · rw [if_neg (by decide), if_neg (by decide), if_neg (by decide)]; rfl
  · rw [if_neg (by decide), if_neg (by decide), if_pos (show nI 4 = 4 from rfl)]
    rw [sE4]
    cases sFlat n r (sG r s u w) a <;> rfl
theorem c_round1 {n : Nat} {right up left down : Nat → Int32} {r s u w : Nat → Nat} (hn : n ≤ 5) (hr : sP n r s) (hu : sP n u w) (fr : sR n right r) (fu : sR n up u) (fl : sR n left s) (fd : sR n down w) {what : Nat} (hw : 1 ≤ what ∧ what ≤ 4) {G : Nat} (hG : G < 32) (z4 : Int32) : ∀ j k m, k + j = n → j < m → jf_Su_groupOf_L19 (nI n) right up left down (nI what) z4 m (nI (sRound (sE n r u (sG r s u w) what) k G)) (nI k) = some (nI (sRound (sE n r u (sG r s u w) what) n G)) := by
  intro j
  induction j with
  | zero =>
    intro k m e hm
    obtain ⟨q, rfl⟩ : ∃ q, m = q + 1 := ⟨m - 1, by omega⟩
    have : k = n := by omega
    subst this
    rw [jf_Su_groupOf_L19, if_pos (nI_le (Nat.le_refl k) (by omega))]
  | succ j ih =>
    intro k m e hm
    obtain ⟨q, rfl⟩ : ∃ q, m = q + 1 := ⟨m - 1, by omega⟩
    have hE := sE_in hr hu (sG_P hr hu) what
    rw [jf_Su_groupOf_L19, if_neg (nI_ge (by omega) (by omega)), c_grown hn hr hu fr fu fl fd hw (sRound_at hn hE hG k (by omega)).1 (by omega), nI_1]
    exact ih (k + 1) q (by omega) (by omega)
theorem c_rounds {n : Nat} {right up left down : Nat → Int32} {r s u w : Nat → Nat} (hn : n ≤ 5) (hr : sP n r s) (hu : sP n u w) (fr : sR n right r) (fu : sR n up u) (fl : sR n left s) (fd : sR n down w) {what : Nat} (hw : 1 ≤ what ∧ what ≤ 4) : ∀ j t m G, t + j = n → j < m → G < 32 → jf_Su_groupOf_L7 (nI n) right up left down (nI what) m (nI G) (nI t) = some (nI (sRounds (sE n r u (sG r s u w) what) n j G)) := by
  intro j
  induction j with
  | zero =>
    intro t m G e hm hG
    obtain ⟨q, rfl⟩ : ∃ q, m = q + 1 := ⟨m - 1, by omega⟩
    rw [jf_Su_groupOf_L7, if_pos (nI_le (by omega) (by omega))]; rfl
  | succ j ih =>
    intro t m G e hm hG
    obtain ⟨q, rfl⟩ : ∃ q, m = q + 1 := ⟨m - 1, by omega⟩
    have hE := sE_in hr hu (sG_P hr hu) what
    have e1 := c_round1 hn hr hu fr fu fl fd hw hG (nI t) n 0 jF (by omega) (jF_gt (by omega))
    rw [jf_Su_groupOf_L7, if_neg (nI_ge (by omega) (by omega))]
    show Option.bind (jf_Su_groupOf_L19 (nI n) right up left down (nI what) (nI t) jF (nI (sRound (sE n r u (sG r s u w) what) 0 G)) (nI 0)) _ = _
    rw [e1]
    simp only [Option.bind]
    rw [nI_1]
    exact ih (t + 1) q _ (by omega) (by omega) (sRound_at hn hE hG n (Nat.le_refl n)).1
theorem c_group {n : Nat} {right up left down : Nat → Int32} {r s u w : Nat → Nat} (hn : n ≤ 5) (hr : sP n r s) (hu : sP n u w) (fr : sR n right r) (fu : sR n up u) (fl : sR n left s) (fd : sR n down w) {what : Nat} (hw : 1 ≤ what ∧ what ≤ 4) {k : Nat} (hk : k < n) : jf_Su_groupOf (nI n) right up left down (nI k) (nI what) = some (nI (sRounds (sE n r u (sG r s u w) what) n n (2 ^ k))) := by
  obtain ⟨o1, o2, -⟩ := sOne_at (show k < 5 by omega)
  unfold jf_Su_groupOf
  simp only [jlet]
  rw [o2, show (0 : Int32) = nI 0 from rfl, c_rounds hn hr hu fr fu fl fd hw n 0 jF (2 ^ k) (by omega) (jF_gt (by omega)) o1]
  rfl
theorem sCnt : jall 32 (fun G => decide (jf_In_bitCount (nI G) = nI (jcnt 5 (sHas G)))) = true := by decide +kernel
theorem sLt : jall 6 (fun n => jall (2 ^ n) (fun G => jall n (fun a => jall n (fun b => decide (sWith G a b < 2 ^ n))))) = true := by decide +kernel
theorem sWith_lt {n G a b : Nat} (hn : n ≤ 5) (hG : G < 2 ^ n) (ha : a < n) (hb : b < n) : sWith G a b < 2 ^ n :=
  of_decide_eq_true (jall_at (jall_at (jall_at (jall_at sLt n (by omega)) G hG) a ha) b hb)
theorem sGrow_lt {n a : Nat} (hn : n ≤ 5) (ha : a < n) : ∀ (l : List Nat) (G : Nat), (∀ b, b ∈ l → b < n) → G < 2 ^ n → sGrow l a G < 2 ^ n
  | [], G, _, hG => hG
  | b :: t, G, hl, hG => sGrow_lt hn ha t _ (fun c hc => hl c (List.mem_cons_of_mem _ hc)) (sWith_lt hn hG ha (hl b List.mem_cons_self))
theorem sRound_lt {n : Nat} {E : Nat → List Nat} (hn : n ≤ 5) (hE : sEin n E) {G : Nat} (hG : G < 2 ^ n) : ∀ k, k ≤ n → sRound E k G < 2 ^ n
  | 0, _ => hG
  | k + 1, hk => sGrow_lt hn (show k < n by omega) _ _ (hE k (by omega)) (sRound_lt hn hE hG k (by omega))
theorem sRounds_lt {n : Nat} {E : Nat → List Nat} (hn : n ≤ 5) (hE : sEin n E) : ∀ t G, G < 2 ^ n → sRounds E n t G < 2 ^ n
  | 0, _, hG => hG
  | t + 1, _, hG => sRounds_lt hn hE t _ (sRound_lt hn hE hG n (Nat.le_refl n))
theorem jcnt_false (n : Nat) : jcnt n (fun _ => false) = 0 := by
  induction n with
  | zero => rfl
  | succ n ih => rw [jcnt, ih]; rfl
theorem sCnt_n {n G : Nat} (hn : n ≤ 5) (hG : G < 2 ^ n) : jcnt 5 (sHas G) = jcnt n (sHas G) := by
  have h := jcnt_add n (5 - n) (sHas G)
  rw [show n + (5 - n) = 5 by omega] at h
  rw [h]
  have : jcnt (5 - n) (fun k => sHas G (n + k)) = jcnt (5 - n) (fun _ => false) := jcnt_eq (fun k hk => Nat.testBit_lt_two_pow (Nat.lt_of_lt_of_le hG (Nat.pow_le_pow_right (by decide) (by omega))))
  rw [this, jcnt_false, Nat.add_zero]
theorem c_size {n : Nat} {right up left down : Nat → Int32} {r s u w : Nat → Nat} (hn : n ≤ 5) (hr : sP n r s) (hu : sP n u w) (fr : sR n right r) (fu : sR n up u) (fl : sR n left s) (fd : sR n down w) {what : Nat} (hw : 1 ≤ what ∧ what ≤ 4) {k : Nat} (hk : k < n) {D : Nat → Bool} (hD : ∀ x, x < n → (D x = true ↔ sRel n (sE n r u (sG r s u w) what) k x)) : jf_Su_sizeOf (nI n) right up left down (nI k) (nI what) = some (nI (jcnt n D)) := by
  have hE := sE_in hr hu (sG_P hr hu) what
  obtain ⟨g1, g2⟩ := sGroup hn hE hk
  unfold jf_Su_sizeOf
  rw [c_group hn hr hu fr fu fl fd hw hk]
  simp only [Option.bind]
  rw [of_decide_eq_true (jall_at sCnt _ g1), sCnt_n hn (sRounds_lt hn hE n _ (Nat.pow_lt_pow_right (by decide) hk))]
  congr 2
  exact jcnt_eq (fun x hx => by rw [Bool.eq_iff_iff, g2 x hx, hD x hx])
theorem sMet : jall 32 (fun M => jall 5 (fun k => decide ((nI M >>> (nI k &&& 31)) &&& 1 = if sHas M k then (1 : Int32) else 0)) && jall 32 (fun G => decide (M ||| G < 32) && decide (nI M ||| nI G = nI (M ||| G)) && jall 5 (fun x => sHas (M ||| G) x == (sHas M x || sHas G x)))) = true := by decide +kernel
theorem sBit {M k : Nat} (hM : M < 32) (hk : k < 5) : (nI M >>> (nI k &&& 31)) &&& 1 = if sHas M k then (1 : Int32) else 0 := by
  have h := jall_at sMet M hM
  rw [Bool.and_eq_true] at h
  exact of_decide_eq_true (jall_at h.1 k hk)
theorem sOr {M G : Nat} (hM : M < 32) (hG : G < 32) : M ||| G < 32 ∧ nI M ||| nI G = nI (M ||| G) ∧ ∀ x, x < 5 → sHas (M ||| G) x = (sHas M x || sHas G x) := by
  have h := jall_at sMet M hM
  rw [Bool.and_eq_true] at h
  have h2 := jall_at h.2 G hG
  rw [Bool.and_eq_true, Bool.and_eq_true, decide_eq_true_iff, decide_eq_true_iff] at h2
  exact ⟨h2.1.1, h2.1.2, fun x hx => beq_iff_eq.1 (jall_at h2.2 x hx)⟩
theorem c_groups0 {n : Nat} {right up left down : Nat → Int32} {r s u w : Nat → Nat} (hn : n ≤ 5) (hr : sP n r s) (hu : sP n u w) (fr : sR n right r) (fu : sR n up u) (fl : sR n left s) (fd : sR n down w) {what : Nat} (hw : 1 ≤ what ∧ what ≤ 4) {D : Nat → Nat → Bool} (hD : ∀ i x, i < n → x < n → (D i x = true ↔ sRel n (sE n r u (sG r s u w) what) i x)) : ∀ j k m M, k + j = n → j < m → M < 32 → (∀ x, x < n → (sHas M x = true ↔ ∃ i, i < k ∧ D i x = true)) → jf_Su_groups_L7 (nI n) right up left down (nI what) m (nI M) (nI (jcnt k (fun x => jall x (fun i => !D i x)))) (nI k) = some (nI (jcnt n (fun x => jall x (fun i => !D i x)))) := by
  have hE := sE_in hr hu (sG_P hr hu) what
  intro j
  induction j with
  | zero =>
    intro k m M e hm hM h
    obtain ⟨q, rfl⟩ : ∃ q, m = q + 1 := ⟨m - 1, by omega⟩
    have : k = n := by omega
    subst this
    rw [jf_Su_groups_L7, if_pos (nI_le (Nat.le_refl k) (by omega))]
  | succ j ih =>
    intro k m M e hm hM h
    obtain ⟨q, rfl⟩ : ∃ q, m = q + 1 := ⟨m - 1, by omega⟩
    have hk : k < n := by omega
    obtain ⟨g1, g2⟩ := sGroup hn hE hk
    have i1 := ih (k + 1) q
    rw [jf_Su_groups_L7, if_neg (nI_ge (by omega) (by omega)), sBit hM (by omega), c_group hn hr hu fr fu fl fd hw hk]
    unfold jf_Su_groups_b38
    simp only [Option.bind, jlet]
    rw [nI_1 k]
    rw [jcnt] at i1
    cases c : sHas M k with
    | true =>
      obtain ⟨i, hi, hik⟩ := (h k hk).1 c
      have hf : jall k (fun i => !D i k) = false := by
        cases d : jall k (fun i => !D i k) with
        | false => rfl
        | true =>
          have := jall_at d i hi
          rw [hik] at this; cases this
      rw [hf] at i1
      rw [if_neg (by decide)]
      refine i1 M (by omega) (by omega) hM (fun x hx => ?_)
      rw [h x hx]
      constructor
      · rintro ⟨i', h1, h2⟩; exact ⟨i', by omega, h2⟩
      · rintro ⟨i', h1, h2⟩
        by_cases d : i' = k
        · subst d
          refine ⟨i, hi, (hD i x (by omega) hx).2 (sRel_trans ((hD i i' (by omega) hk).1 hik) ((hD i' x hk hx).1 h2))⟩
        · exact ⟨i', by omega, h2⟩
    | false =>
      have hf : jall k (fun i => !D i k) = true := by
        rw [jall_iff]
        intro i hi
        cases d : D i k with
        | false => rfl
        | true =>
          have := (h k hk).2 ⟨i, hi, d⟩
          rw [c] at this; cases this
      rw [hf, if_pos rfl] at i1
      obtain ⟨o1, o2, o3⟩ := sOr hM g1
      rw [if_pos (by decide), o2, nI_1]
      refine i1 _ (by omega) (by omega) o1 (fun x hx => ?_)
      rw [o3 x (by omega), Bool.or_eq_true, h x hx, g2 x hx, ← hD k x hk hx]
      constructor
      · rintro (⟨i', h1, h2⟩ | h2)
        · exact ⟨i', by omega, h2⟩
        · exact ⟨k, by omega, h2⟩
      · rintro ⟨i', h1, h2⟩
        by_cases d : i' = k
        · subst d; exact Or.inr h2
        · exact Or.inl ⟨i', by omega, h2⟩
theorem c_groups {n : Nat} {right up left down : Nat → Int32} {r s u w : Nat → Nat} (hn : n ≤ 5) (hr : sP n r s) (hu : sP n u w) (fr : sR n right r) (fu : sR n up u) (fl : sR n left s) (fd : sR n down w) {what : Nat} (hw : 1 ≤ what ∧ what ≤ 4) {D : Nat → Nat → Bool} (hD : ∀ i x, i < n → x < n → (D i x = true ↔ sRel n (sE n r u (sG r s u w) what) i x)) : jf_Su_groups (nI n) right up left down (nI what) = some (nI (jcnt n (fun x => jall x (fun i => !D i x)))) := by
  have h := c_groups0 hn hr hu fr fu fl fd hw hD n 0 jF 0 (by omega) (jF_gt (by omega)) (by decide) (fun x hx => by
    constructor
    · intro h
      have : sHas 0 x = false := Nat.zero_testBit x
      rw [this] at h; cases h
    · rintro ⟨i, h1, _⟩; exact absurd h1 (Nat.not_lt_zero _))
  unfold jf_Su_groups
  show Option.bind (jf_Su_groups_L7 (nI n) right up left down (nI what) jF (nI 0) (nI (jcnt 0 (fun x => jall x (fun i => !D i x)))) (nI 0)) _ = _
  rw [h]; rfl

