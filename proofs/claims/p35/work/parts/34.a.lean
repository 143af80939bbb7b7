/-! p35: the code by all orders of names -/
def pL1 : List Nat := [0]
def pL2 : List Nat := [5, 1]
def pL3 : List Nat := [55, 35, 51, 11, 27, 7]
def pL4 : List Nat := [430, 330, 410, 210, 290, 190, 426, 326, 386, 86, 266, 66, 402, 202, 382, 82, 142, 42, 278, 178, 258, 58, 138, 38]
def pL5 : List Nat := [2930, 2430, 2830, 1830, 2230, 1730, 2910, 2410, 2710, 1210, 2110, 1110, 2790, 1790, 2690, 1190, 1490, 990, 2170, 1670, 2070, 1070, 1470, 970, 2926, 2426, 2826, 1826, 2226, 1726, 2886, 2386, 2586, 586, 1986, 486, 2766, 1766, 2566, 566, 1366, 366, 2146, 1646, 1946, 446, 1346, 346, 2902, 2402, 2702, 1202, 2102, 1102, 2882, 2382, 2582, 582, 1982, 482, 2642, 1142, 2542, 542, 742, 242, 2022, 1022, 1922, 422, 722, 222, 2778, 1778, 2678, 1178, 1478, 978, 2758, 1758, 2558, 558, 1358, 358, 2638, 1138, 2538, 538, 738, 238, 1398, 898, 1298, 298, 698, 198, 2154, 1654, 2054, 1054, 1454, 954, 2134, 1634, 1934, 434, 1334, 334, 2014, 1014, 1914, 414, 714, 214, 1394, 894, 1294, 294, 694, 194]
def pL (n : Nat) : List Nat := if n = 1 then pL1 else if n = 2 then pL2 else if n = 3 then pL3 else if n = 4 then pL4 else pL5
/-- a row of names -/
def pf (P : Nat) : Nat → Int32 := fun i => nI (g5 P i)
def pNext (n P q P' : Nat) : Bool := match jf_Lw_isNext (pf P) (nI n) with
  | some (w, f) => decide (w = nI q) && jall 5 (fun i => decide (f i = pf P' i))
  | none => false
def pChain (n : Nat) : List Nat → Bool
  | [] => true
  | [P] => pNext n P 0 P
  | P :: P' :: l => pNext n P 1 P' && pChain n (P' :: l)
theorem p_chain : jall 5 (fun k => pChain (k + 1) (pL (k + 1))) = true := by decide +kernel
theorem p_all : jall 5 (fun k => (pL (k + 1)).all (fun P => isP (k + 1) P && Nat.blt P (5 ^ (k + 1))) && jall (5 ^ (k + 1)) (fun P => !isP (k + 1) P || (pL (k + 1)).any (fun Q => Nat.beq Q P))) = true := by decide +kernel
theorem p_id : jall 5 (fun k => match pL (k + 1) with | P :: _ => jall 5 (fun i => decide (pf P i = if i < k + 1 then nI i else 0)) | [] => false) = true := by decide +kernel
theorem g5_0 {P i : Nat} (hP : P < 5 ^ 5) (hi : 5 ≤ i) : g5 P i = 0 := by
  rw [g5_eq, Nat.div_eq_of_lt (Nat.lt_of_lt_of_le hP (Nat.pow_le_pow_right (by decide) hi))]
theorem p_far76 : ∀ m z5 z6 f f', jf_Lw_isNext_L76 m z5 z6 f = some f' → ∀ i, 5 ≤ i → f' i = f i
  | 0, _, _, _, _, h => by cases h
  | m + 1, z5, z6, f, f', h => by
    intro i hi
    rw [jf_Lw_isNext_L76] at h
    split at h
    · cases h; rfl
    · split at h
      · rename_i c1
        simp only [jlet] at h
        split at h
        · rename_i c2
          have h1 := jin_in c1
          have h2 := jin_in c2
          rw [p_far76 m _ _ _ _ h i hi, upd_ne _ _ (fun e => h2 (Or.inr (by omega))), upd_ne _ _ (fun e => h1 (Or.inr (by omega)))]
        · cases h
      · cases h
theorem p_far {f f' : Nat → Int32} {x q : Int32} (h : jf_Lw_isNext f x = some (q, f')) : ∀ i, 5 ≤ i → f' i = f i := by
  intro i hi
  unfold jf_Lw_isNext at h
  simp only [jlet] at h
  obtain ⟨z, -, h⟩ := jbind h
  unfold jf_Lw_isNext_b25 at h
  split at h
  · simp only [jlet] at h
    obtain ⟨w, -, h⟩ := jbind h
    split at h
    · rename_i c1
      split at h
      · rename_i c2
        obtain ⟨f2, e, h⟩ := jbind h
        have h1 := jin_in c1
        have h2 := jin_in c2
        cases h
        rw [p_far76 _ _ _ _ _ e i hi, upd_ne _ _ (fun e => h2 (Or.inr (by omega))), upd_ne _ _ (fun e => h1 (Or.inr (by omega)))]
      · cases h
    · cases h
  · cases h; rfl
theorem p_next {n P q P' : Nat} (hP : P < 5 ^ 5) (hP' : P' < 5 ^ 5) (h : pNext n P q P' = true) : jf_Lw_isNext (pf P) (nI n) = some (nI q, pf P') := by
  unfold pNext at h
  cases e : jf_Lw_isNext (pf P) (nI n) with
  | none => rw [e] at h; cases h
  | some z =>
    obtain ⟨w, f⟩ := z
    rw [e] at h
    simp only [Bool.and_eq_true, decide_eq_true_eq] at h
    obtain ⟨h1, h2⟩ := h
    rw [h1]
    congr 1
    refine Prod.ext rfl (funext fun i => ?_)
    by_cases hi : i < 5
    · exact of_decide_eq_true (jall_at h2 i hi)
    · show f i = pf P' i
      rw [p_far e i (by omega)]
      unfold pf
      rw [g5_0 hP (by omega), g5_0 hP' (by omega)]
theorem p_before {n z : Nat} {f : Nat → Int32} {σ τ : Nat → Nat} (hn : n ≤ 5) (hs : sP n σ τ) (hf : sR n f τ) (hz : z < n) : jf_Lw_before f (nI z) = some (nI (σ z)) := by
  have hb : ∀ j k m, k + j = σ z → j < m → jf_Lw_before_L2 f (nI z) m (nI k) = some (nI (σ z)) := by
    have hsz := (hs z hz).1
    intro j
    induction j with
    | zero =>
      intro k m e hm
      obtain ⟨q, rfl⟩ : ∃ q, m = q + 1 := ⟨m - 1, by omega⟩
      have : k = σ z := by omega
      subst this
      rw [jf_Lw_before_L2, if_pos (jin_nI (by omega) (by decide)), nI_clamp (by omega), hf _ hsz, (hs z hz).2.2.2, if_pos rfl]
    | succ j ih =>
      intro k m e hm
      obtain ⟨q, rfl⟩ : ∃ q, m = q + 1 := ⟨m - 1, by omega⟩
      have hk : k < n := by omega
      have hne : τ k ≠ z := fun e2 => by
        have := (hs k hk).2.2.1
        rw [e2] at this; omega
      have ht := (hs k hk).2.1
      rw [jf_Lw_before_L2, if_pos (jin_nI (by omega) (by decide)), nI_clamp (by omega), hf _ hk, if_neg (fun x => hne (nI_inj (by omega) (by omega) x)), nI_1]
      exact ih (k + 1) q (by omega) (by omega)
  unfold jf_Lw_before
  rw [show jf_Lw_before_L2 f (nI z) jF 0 = some (nI (σ z)) from hb (σ z) 0 jF (by omega) (jF_gt (by have := (hs z hz).1; omega))]
  rfl
/-- the number of the surface, by one order of names -/
theorem p_number {n : Nat} {f right up : Nat → Int32} {σ τ r s u w : Nat → Nat} (hn : n ≤ 5) (hs : sP n σ τ) (hf : sR n f τ) (hr : sP n r s) (hu : sP n u w) (fr : sR n right r) (fu : sR n up u) (z4 : Int32) : ∀ j k m, k + j = n → j < m → jf_Lw_codeOf_L35 right up f (nI n) z4 m (nI (cEnc k (fun i => σ (r (τ i))) (fun i => σ (u (τ i))))) (nI k) = some (nI (cEnc n (fun i => σ (r (τ i))) (fun i => σ (u (τ i))))) := by
  intro j
  induction j with
  | zero =>
    intro k m e hm
    obtain ⟨q, rfl⟩ : ∃ q, m = q + 1 := ⟨m - 1, by omega⟩
    have : k = n := by omega
    subst this
    rw [jf_Lw_codeOf_L35, if_pos (nI_le (Nat.le_refl k) (by omega))]
  | succ j ih =>
    intro k m e hm
    obtain ⟨q, rfl⟩ : ∃ q, m = q + 1 := ⟨m - 1, by omega⟩
    have hk : k < n := by omega
    have ht := (hs k hk).2.1
    have h5 : jin (nI k) 5 = true := jin_nI (by omega) (by decide)
    have h6 : jin (nI (τ k)) 5 = true := jin_nI (by omega) (by decide)
    rw [jf_Lw_codeOf_L35, if_neg (nI_ge hk (by omega)), if_pos h5, nI_clamp (by omega), hf k hk, if_pos h6, nI_clamp (by omega), fr _ ht, p_before hn hs hf (hr _ ht).1]
    simp only [Option.bind]
    rw [if_pos h5, if_pos h6, fu _ ht, p_before hn hs hf (hu _ ht).1]
    simp only [jlet]
    rw [show (5 : Int32) = nI 5 from rfl, nI_mul, nI_add, nI_mul, nI_add, nI_1]
    have e2 := cEnc_succ k (fun i => σ (r (τ i))) (fun i => σ (u (τ i)))
    rw [show (cEnc k (fun i => σ (r (τ i))) (fun i => σ (u (τ i))) * 5 + σ (r (τ k))) * 5 + σ (u (τ k)) = cEnc (k + 1) (fun i => σ (r (τ i))) (fun i => σ (u (τ i))) by
      rw [e2]
      show _ = 25 * _ + 5 * (σ (r (τ k))) + σ (u (τ k))
      omega]
    exact ih (k + 1) q (by omega) (by omega)
def pQ (n P z : Nat) : Nat := sFind (g5 P) z n
theorem p_sP {n P : Nat} (hn : n ≤ 5) (h : isP n P = true) : sP n (pQ n P) (g5 P) := by
  unfold isP at h
  have h1 : ∀ k, k < n → g5 P k < n := fun k hk => by
    have := jall_at h k hk
    rw [Bool.and_eq_true, Nat.blt_eq] at this
    exact this.1
  have h2 : ∀ i k, i < k → k < n → g5 P i ≠ g5 P k := fun i k hi hk e => by
    have := jall_at h k hk
    rw [Bool.and_eq_true] at this
    have h3 := jall_at this.2 i hi
    rw [e] at h3
    simp at h3
  obtain ⟨τ, ht⟩ := inj_perm h1 h2
  intro k hk
  obtain ⟨a, b, c, d⟩ := ht k hk
  obtain ⟨f1, f2⟩ := sFind_at (f := g5 P) (z := k) n ⟨τ k, b, c⟩
  obtain ⟨f3, f4⟩ := sFind_at (f := g5 P) (z := g5 P k) n ⟨k, hk, rfl⟩
  refine ⟨f1, a, ?_, f2⟩
  show sFind (g5 P) (g5 P k) n = k
  have h7 := (ht _ f3).2.2.2
  rw [f4, d] at h7
  exact h7.symm
def pC (n : Nat) (r u : Nat → Nat) (P : Nat) : Nat := cEnc n (fun i => pQ n P (r (g5 P i))) (fun i => pQ n P (u (g5 P i)))
def pMin (n : Nat) (r u : Nat → Nat) : List Nat → Nat → Nat
  | [], b => b
  | P :: l, b => pMin n r u l (if b ≤ pC n r u P then b else pC n r u P)
theorem pMin_le (n : Nat) (r u : Nat → Nat) : ∀ l b, pMin n r u l b ≤ b ∧ ∀ P, P ∈ l → pMin n r u l b ≤ pC n r u P
  | [], b => ⟨Nat.le_refl b, fun P h => by cases h⟩
  | Q :: l, b => by
    obtain ⟨h1, h2⟩ := pMin_le n r u l (if b ≤ pC n r u Q then b else pC n r u Q)
    rw [pMin]
    refine ⟨Nat.le_trans h1 (by split <;> omega), fun P h => ?_⟩
    rcases List.mem_cons.mp h with rfl | h
    · exact Nat.le_trans h1 (by split <;> omega)
    · exact h2 P h
theorem pMin_at (n : Nat) (r u : Nat → Nat) : ∀ l b, pMin n r u l b = b ∨ ∃ P, P ∈ l ∧ pMin n r u l b = pC n r u P
  | [], b => Or.inl rfl
  | Q :: l, b => by
    rw [pMin]
    rcases pMin_at n r u l (if b ≤ pC n r u Q then b else pC n r u Q) with h | ⟨P, h1, h2⟩
    · by_cases c : b ≤ pC n r u Q
      · rw [if_pos c] at h ⊢; exact Or.inl h
      · rw [if_neg c] at h ⊢; exact Or.inr ⟨Q, List.mem_cons_self, h⟩
    · exact Or.inr ⟨P, List.mem_cons_of_mem _ h1, h2⟩
theorem p_walk {n : Nat} {right up : Nat → Int32} {r s u w : Nat → Nat} (hn : n ≤ 5) (hr : sP n r s) (hu : sP n u w) (fr : sR n right r) (fu : sR n up u) : ∀ (l : List Nat) (P : Nat) (b m : Nat), pChain n (P :: l) = true → (∀ Q, Q ∈ P :: l → isP n Q = true ∧ Q < 5 ^ 5) → b < 2 ^ 31 → l.length < m → ∃ f', jf_Lw_codeOf_L29 right up (nI n) m (nI b) (pf P) = some (nI (pMin n r u (P :: l) b), f')
  | [], P, b, m, hc, hp, hb, hm => by
    obtain ⟨q, rfl⟩ : ∃ q, m = q + 1 := ⟨m - 1, by omega⟩
    obtain ⟨h1, h2⟩ := hp P List.mem_cons_self
    have hs := p_sP hn h1
    have hC : pC n r u P < 2 ^ 31 := by
      have := cEnc_lt (f := fun i => pQ n P (r (g5 P i))) (g := fun i => pQ n P (u (g5 P i))) hn (fun k hk => (hs _ (hr _ (hs k hk).2.1).1).1) (fun k hk => (hs _ (hu _ (hs k hk).2.1).1).1)
      have := f_pow5 hn this
      unfold pC; omega
    have e := p_number (f := pf P) hn hs (fun k hk => rfl) hr hu fr fu (nI b) n 0 jF (by omega) (jF_gt (by omega))
    refine ⟨pf P, ?_⟩
    have e91 : ∀ s0 : Int32, jf_Lw_codeOf_b91 (jf_Lw_codeOf_L29 right up (nI n) q) right up (pf P) (nI n) s0 = some (s0, pf P) := fun s0 => by
      unfold jf_Lw_codeOf_b91
      rw [p_next h2 h2 hc]
      rfl
    rw [jf_Lw_codeOf_L29, show jf_Lw_codeOf_L35 right up (pf P) (nI n) (nI b) jF 0 0 = some (nI (pC n r u P)) from e]
    simp only [Option.bind]
    rw [e91, e91]
    show _ = some (nI (if b ≤ pC n r u P then b else pC n r u P), pf P)
    by_cases c : b ≤ pC n r u P
    · rw [if_pos (nI_le c (by omega)), if_pos c]
    · rw [if_neg (nI_ge (by omega) (by omega)), if_neg c]
  | P' :: l, P, b, m, hc, hp, hb, hm => by
    obtain ⟨q, rfl⟩ : ∃ q, m = q + 1 := ⟨m - 1, by simp only [List.length_cons] at hm; omega⟩
    obtain ⟨h1, h2⟩ := hp P List.mem_cons_self
    obtain ⟨-, h3⟩ := hp P' (List.mem_cons_of_mem _ List.mem_cons_self)
    have hs := p_sP hn h1
    have hC : pC n r u P < 2 ^ 31 := by
      have := cEnc_lt (f := fun i => pQ n P (r (g5 P i))) (g := fun i => pQ n P (u (g5 P i))) hn (fun k hk => (hs _ (hr _ (hs k hk).2.1).1).1) (fun k hk => (hs _ (hu _ (hs k hk).2.1).1).1)
      have := f_pow5 hn this
      unfold pC; omega
    have e := p_number (f := pf P) hn hs (fun k hk => rfl) hr hu fr fu (nI b) n 0 jF (by omega) (jF_gt (by omega))
    rw [pChain, Bool.and_eq_true] at hc
    have hlen : l.length < q := by simp only [List.length_cons] at hm; omega
    have i1 := fun b hb => p_walk hn hr hu fr fu l P' b q hc.2 (fun Q hQ => hp Q (List.mem_cons_of_mem _ hQ)) hb hlen
    have e91 : ∀ s0 : Int32, jf_Lw_codeOf_b91 (jf_Lw_codeOf_L29 right up (nI n) q) right up (pf P) (nI n) s0 = jf_Lw_codeOf_L29 right up (nI n) q s0 (pf P') := fun s0 => by
      unfold jf_Lw_codeOf_b91
      rw [p_next h2 h3 hc.1]
      rfl
    rw [jf_Lw_codeOf_L29, show jf_Lw_codeOf_L35 right up (pf P) (nI n) (nI b) jF 0 0 = some (nI (pC n r u P)) from e]
    simp only [Option.bind]
    rw [e91, e91, pMin]
    by_cases c : b ≤ pC n r u P
    · rw [if_pos (nI_le c (by omega)), if_pos c]; exact i1 b hb
    · rw [if_neg (nI_ge (by omega) (by omega)), if_neg c]; exact i1 _ hC
theorem p_names {n : Nat} (hn : n ≤ 5) (z4 : Int32) : ∀ j k m f, k + j = n → j < m → (∀ i, f i = if i < k then nI i else 0) → ∃ f', jf_Lw_codeOf_L11 (nI n) z4 m (nI k) f = some f' ∧ ∀ i, f' i = if i < n then nI i else 0 := by
  intro j
  induction j with
  | zero =>
    intro k m f e hm hf
    obtain ⟨q, rfl⟩ : ∃ q, m = q + 1 := ⟨m - 1, by omega⟩
    have : k = n := by omega
    subst this
    exact ⟨f, by rw [jf_Lw_codeOf_L11, if_pos (nI_le (Nat.le_refl k) (by omega))], hf⟩
  | succ j ih =>
    intro k m f e hm hf
    obtain ⟨q, rfl⟩ : ∃ q, m = q + 1 := ⟨m - 1, by omega⟩
    rw [jf_Lw_codeOf_L11, if_neg (nI_ge (by omega) (by omega)), if_pos (jin_nI (by omega) (by decide)), nI_clamp (by omega), nI_1]
    refine ih (k + 1) q _ (by omega) (by omega) (fun i => ?_)
    by_cases c : i = k
    · subst c; rw [upd_at, if_pos (by omega)]
    · rw [upd_ne _ _ c, hf i]
      by_cases d : i < k
      · rw [if_pos d, if_pos (by omega)]
      · rw [if_neg d, if_neg (by omega)]
theorem p_code {n : Nat} {right up : Nat → Int32} {r s u w : Nat → Nat} (h1 : 1 ≤ n) (hn : n ≤ 5) (hr : sP n r s) (hu : sP n u w) (fr : sR n right r) (fu : sR n up u) : ∃ v, jf_Lw_codeOf right up (nI n) = some (nI v) ∧ cBest n r u v := by
  obtain ⟨k, rfl⟩ : ∃ k, n = k + 1 := ⟨n - 1, by omega⟩
  have hk : k < 5 := by omega
  have hc := jall_at p_chain k hk
  have ha := jall_at p_all k hk
  have hi := jall_at p_id k hk
  rw [Bool.and_eq_true, List.all_eq_true] at ha
  obtain ⟨f', e1, e2⟩ := p_names hn 2147483647 (k + 1) 0 jF (fun _ => 0) (by omega) (jF_gt (by omega)) (fun i => by rw [if_neg (Nat.not_lt_zero i)])
  have hlt : ∀ Q, Q ∈ pL (k + 1) → isP (k + 1) Q = true ∧ Q < 5 ^ 5 := fun Q hQ => by
    have := ha.1 Q hQ
    rw [Bool.and_eq_true, Nat.blt_eq] at this
    exact ⟨this.1, Nat.lt_of_lt_of_le this.2 (Nat.pow_le_pow_right (by decide) (by omega))⟩
  generalize hl : pL (k + 1) = l at *
  cases l with
  | nil => cases hi
  | cons P l =>
    have hf : f' = pf P := funext fun i => by
      by_cases c : i < 5
      · rw [e2 i]; exact (of_decide_eq_true (jall_at hi i c)).symm
      · rw [e2 i, if_neg (by omega)]
        unfold pf
        rw [g5_0 (hlt P List.mem_cons_self).2 (by omega)]
        rfl
    subst hf
    have hlen : l.length < jF := jF_gt (by
      have : (pL (k + 1)).length ≤ 120 := by
        have : jall 5 (fun k => decide ((pL (k + 1)).length ≤ 120)) = true := by decide +kernel
        exact of_decide_eq_true (jall_at this k hk)
      rw [hl, List.length_cons] at this
      omega)
    obtain ⟨f2, e3⟩ := p_walk hn hr hu fr fu l P 2147483647 jF hc hlt (by decide) hlen
    refine ⟨pMin (k + 1) r u (P :: l) 2147483647, ?_, ?_, ?_⟩
    · unfold jf_Lw_codeOf
      rw [show jf_Lw_codeOf_L11 (nI (k + 1)) 2147483647 jF 0 (fun _ => 0) = some (pf P) from e1]
      simp only [Option.bind]
      rw [show jf_Lw_codeOf_L29 right up (nI (k + 1)) jF 2147483647 (pf P) = some (nI (pMin (k + 1) r u (P :: l) 2147483647), f2) from e3]
    · have hPlt : ∀ Q, Q ∈ P :: l → pC (k + 1) r u Q < 9765626 := fun Q hQ => by
        have hs := p_sP hn (hlt Q hQ).1
        have := cEnc_lt (f := fun i => pQ (k + 1) Q (r (g5 Q i))) (g := fun i => pQ (k + 1) Q (u (g5 Q i))) hn (fun k hk => (hs _ (hr _ (hs k hk).2.1).1).1) (fun k hk => (hs _ (hu _ (hs k hk).2.1).1).1)
        exact f_pow5 hn this
      rcases pMin_at (k + 1) r u (P :: l) 2147483647 with h | ⟨Q, h2, h3⟩
      · have h4 := (pMin_le (k + 1) r u (P :: l) 2147483647).2 P List.mem_cons_self
        have := hPlt P List.mem_cons_self
        omega
      · exact ⟨pQ (k + 1) Q, g5 Q, p_sP hn (hlt Q h2).1, h3⟩
    · intro σ τ hs
      have hQ5 := cPk_lt (k + 1) (fun i hi => Nat.lt_of_lt_of_le (hs i hi).2.1 hn)
      have hQP : isP (k + 1) (cPk (k + 1) τ) = true := isP_of hn (sP_inv hs)
      have hmem : cPk (k + 1) τ ∈ P :: l := by
        have := jall_at ha.2 _ hQ5
        rw [hQP] at this
        have h5 : ((P :: l).any (fun Q => Nat.beq Q (cPk (k + 1) τ))) = true := this
        obtain ⟨Q, h2, h3⟩ := List.any_eq_true.mp h5
        rw [← Nat.eq_of_beq_eq_true h3]; exact h2
      refine Nat.le_trans ((pMin_le (k + 1) r u (P :: l) 2147483647).2 _ hmem) (Nat.le_of_eq ?_)
      have hg := cPk_g5 (k + 1) (fun i hi => Nat.lt_of_lt_of_le (hs i hi).2.1 hn)
      have hsQ := p_sP hn hQP
      have hsame : ∀ z, z < k + 1 → pQ (k + 1) (cPk (k + 1) τ) z = σ z := sP_same (σ := g5 (cPk (k + 1) τ)) (τ := pQ (k + 1) (cPk (k + 1) τ)) (σ' := τ) (τ' := σ) (sP_inv hsQ) (sP_inv hs) hg
      exact cEnc_eq (fun i hi => by rw [hg i hi, hsame _ (hr _ (hs i hi).2.1).1]) (fun i hi => by rw [hg i hi, hsame _ (hu _ (hs i hi).2.1).1])
