/-! kin -/
theorem cEnc_succ (k : Nat) (f g : Nat → Nat) : cEnc (k + 1) f g = 25 * cEnc k f g + 5 * f k + g k := by
  show 5 * (25 * cE k f + f k) + (25 * cE k g + g k) = 25 * (5 * cE k f + cE k g) + 5 * f k + g k
  omega
theorem m1_add (x : Int32) : x + (-1) = x - 1 := (Int32.sub_eq_add_neg x 1).symm
theorem k_begin0 {f g : Nat → Nat} : ∀ k m right up, k ≤ 5 → (∀ i, i < k → f i < 5 ∧ g i < 5) → k < m → cEnc k f g < 2 ^ 31 → ∃ right' up', jf_Su_beginFrom_L12 m (nI (cEnc k f g)) (nI k - 1) right up = some (right', up') ∧ (∀ i, i < k → right' i = nI (f i) ∧ up' i = nI (g i)) ∧ ∀ i, k ≤ i → right' i = right i ∧ up' i = up i := by
  intro k
  induction k with
  | zero =>
    intro m right up _ _ hm _
    obtain ⟨q, rfl⟩ : ∃ q, m = q + 1 := ⟨m - 1, by omega⟩
    exact ⟨right, up, by rw [jf_Su_beginFrom_L12, if_pos (show nI 0 - 1 < 0 by decide)], fun i hi => absurd hi (Nat.not_lt_zero _), fun i _ => ⟨rfl, rfl⟩⟩
  | succ k ih =>
    intro m right up hk h hm hlt
    obtain ⟨q, rfl⟩ : ∃ q, m = q + 1 := ⟨m - 1, by omega⟩
    have hs := cEnc_succ k f g
    obtain ⟨a, b⟩ := h k (by omega)
    have e1 : cEnc (k + 1) f g % 5 = g k := by omega
    have e2 : cEnc (k + 1) f g / 5 = 5 * cEnc k f g + f k := by omega
    have e3 : (5 * cEnc k f g + f k) % 5 = f k := by omega
    have e4 : (5 * cEnc k f g + f k) / 5 = cEnc k f g := by omega
    obtain ⟨r', u', i1, i2, i3⟩ := ih q (upd right k (nI (f k))) (upd up k (nI (g k))) (by omega) (fun i hi => h i (by omega)) (by omega) (by omega)
    refine ⟨r', u', ?_, fun i hi => ?_, fun i hi => ?_⟩
    · rw [jf_Su_beginFrom_L12, nI_pred, if_neg (nI_pos (by omega))]
      simp only [jlet]
      rw [show (5 : Int32) = nI 5 from rfl, pk_rem hlt (by omega) (by omega), pk_div hlt (by omega) (by omega), e1, e2, pk_rem (by omega) (by omega) (by omega), pk_div (by omega) (by omega) (by omega), e3, e4, jput_nI _ _ (by omega) (by decide), jput_nI _ _ (by omega) (by decide), m1_add]
      exact i1
    · by_cases c : i = k
      · subst c
        have := i3 i (Nat.le_refl i)
        rw [this.1, this.2]
        exact ⟨upd_at _ _ _, upd_at _ _ _⟩
      · exact i2 i (by omega)
    · have := i3 i (by omega)
      rw [this.1, this.2, upd_ne _ _ (by omega), upd_ne _ _ (by omega)]
      exact ⟨rfl, rfl⟩
theorem k_begin {n : Nat} {f f' g g' : Nat → Nat} (hn : n ≤ 5) (hf : sP n f f') (hg : sP n g g') (sq : Int32) (right up left down : Nat → Int32) : ∃ right' up' left' down', jf_Su_beginFrom sq right up left down (nI (cEnc n f g)) (nI n) = some (nI n, right', up', left', down') ∧ sR n right' f ∧ sR n up' g ∧ sR n left' f' ∧ sR n down' g' := by
  have hl := f_pow5 hn (cEnc_lt hn (fun k hk => (hf k hk).1) (fun k hk => (hg k hk).1))
  obtain ⟨r', u', e1, e2, -⟩ := k_begin0 (f := f) (g := g) n jF right up hn (fun i hi => ⟨Nat.lt_of_lt_of_le (hf i hi).1 hn, Nat.lt_of_lt_of_le (hg i hi).1 hn⟩) (jF_gt (by omega)) (by omega)
  obtain ⟨l', d', e3, h3, h4⟩ := s_glue hn hf hg (fun k hk => (e2 k hk).1) (fun k hk => (e2 k hk).2) left down
  refine ⟨r', u', l', d', ?_, fun k hk => (e2 k hk).1, fun k hk => (e2 k hk).2, h3, h4⟩
  unfold jf_Su_beginFrom
  simp only [jlet]
  rw [e1]
  simp only [Option.bind]
  rw [e3]
def kGood (n wd L T p v : Nat) : Prop := (∃ f f' g g', sP n f f' ∧ sP n g g' ∧ v = cEnc n f g) ∧ cIn wd L T p v = true
theorem kGood_lt {n wd L T p v : Nat} (hn : n ≤ 5) (h : kGood n wd L T p v) : v < 9765626 := by
  obtain ⟨⟨f, f', g, g', hf, hg, rfl⟩, -⟩ := h
  exact f_pow5 hn (cEnc_lt hn (fun k hk => (hf k hk).1) (fun k hk => (hg k hk).1))
theorem kGood_of {n wd L T p v : Nat} {r s u w : Nat → Nat} (hr : sP n r s) (hu : sP n u w) (h : cBest n r u v) (hc : cIn wd L T p v = true) : kGood n wd L T p v := by
  obtain ⟨⟨σ, τ, hs, hv⟩, -⟩ := h
  exact ⟨⟨_, _, _, _, sP_comp (sP_comp (sP_inv hs) hr) hs, sP_comp (sP_comp (sP_inv hs) hu) hs, hv⟩, hc⟩
def kHash (T p v : Nat) : Nat := Nat.mod (Nat.shiftRight T (Nat.mul 8 (Nat.mod v p))) 256
theorem kHash_at {wd L T p v : Nat} (h : cIn wd L T p v = true) : kHash T p v < wd ∧ Nat.mod (Nat.shiftRight L (Nat.mul 24 (kHash T p v))) 16777216 = v := by
  have h2 : (Nat.blt (kHash T p v) wd && Nat.beq (Nat.mod (Nat.shiftRight L (Nat.mul 24 (kHash T p v))) 16777216) v) = true := h
  rw [Bool.and_eq_true, Nat.blt_eq] at h2
  exact ⟨h2.1, Nat.eq_of_beq_eq_true h2.2⟩
theorem kHash_inj {wd L T p v v' : Nat} (h : cIn wd L T p v = true) (h' : cIn wd L T p v' = true) (e : kHash T p v = kHash T p v') : v = v' := by
  have a := (kHash_at h).2
  rw [e, (kHash_at h').2] at a
  exact a.symm
def kRel (n wd L T p F : Nat) (C : Nat → Nat) (cc mc : Nat → Int32) : Prop := F ≤ 161 ∧ (∀ i, i < F → cc i = nI (C i) ∧ mc i = nI (C i) ∧ kGood n wd L T p (C i)) ∧ ∀ i j, i < j → j < F → C i ≠ C j
theorem k_room {n wd L T p F v : Nat} {C : Nat → Nat} {cc mc : Nat → Int32} (hw : wd ≤ 161) (h : kRel n wd L T p F C cc mc) (hv : kGood n wd L T p v) (hno : ∀ i, i < F → C i ≠ v) : F < 161 := by
  obtain ⟨h1, h2, h3⟩ := h
  by_cases c : F < 161
  · exact c
  · have hF : F = 161 := by omega
    subst hF
    obtain ⟨i, j, hij, hj, e⟩ := jphp 161 (fun i => kHash T p (if i < 161 then C i else v)) (fun i _ => by
      show kHash T p (if i < 161 then C i else v) < 161
      split
      · rename_i hi
        exact Nat.lt_of_lt_of_le (kHash_at (h2 i hi).2.2.2).1 hw
      · exact Nat.lt_of_lt_of_le (kHash_at hv.2).1 hw)
    have e : kHash T p (if i < 161 then C i else v) = kHash T p (if j < 161 then C j else v) := e
    rw [if_pos (show i < 161 by omega)] at e
    by_cases d : j < 161
    · rw [if_pos d] at e
      exact absurd (kHash_inj (h2 i (by omega)).2.2.2 (h2 j d).2.2.2 e) (h3 i j hij d)
    · rw [if_neg d] at e
      exact absurd (kHash_inj (h2 i (by omega)).2.2.2 hv.2 e) (hno i (by omega))
theorem k_find0 {n wd L T p F v : Nat} {C : Nat → Nat} {cc mc : Nat → Int32} (hn : n ≤ 5) (h : kRel n wd L T p F C cc mc) (hv : kGood n wd L T p v) : ∀ j k m m2, k + j = F → j < m → j < m2 → ∃ g : Bool, jf_Ki_find_L2 (nI F) cc (nI v) m (nI k) = some (if g then .inl () else .inr ()) ∧ jf_Mo_withCode_L2 200 mc (nI F) (nI v) m2 (nI k) = some (if g then .inl () else .inr ()) ∧ (g = true ↔ ∃ i, k ≤ i ∧ i < F ∧ C i = v) := by
  obtain ⟨h1, h2, h3⟩ := h
  have lv := kGood_lt hn hv
  intro j
  induction j with
  | zero =>
    intro k m m2 e hm hm2
    obtain ⟨q, rfl⟩ : ∃ q, m = q + 1 := ⟨m - 1, by omega⟩
    obtain ⟨q2, rfl⟩ : ∃ q, m2 = q + 1 := ⟨m2 - 1, by omega⟩
    refine ⟨false, by rw [jf_Ki_find_L2, if_pos (nI_le (by omega) (by omega))]; rfl, by rw [jf_Mo_withCode_L2, if_pos (nI_le (by omega) (by omega))]; rfl, fun h => (by cases h), fun h => ?_⟩
    obtain ⟨i, a, b, _⟩ := h
    omega
  | succ j ih =>
    intro k m m2 e hm hm2
    obtain ⟨q, rfl⟩ : ∃ q, m = q + 1 := ⟨m - 1, by omega⟩
    obtain ⟨q2, rfl⟩ : ∃ q, m2 = q + 1 := ⟨m2 - 1, by omega⟩
    have hk : k < F := by omega
    obtain ⟨a1, a2, a3⟩ := h2 k hk
    have lk := kGood_lt hn a3
    rw [jf_Ki_find_L2, jf_Mo_withCode_L2, if_neg (nI_ge hk (by omega)), if_neg (nI_ge hk (by omega)), if_pos (jin_nI (n := 200) (by omega) (by decide)), jat_nI cc (by omega) (by decide), nI_clamp (by omega), a1, a2]
    by_cases c : C k = v
    · rw [if_pos (congrArg nI c), if_pos (congrArg nI c)]
      exact ⟨true, rfl, rfl, fun _ => ⟨k, Nat.le_refl k, hk, c⟩, fun _ => rfl⟩
    · rw [if_neg (fun x => c ((nI_eq (by omega) (by omega)).1 x)), if_neg (fun x => c ((nI_eq (by omega) (by omega)).1 x)), nI_1]
      obtain ⟨g, g1, g2, g3⟩ := ih (k + 1) q q2 (by omega) (by omega) (by omega)
      refine ⟨g, g1, g2, ?_⟩
      rw [g3]
      constructor
      · rintro ⟨i, x, y, z⟩; exact ⟨i, by omega, y, z⟩
      · rintro ⟨i, x, y, z⟩
        by_cases d : i = k
        · subst d; exact absurd z c
        · exact ⟨i, by omega, y, z⟩
