/-! p35: shears, turns, and all kin -/
theorem w_shear {n : Nat} {right up : Nat → Int32} {r s u w : Nat → Nat} (hn : n ≤ 5) (hr : sP n r s) (hu : sP n u w) (fr : sR n right r) (fu : sR n up u) : ∃ up', jf_Lw_shears right up (nI n) = some up' ∧ sR n up' (fun k => u (r k)) := by
  have h1 : ∀ j k m f, k + j = n → j < m → (∀ i, i < k → f i = nI (u (r i))) → ∃ f', jf_Lw_shears_L7 right up (nI n) m (nI k) f = some f' ∧ sR n f' (fun i => u (r i)) := by
    intro j
    induction j with
    | zero =>
      intro k m f e hm hf
      obtain ⟨q, rfl⟩ : ∃ q, m = q + 1 := ⟨m - 1, by omega⟩
      have : k = n := by omega
      subst this
      exact ⟨f, by rw [jf_Lw_shears_L7, if_pos (nI_le (Nat.le_refl k) (by omega))], hf⟩
    | succ j ih =>
      intro k m f e hm hf
      obtain ⟨q, rfl⟩ : ∃ q, m = q + 1 := ⟨m - 1, by omega⟩
      have hk : k < n := by omega
      have hrk := (hr k hk).1
      have h5 : jin (nI k) 5 = true := jin_nI (by omega) (by decide)
      rw [jf_Lw_shears_L7, if_neg (nI_ge hk (by omega)), if_pos h5, nI_clamp (by omega), fr k hk, if_pos (jin_nI (by omega) (by decide)), if_pos h5, nI_clamp (by omega), fu _ hrk, nI_1]
      refine ih (k + 1) q _ (by omega) (by omega) (fun i hi => ?_)
      by_cases c : i = k
      · subst c; exact upd_at _ _ _
      · rw [upd_ne _ _ c]; exact hf i (by omega)
  have h2 : ∀ (sp : Nat → Int32) (v : Nat → Nat), sR n sp v → ∀ j k m f, k + j = n → j < m → (∀ i, i < k → f i = nI (v i)) → ∃ f', jf_Lw_shears_L32 sp (nI n) m (nI k) f = some f' ∧ sR n f' v := by
    intro sp v hv j
    induction j with
    | zero =>
      intro k m f e hm hf
      obtain ⟨q, rfl⟩ : ∃ q, m = q + 1 := ⟨m - 1, by omega⟩
      have : k = n := by omega
      subst this
      exact ⟨f, by rw [jf_Lw_shears_L32, if_pos (nI_le (Nat.le_refl k) (by omega))], hf⟩
    | succ j ih =>
      intro k m f e hm hf
      obtain ⟨q, rfl⟩ : ∃ q, m = q + 1 := ⟨m - 1, by omega⟩
      have hk : k < n := by omega
      have h5 : jin (nI k) 5 = true := jin_nI (by omega) (by decide)
      rw [jf_Lw_shears_L32, if_neg (nI_ge hk (by omega)), if_pos h5, if_pos h5, nI_clamp (by omega), hv k hk, nI_1]
      refine ih (k + 1) q _ (by omega) (by omega) (fun i hi => ?_)
      by_cases c : i = k
      · subst c; exact upd_at _ _ _
      · rw [upd_ne _ _ c]; exact hf i (by omega)
  obtain ⟨sp, e1, hv⟩ := h1 n 0 jF (fun _ => 0) (by omega) (jF_gt (by omega)) (fun i hi => absurd hi (Nat.not_lt_zero _))
  obtain ⟨up', e2, hw⟩ := h2 sp _ hv n 0 jF up (by omega) (jF_gt (by omega)) (fun i hi => absurd hi (Nat.not_lt_zero _))
  refine ⟨up', ?_, hw⟩
  unfold jf_Lw_shears
  rw [show jf_Lw_shears_L7 right up (nI n) jF 0 (fun _ => 0) = some sp from e1]
  simp only [Option.bind]
  rw [show jf_Lw_shears_L32 sp (nI n) jF 0 up = some up' from e2]
theorem w_turn {n : Nat} {right up : Nat → Int32} {r s u w : Nat → Nat} (hn : n ≤ 5) (hr : sP n r s) (hu : sP n u w) (fr : sR n right r) (fu : sR n up u) : ∃ right' up', jf_Lw_turns right up (nI n) = some (right', up') ∧ sR n right' u ∧ sR n up' s := by
  have h1 : ∀ j k m f, k + j = n → j < m → (∀ i, i < k → f (r i) = nI i) → ∃ f', jf_Lw_turns_L7 right (nI n) m (nI k) f = some f' ∧ ∀ i, i < n → f' (r i) = nI i := by
    intro j
    induction j with
    | zero =>
      intro k m f e hm hf
      obtain ⟨q, rfl⟩ : ∃ q, m = q + 1 := ⟨m - 1, by omega⟩
      have : k = n := by omega
      subst this
      exact ⟨f, by rw [jf_Lw_turns_L7, if_pos (nI_le (Nat.le_refl k) (by omega))], hf⟩
    | succ j ih =>
      intro k m f e hm hf
      obtain ⟨q, rfl⟩ : ∃ q, m = q + 1 := ⟨m - 1, by omega⟩
      have hk : k < n := by omega
      have hrk := (hr k hk).1
      have h5 : jin (nI k) 5 = true := jin_nI (by omega) (by decide)
      rw [jf_Lw_turns_L7, if_neg (nI_ge hk (by omega)), if_pos h5, nI_clamp (by omega), fr k hk, if_pos (jin_nI (by omega) (by decide)), nI_clamp (by omega), nI_1]
      refine ih (k + 1) q _ (by omega) (by omega) (fun i hi => ?_)
      by_cases c : i = k
      · subst c; exact upd_at _ _ _
      · rw [upd_ne _ _ (fun e2 => c (sP_inj hr (by omega) (by omega) e2))]; exact hf i (by omega)
  have h2 : ∀ (sp : Nat → Int32), sR n sp s → ∀ j k m f g, k + j = n → j < m → (∀ i, i < k → f i = nI (u i) ∧ g i = nI (s i)) → (∀ i, k ≤ i → i < n → g i = nI (u i)) → ∃ f' g', jf_Lw_turns_L30 sp (nI n) m (nI k) f g = some (f', g') ∧ sR n f' u ∧ sR n g' s := by
    intro sp hv j
    induction j with
    | zero =>
      intro k m f g e hm hf hg
      obtain ⟨q, rfl⟩ : ∃ q, m = q + 1 := ⟨m - 1, by omega⟩
      have : k = n := by omega
      subst this
      exact ⟨f, g, by rw [jf_Lw_turns_L30, if_pos (nI_le (Nat.le_refl k) (by omega))], fun i hi => (hf i hi).1, fun i hi => (hf i hi).2⟩
    | succ j ih =>
      intro k m f g e hm hf hg
      obtain ⟨q, rfl⟩ : ∃ q, m = q + 1 := ⟨m - 1, by omega⟩
      have hk : k < n := by omega
      have h5 : jin (nI k) 5 = true := jin_nI (by omega) (by decide)
      rw [jf_Lw_turns_L30, if_neg (nI_ge hk (by omega)), if_pos h5, if_pos h5, if_pos h5, if_pos h5, nI_clamp (by omega), hv k hk, hg k (Nat.le_refl k) hk, nI_1]
      refine ih (k + 1) q _ _ (by omega) (by omega) (fun i hi => ?_) (fun i h1 h2 => ?_)
      · by_cases c : i = k
        · subst c; exact ⟨upd_at _ _ _, upd_at _ _ _⟩
        · rw [upd_ne _ _ c, upd_ne _ _ c]; exact hf i (by omega)
      · rw [upd_ne _ _ (by omega)]; exact hg i (by omega) h2
  obtain ⟨sp, e1, hv⟩ := h1 n 0 jF (fun _ => 0) (by omega) (jF_gt (by omega)) (fun i hi => absurd hi (Nat.not_lt_zero _))
  have hv2 : sR n sp s := fun k hk => by
    have := hv (s k) (hr k hk).2.1
    rw [(hr k hk).2.2.1] at this
    exact this
  obtain ⟨right', up', e2, hw, hw2⟩ := h2 sp hv2 n 0 jF right up (by omega) (jF_gt (by omega)) (fun i hi => absurd hi (Nat.not_lt_zero _)) (fun i _ hi => fu i hi)
  refine ⟨right', up', ?_, hw, hw2⟩
  unfold jf_Lw_turns
  rw [show jf_Lw_turns_L7 right (nI n) jF 0 (fun _ => 0) = some sp from e1]
  simp only [Option.bind]
  rw [show jf_Lw_turns_L30 sp (nI n) jF 0 right up = some (right', up') from e2]
/-- three rows as one -/
def kW (a b c : Nat → Int32) : Nat → Int32 := fun i => if i < 64 then a i else if i < 128 then b (i - 64) else c (i - 128)
theorem kW_upd (a b c : Nat → Int32) {F : Nat} (hF : F < 192) (x : Int32) : (if F < 64 then kW (upd a F x) b c else if F < 128 then kW a (upd b (F - 64) x) c else kW a b (upd c (F - 128) x)) = upd (kW a b c) F x := by
  by_cases h1 : F < 64
  · rw [if_pos h1]
    funext i
    unfold kW upd
    show _ = (if i = F then x else if i < 64 then a i else if i < 128 then b (i - 64) else c (i - 128))
    by_cases c1 : i = F
    · subst c1; rw [if_pos h1, if_pos rfl, if_pos rfl]
    · by_cases c2 : i < 64
      · rw [if_pos c2, if_neg c1, if_neg c1, if_pos c2]
      · rw [if_neg c2, if_neg c1, if_neg c2]
  · rw [if_neg h1]
    by_cases h2 : F < 128
    · rw [if_pos h2]
      funext i
      unfold kW upd
      show _ = (if i = F then x else if i < 64 then a i else if i < 128 then b (i - 64) else c (i - 128))
      by_cases c1 : i = F
      · subst c1; rw [if_neg h1, if_pos h2, if_pos rfl, if_pos rfl]
      · by_cases c2 : i < 64
        · rw [if_pos c2, if_neg c1, if_pos c2]
        · rw [if_neg c2, if_neg c1, if_neg c2]
          by_cases c3 : i < 128
          · rw [if_pos c3, if_pos c3, if_neg (by omega)]
          · rw [if_neg c3, if_neg c3]
    · rw [if_neg h2]
      funext i
      unfold kW upd
      show _ = (if i = F then x else if i < 64 then a i else if i < 128 then b (i - 64) else c (i - 128))
      by_cases c1 : i = F
      · subst c1; rw [if_neg h1, if_neg h2, if_pos rfl, if_pos rfl]
      · by_cases c2 : i < 64
        · rw [if_pos c2, if_neg c1, if_pos c2]
        · rw [if_neg c2, if_neg c1, if_neg c2]
          by_cases c3 : i < 128
          · rw [if_pos c3, if_pos c3]
          · rw [if_neg c3, if_neg c3, if_neg (by omega)]
/-- a place of the three rows, as the law finds it -/
theorem kW_pick {α : Type} (a b c : Nat → Int32) {k : Nat} (hk : k < 192) (K : Int32 → Option α) : (if (64 : Int32) ≤ nI k then (if (128 : Int32) ≤ nI k then (if jin (nI k - 128) 64 = true then K (c (nI k - 128).toNatClampNeg) else none) else (if jin (nI k - 64) 64 = true then K (b (nI k - 64).toNatClampNeg) else none)) else (if jin (nI k) 64 = true then K (a (nI k).toNatClampNeg) else none)) = K (kW a b c k) := by
  unfold kW
  by_cases h1 : k < 64
  · rw [if_neg (ge_64 h1), if_pos (jin_nI h1 (by decide)), nI_clamp (by omega), if_pos h1]
  · rw [if_pos (le_64 (by omega) (by omega)), if_neg h1]
    by_cases h2 : k < 128
    · rw [if_neg (ge_128 h2), show (64 : Int32) = nI 64 from rfl, pk_sub (by omega), if_pos (jin_nI (by omega) (by decide)), nI_clamp (by omega), if_pos h2]
    · rw [if_pos (le_128 (by omega) (by omega)), show (128 : Int32) = nI 128 from rfl, pk_sub (by omega), if_pos (jin_nI (by omega) (by decide)), nI_clamp (by omega), if_neg h2]
theorem w_find {n wd L T p F v : Nat} {C : Nat → Nat} {cc a b c : Nat → Int32} (hn : n ≤ 5) (h : kRel n wd L T p F C cc (kW a b c)) (hv : kGood n wd L T p v) : ∀ j k m, k + j = F → j < m → ∃ g : Bool, jf_Lw_keeps_L3 a b c (nI v) (nI F) m (nI k) = some (if g then .inl () else .inr ()) ∧ (g = true ↔ ∃ i, k ≤ i ∧ i < F ∧ C i = v) := by
  obtain ⟨h1, h2, h3⟩ := h
  have lv := kGood_lt hn hv
  intro j
  induction j with
  | zero =>
    intro k m e hm
    obtain ⟨q, rfl⟩ : ∃ q, m = q + 1 := ⟨m - 1, by omega⟩
    refine ⟨false, by rw [jf_Lw_keeps_L3, if_pos (nI_le (by omega) (by omega))]; rfl, fun h => (by cases h), fun ⟨i, x, y, _⟩ => by omega⟩
  | succ j ih =>
    intro k m e hm
    obtain ⟨q, rfl⟩ : ∃ q, m = q + 1 := ⟨m - 1, by omega⟩
    have hk : k < F := by omega
    obtain ⟨-, a2, a3⟩ := h2 k hk
    have lk := kGood_lt hn a3
    rw [jf_Lw_keeps_L3, if_neg (nI_ge hk (by omega)), kW_pick a b c (by omega) (fun x => jf_Lw_keeps_b50 (jf_Lw_keeps_L3 a b c (nI v) (nI F) q) a b c (nI v) (nI F) (nI k) x), a2]
    unfold jf_Lw_keeps_b50
    by_cases d : C k = v
    · rw [if_pos (congrArg nI d)]
      exact ⟨true, rfl, fun _ => ⟨k, Nat.le_refl k, hk, d⟩, fun _ => rfl⟩
    · rw [if_neg (fun x => d ((nI_eq (by omega) (by omega)).1 x)), nI_1]
      obtain ⟨g, g1, g3⟩ := ih (k + 1) q (by omega) (by omega)
      refine ⟨g, g1, ?_⟩
      rw [g3]
      constructor
      · rintro ⟨i, x, y, z⟩; exact ⟨i, by omega, y, z⟩
      · rintro ⟨i, x, y, z⟩
        by_cases d2 : i = k
        · subst d2; exact absurd z d
        · exact ⟨i, by omega, y, z⟩
theorem w_keeps {n wd L T p F v : Nat} {C : Nat → Nat} {cc a b c : Nat → Int32} (hn : n ≤ 5) (hw : wd ≤ 161) (h : kRel n wd L T p F C cc (kW a b c)) (hv : kGood n wd L T p v) : ∃ F' C' cc' a' b' c', jf_Ki_find (nI F) cc (nI v) = some (nI F', cc') ∧ jf_Lw_keeps a b c (nI v) (nI F) = some (nI F', a', b', c') ∧ kRel n wd L T p F' C' cc' (kW a' b' c') ∧ F ≤ F' ∧ ∀ i, i < F → C' i = C i := by
  obtain ⟨g, g1, -, g3⟩ := k_find0 hn h hv F 0 jF jF (by omega) (jF_gt (by have := h.1; omega)) (jF_gt (by have := h.1; omega))
  obtain ⟨g', g1', g3'⟩ := w_find hn h hv F 0 jF (by omega) (jF_gt (by have := h.1; omega))
  have eg : g' = g := by rw [Bool.eq_iff_iff, g3, g3']
  rw [eg] at g1'
  unfold jf_Ki_find jf_Lw_keeps
  rw [show jf_Ki_find_L2 (nI F) cc (nI v) jF 0 = some (if g then .inl () else .inr ()) from g1, show jf_Lw_keeps_L3 a b c (nI v) (nI F) jF 0 = some (if g then .inl () else .inr ()) from g1']
  simp only [Option.bind]
  cases g with
  | true => exact ⟨F, C, cc, a, b, c, rfl, rfl, h, Nat.le_refl F, fun _ _ => rfl⟩
  | false =>
    have hno : ∀ i, i < F → C i ≠ v := fun i hi e => by
      have := g3.2 ⟨i, Nat.zero_le _, hi, e⟩
      cases this
    have hF := k_room hw h hv hno
    obtain ⟨h1, h2, h3⟩ := h
    have hU := kW_upd a b c (show F < 192 by omega) (nI v)
    have new : ∀ kw, kw = upd (kW a b c) F (nI v) → kRel n wd L T p (F + 1) (fun i => if i = F then v else C i) (upd cc F (nI v)) kw := by
      rintro kw rfl
      refine ⟨by omega, fun i hi => ?_, fun i j hij hj => ?_⟩
      · show upd cc F (nI v) i = nI (if i = F then v else C i) ∧ upd (kW a b c) F (nI v) i = nI (if i = F then v else C i) ∧ kGood n wd L T p (if i = F then v else C i)
        by_cases d : i = F
        · subst d; rw [if_pos rfl]; exact ⟨upd_at _ _ _, upd_at _ _ _, hv⟩
        · rw [if_neg d, upd_ne _ _ d, upd_ne _ _ d]; exact h2 i (by omega)
      · show (if i = F then v else C i) ≠ (if j = F then v else C j)
        rw [if_neg (show i ≠ F by omega)]
        by_cases d : j = F
        · rw [if_pos d]; exact hno i (by omega)
        · rw [if_neg d]; exact h3 i j hij (by omega)
    have e1 : (if (161 : Int32) ≤ nI F then some (nI F, cc) else jlet (jput 161 cc (nI F) (nI v)) (fun q_2 => some (nI F + 1, q_2))) = some (nI (F + 1), upd cc F (nI v)) := by
      rw [if_neg (ge_161 hF), jput_nI _ _ hF (by decide), nI_1]
      rfl
    unfold jf_Lw_keeps_b101
    by_cases d1 : F < 64
    · rw [if_pos d1] at hU
      refine ⟨F + 1, _, _, upd a F (nI v), b, c, e1, ?_, new _ hU, by omega, fun i hi => ?_⟩
      · show (if (64 : Int32) ≤ nI F then _ else _) = _
        rw [if_neg (ge_64 d1), if_pos (jin_nI d1 (by decide)), nI_clamp (by omega), nI_1]
      · show (if i = F then v else C i) = C i
        rw [if_neg (by omega)]
    · rw [if_neg d1] at hU
      by_cases d2 : F < 128
      · rw [if_pos d2] at hU
        refine ⟨F + 1, _, _, a, upd b (F - 64) (nI v), c, e1, ?_, new _ hU, by omega, fun i hi => ?_⟩
        · show (if (64 : Int32) ≤ nI F then _ else _) = _
          rw [if_pos (le_64 (by omega) (by omega)), if_neg (ge_128 d2), show (64 : Int32) = nI 64 from rfl, pk_sub (by omega), if_pos (jin_nI (by omega) (by decide)), nI_clamp (by omega), nI_1]
        · show (if i = F then v else C i) = C i
          rw [if_neg (by omega)]
      · rw [if_neg d2] at hU
        refine ⟨F + 1, _, _, a, b, upd c (F - 128) (nI v), e1, ?_, new _ hU, by omega, fun i hi => ?_⟩
        · show (if (64 : Int32) ≤ nI F then _ else _) = _
          rw [if_pos (le_64 (by omega) (by omega)), if_pos (le_128 (by omega) (by omega)), show (128 : Int32) = nI 128 from rfl, pk_sub (by omega), if_pos (jin_nI (by omega) (by decide)), nI_clamp (by omega), nI_1]
        · show (if i = F then v else C i) = C i
          rw [if_neg (by omega)]
/-- a code laid out -/
theorem w_lays {f g : Nat → Nat} (z0 z6 z9 z10 : Int32) : ∀ k m x y, k ≤ 5 → (∀ i, i < k → f i < 5 ∧ g i < 5) → k < m → cEnc k f g < 2 ^ 31 → ∃ x' y', jf_Lw_kinOf_L112 z0 z6 z9 z10 m (nI (cEnc k f g)) (nI k - 1) x y = some (x', y') ∧ (∀ i, i < k → x' i = nI (f i) ∧ y' i = nI (g i)) ∧ ∀ i, k ≤ i → x' i = x i ∧ y' i = y i := by
  intro k
  induction k with
  | zero =>
    intro m x y hk h hm hlt
    obtain ⟨q, rfl⟩ : ∃ q, m = q + 1 := ⟨m - 1, by omega⟩
    exact ⟨x, y, by rw [jf_Lw_kinOf_L112, if_pos (by decide)], fun i hi => absurd hi (Nat.not_lt_zero _), fun i _ => ⟨rfl, rfl⟩⟩
  | succ k ih =>
    intro m x y hk h hm hlt
    obtain ⟨q, rfl⟩ : ∃ q, m = q + 1 := ⟨m - 1, by omega⟩
    obtain ⟨hf, hg⟩ := h k (Nat.lt_succ_self k)
    have e := cEnc_succ k f g
    have h5 : jin (nI k) 5 = true := jin_nI (by omega) (by decide)
    obtain ⟨x', y', e1, e2, e3⟩ := ih q (upd x k (nI (f k))) (upd y k (nI (g k))) (by omega) (fun i hi => h i (by omega)) (by omega) (by omega)
    refine ⟨x', y', ?_, fun i hi => ?_, fun i hi => ?_⟩
    · have r5 : nI (cEnc (k + 1) f g) - nI (cEnc (k + 1) f g) / nI 5 * nI 5 = nI (cEnc (k + 1) f g % 5) := pk_rem hlt (by omega) (by omega)
      have d25 : nI (cEnc (k + 1) f g) / nI 25 = nI (cEnc (k + 1) f g / 25) := pk_div hlt (by omega) (by omega)
      have d5 : nI (cEnc (k + 1) f g) / nI 5 = nI (cEnc (k + 1) f g / 5) := pk_div hlt (by omega) (by omega)
      have r55 : nI (cEnc (k + 1) f g / 5) - nI (cEnc (k + 1) f g / 5) / nI 5 * nI 5 = nI (cEnc (k + 1) f g / 5 % 5) := pk_rem (Nat.lt_of_le_of_lt (Nat.div_le_self _ _) hlt) (by omega) (by omega)
      rw [jf_Lw_kinOf_L112, nI_pred, if_neg (nI_pos (by omega)), if_pos h5, if_pos h5, nI_clamp (by omega), show (5 : Int32) = nI 5 from rfl, show (25 : Int32) = nI 25 from rfl, r5, d25, d5, r55]
      simp only [jlet]
      rw [m1_add, show cEnc (k + 1) f g / 25 = cEnc k f g by omega, show cEnc (k + 1) f g / 5 % 5 = f k by omega, show cEnc (k + 1) f g % 5 = g k by omega]
      exact e1
    · by_cases c : i = k
      · subst c; rw [(e3 i (Nat.le_refl i)).1, (e3 i (Nat.le_refl i)).2, upd_at, upd_at]; exact ⟨rfl, rfl⟩
      · exact e2 i (by omega)
    · rw [(e3 i (by omega)).1, (e3 i (by omega)).2, upd_ne _ _ (by omega), upd_ne _ _ (by omega)]
      exact ⟨rfl, rfl⟩
