/-! the model's parts -/
theorem m_round {n : Nat} {right up : Nat → Int32} {r s u w : Nat → Nat} (hn : n ≤ 5) (hr : sP n r s) (hu : sP n u w) (fr : sR n right r) (fu : sR n up u) {k : Nat} (hk : k < n) : jf_Mo_round (nI n) right up (nI k) = some (nI (sG r s u w k)) := by
  have a1 := (hr k hk).1
  have a2 := (hu _ a1).1
  have a3 := (hr _ a2).2.1
  unfold jf_Mo_round sG
  rw [if_pos (jin_nI (n := 5) (by omega) (by decide)), nI_clamp (by omega), fr k hk, if_pos (jin_nI (n := 5) (by omega) (by decide)), nI_clamp (by omega), fu _ a1, m_leftOf hn hr fr a2]
  simp only [Option.bind]
  rw [m_downOf hn hu fu a3]
/-- the numbers met within t steps -/
def sO (g : Nat → Nat) (k : Nat) : Nat → Nat → Bool
  | 0, _ => false
  | t + 1, z => sO g k t z || (z == jit g t k)
theorem sO_iff (g : Nat → Nat) (k z : Nat) : ∀ t, sO g k t z = true ↔ ∃ i, i < t ∧ z = jit g i k
  | 0 => ⟨fun h => (by cases h), fun ⟨i, h, _⟩ => absurd h (Nat.not_lt_zero _)⟩
  | t + 1 => by
    rw [sO, Bool.or_eq_true, sO_iff g k z t, beq_iff_eq]
    constructor
    · rintro (⟨i, h1, h2⟩ | h2)
      · exact ⟨i, by omega, h2⟩
      · exact ⟨t, by omega, h2⟩
    · rintro ⟨i, h1, h2⟩
      by_cases c : i = t
      · subst c; exact Or.inr h2
      · exact Or.inl ⟨i, by omega, h2⟩
theorem s_per {n : Nat} {g g' : Nat → Nat} (hg : sP n g g') {k : Nat} (hk : k < n) : ∃ p, jPer g k p ∧ p ≤ n :=
  jper_ex (P := fun x => x < n) (g := g') (fun x h => (hg x h).1) (fun x h => (hg x h).2.2.2) (fun x h => h) hk
theorem s_itlt {n : Nat} {g g' : Nat → Nat} (hg : sP n g g') {k : Nat} (hk : k < n) (t : Nat) : jit g t k < n := jit_P (P := fun x => x < n) (fun x h => (hg x h).1) hk t
theorem s_fresh {n p : Nat} {g g' : Nat → Nat} (hg : sP n g g') {k : Nat} (hk : k < n) (hp : jPer g k p) {i t : Nat} (hi : i < t) (ht : t < p) : jit g t k ≠ jit g i k := by
  intro e
  have h1 : jit g t k = jit g i (jit g (t - i) k) := by rw [← jit_add]; congr 1; omega
  have h2 := jit_inv (P := fun x => x < n) (fun x h => (hg x h).1) (fun x h => (hg x h).2.2.2) (s_itlt hg hk (t - i)) i
  have h3 := jit_inv (P := fun x => x < n) (fun x h => (hg x h).1) (fun x h => (hg x h).2.2.2) hk i
  rw [← h1, e, h3] at h2
  exact hp.2.2 (t - i) (by omega) (by omega) h2.symm
theorem sO_cnt {n p : Nat} {g g' : Nat → Nat} (hg : sP n g g') {k : Nat} (hk : k < n) (hp : jPer g k p) : ∀ t, t ≤ p → jcnt n (sO g k t) = t
  | 0, _ => jcnt_false n
  | t + 1, h => by
    have h1 := jcnt_set (sO g k t) (s_itlt hg hk t)
    have h2 : sO g k t (jit g t k) = false := by
      cases c : sO g k t (jit g t k) with
      | false => rfl
      | true =>
        obtain ⟨i, a, b⟩ := (sO_iff g k _ t).1 c
        exact absurd b (s_fresh hg hk hp a (by omega))
    rw [h2, if_neg (by decide), sO_cnt hg hk hp t (by omega)] at h1
    exact h1
theorem sO_rel {n p : Nat} {g g' : Nat → Nat} {E : Nat → List Nat} (hg : sP n g g') (hE : ∀ a, a < n → E a = [g a]) {k : Nat} (hk : k < n) (hp : jPer g k p) {x : Nat} (hx : x < n) : sO g k p x = true ↔ sRel n E k x := by
  constructor
  · intro h S hS
    obtain ⟨i, h1, rfl⟩ := (sO_iff g k x p).1 h
    clear h h1 hx
    induction i with
    | zero => rfl
    | succ i ih =>
      rw [ih]
      have a := s_itlt hg hk i
      exact hS _ a _ (by rw [hE _ a]; exact List.mem_singleton.2 rfl)
  · intro h
    have hc : sClosed n E (sO g k p) := by
      intro a ha b hb
      rw [hE a ha, List.mem_singleton] at hb
      subst hb
      rw [Bool.eq_iff_iff, sO_iff, sO_iff]
      constructor
      · rintro ⟨i, h1, h2⟩
        have e : g a = jit g (i + 1) k := by rw [h2]; rfl
        by_cases c : i + 1 = p
        · exact ⟨0, hp.1, by rw [e, c, hp.2.1]; rfl⟩
        · exact ⟨i + 1, by omega, e⟩
      · rintro ⟨i, h1, h2⟩
        have inj : ∀ y, y < n → g a = g y → a = y := fun y hy e => sP_inj hg ha hy e
        cases i with
        | zero =>
          have p1 := hp.1
          obtain ⟨q, rfl⟩ : ∃ q, p = q + 1 := ⟨p - 1, by omega⟩
          refine ⟨q, by omega, inj _ (s_itlt hg hk q) ?_⟩
          rw [h2]
          exact hp.2.1.symm
        | succ i => exact ⟨i, by omega, inj _ (s_itlt hg hk i) h2⟩
    have h0 : sO g k p k = true := (sO_iff g k k p).2 ⟨0, hp.1, rfl⟩
    rw [← h _ hc]
    exact h0
theorem m_angle {n p : Nat} {right up : Nat → Int32} {r s u w : Nat → Nat} (hn : n ≤ 5) (hr : sP n r s) (hu : sP n u w) (fr : sR n right r) (fu : sR n up u) {k : Nat} (hk : k < n) (hp : jPer (sG r s u w) k p) (h5 : p ≤ n) : jf_Mo_angle (nI n) right up (nI k) = some (nI p) := by
  have hg := sG_P hr hu
  have key : ∀ j m t, t + j = p → 1 ≤ t → j < m → jf_Mo_angle_L8 (nI n) right up (nI k) m (nI t) (nI (jit (sG r s u w) t k)) = some (nI p) := by
    intro j
    induction j with
    | zero =>
      intro m t e ht hm
      obtain ⟨q, rfl⟩ : ∃ q, m = q + 1 := ⟨m - 1, by omega⟩
      have : t = p := by omega
      subst this
      rw [jf_Mo_angle_L8, hp.2.1, if_pos rfl]
    | succ j ih =>
      intro m t e ht hm
      obtain ⟨q, rfl⟩ : ∃ q, m = q + 1 := ⟨m - 1, by omega⟩
      have hl := s_itlt hg hk t
      rw [jf_Mo_angle_L8, if_neg (fun h => hp.2.2 t ht (by omega) ((nI_eq (by omega) (by omega)).1 h)), m_round hn hr hu fr fu hl, nI_1]
      exact ih q (t + 1) (by omega) (by omega) (by omega)
  unfold jf_Mo_angle
  rw [m_round hn hr hu fr fu hk]
  have h0 := key (p - 1) jF 1 (by have := hp.1; omega) (Nat.le_refl 1) (jF_gt (by omega))
  show Option.bind (jf_Mo_angle_L8 (nI n) right up (nI k) jF (nI 1) (nI (jit (sG r s u w) 1 k))) _ = _
  rw [h0]; rfl
theorem m_rowSize {n p : Nat} {right : Nat → Int32} {r s : Nat → Nat} (hn : n ≤ 5) (hr : sP n r s) (fr : sR n right r) {k : Nat} (hk : k < n) (hp : jPer r k p) (h5 : p ≤ n) : jf_Mo_rowSize right (nI k) = some (nI p) := by
  have key : ∀ j m t, t + j = p → 1 ≤ t → j < m → jf_Mo_rowSize_L9 right (nI k) m (nI t) (nI (jit r t k)) = some (nI p) := by
    intro j
    induction j with
    | zero =>
      intro m t e ht hm
      obtain ⟨q, rfl⟩ : ∃ q, m = q + 1 := ⟨m - 1, by omega⟩
      have : t = p := by omega
      subst this
      rw [jf_Mo_rowSize_L9, hp.2.1, if_pos rfl]
    | succ j ih =>
      intro m t e ht hm
      obtain ⟨q, rfl⟩ : ∃ q, m = q + 1 := ⟨m - 1, by omega⟩
      have hl := s_itlt hr hk t
      rw [jf_Mo_rowSize_L9, if_neg (fun h => hp.2.2 t ht (by omega) ((nI_eq (by omega) (by omega)).1 h)), if_pos (jin_nI (n := 5) (by omega) (by decide)), nI_clamp (by omega), fr _ hl, nI_1]
      exact ih q (t + 1) (by omega) (by omega) (by omega)
  unfold jf_Mo_rowSize
  have h0 := key (p - 1) jF 1 (by have := hp.1; omega) (Nat.le_refl 1) (jF_gt (by omega))
  rw [if_pos (jin_nI (n := 5) (by omega) (by decide)), nI_clamp (by omega), fr k hk]
  show Option.bind (jf_Mo_rowSize_L9 right (nI k) jF (nI 1) (nI (jit r 1 k))) _ = _
  rw [h0]; rfl
theorem m_angle1 {n : Nat} {right up : Nat → Int32} {r s u w : Nat → Nat} (hn : n ≤ 5) (hr : sP n r s) (hu : sP n u w) (fr : sR n right r) (fu : sR n up u) {k : Nat} (hk : k < n) : ∃ p, p ≤ 5 ∧ jf_Mo_angle (nI n) right up (nI k) = some (nI p) ∧ (nI p = 1 ↔ sG r s u w k = k) := by
  obtain ⟨p, hp, h5⟩ := s_per (sG_P hr hu) hk
  refine ⟨p, by omega, m_angle hn hr hu fr fu hk hp h5, ?_⟩
  rw [show (1 : Int32) = nI 1 from rfl, nI_eq (by omega) (by omega)]
  constructor
  · rintro rfl; exact hp.2.1
  · intro h
    have p1 := hp.1
    by_cases c : p = 1
    · exact c
    · exact absurd h (hp.2.2 1 (Nat.le_refl 1) (by omega))
theorem m_flat {n : Nat} {right up : Nat → Int32} {r s u w : Nat → Nat} (hn : n ≤ 5) (hr : sP n r s) (hu : sP n u w) (fr : sR n right r) (fu : sR n up u) {k : Nat} (hk : k < n) : jf_Mo_isFlat (nI n) right up (nI k) = some (if sFlat n r (sG r s u w) k then 1 else 0) := by
  obtain ⟨p, hp, h5⟩ := s_per hr hk
  have key : ∀ j t m (fl : Bool), t + j = p → 1 ≤ t → j < m → ∃ b : Bool, jf_Mo_isFlat_L22 (nI n) right up (nI k) m (if fl then 1 else 0) (nI (jit r t k)) = some (if b then 1 else 0) ∧ (b = true ↔ fl = true ∧ ∀ t', t ≤ t' → t' < p → sG r s u w (jit r t' k) = jit r t' k) := by
    intro j
    induction j with
    | zero =>
      intro t m fl e ht hm
      obtain ⟨q, rfl⟩ : ∃ q, m = q + 1 := ⟨m - 1, by omega⟩
      have : t = p := by omega
      subst this
      refine ⟨fl, ?_, fun h => ⟨h, fun t' h1 h2 => by omega⟩, fun h => h.1⟩
      rw [jf_Mo_isFlat_L22, hp.2.1, if_pos rfl]
    | succ j ih =>
      intro t m fl e ht hm
      obtain ⟨q, rfl⟩ : ∃ q, m = q + 1 := ⟨m - 1, by omega⟩
      have hl := s_itlt hr hk t
      obtain ⟨p2, p3, e4, e5⟩ := m_angle1 hn hr hu fr fu hl
      have hin : jin (nI (jit r t k)) 5 = true := jin_nI (by omega) (by decide)
      rw [jf_Mo_isFlat_L22, if_neg (fun h => hp.2.2 t ht (by omega) ((nI_eq (by omega) (by omega)).1 h)), e4]
      unfold jf_Mo_isFlat_b44 jf_Mo_isFlat_b45
      simp only [Option.bind, jlet]
      simp only [if_pos hin]
      rw [nI_clamp (by omega), fr _ hl]
      cases fl with
      | false =>
        obtain ⟨b, f1, f2⟩ := ih (t + 1) q false (by omega) (by omega) (by omega)
        rw [if_pos (by decide)]
        refine ⟨b, f1, ?_⟩
        rw [f2]
        constructor
        · intro h; cases h.1
        · intro h; cases h.1
      | true =>
        rw [if_neg (by decide)]
        by_cases c : sG r s u w (jit r t k) = jit r t k
        · obtain ⟨b, f1, f2⟩ := ih (t + 1) q true (by omega) (by omega) (by omega)
          rw [if_pos (e5.2 c)]
          refine ⟨b, f1, ?_⟩
          rw [f2]
          constructor
          · intro h
            refine ⟨rfl, fun t' h1 h2 => ?_⟩
            by_cases d : t' = t
            · subst d; exact c
            · exact h.2 t' (by omega) h2
          · intro h; exact ⟨rfl, fun t' h1 h2 => h.2 t' (by omega) h2⟩
        · obtain ⟨b, f1, f2⟩ := ih (t + 1) q false (by omega) (by omega) (by omega)
          rw [if_neg (fun h => c (e5.1 h))]
          refine ⟨b, f1, ?_⟩
          rw [f2]
          constructor
          · intro h; cases h.1
          · intro h; exact absurd (h.2 t (Nat.le_refl t) (by omega)) c
  obtain ⟨p2, p3, e4, e5⟩ := m_angle1 hn hr hu fr fu hk
  have p1 := hp.1
  have hin : jin (nI k) 5 = true := jin_nI (by omega) (by decide)
  have fin : ∀ b : Bool, (b = true ↔ sG r s u w k = k ∧ ∀ t', 1 ≤ t' → t' < p → sG r s u w (jit r t' k) = jit r t' k) → b = sFlat n r (sG r s u w) k := by
    intro b hb
    rw [Bool.eq_iff_iff, hb]
    unfold sFlat
    rw [jall_iff]
    constructor
    · intro h t ht
      rw [beq_iff_eq, jit_mod hp.1 hp.2.1 t]
      have hm := Nat.mod_lt t (show p > 0 by omega)
      by_cases d : t % p = 0
      · rw [d]; exact h.1
      · exact h.2 _ (by omega) hm
    · intro h
      exact ⟨beq_iff_eq.1 (h 0 (by omega)), fun t' h1 h2 => beq_iff_eq.1 (h t' (by omega))⟩
  unfold jf_Mo_isFlat jf_Mo_isFlat_b14
  rw [e4]
  simp only [Option.bind, jlet]
  rw [if_pos hin, if_pos hin, nI_clamp (by omega), fr k hk]
  by_cases c : sG r s u w k = k
  · obtain ⟨b, f1, f2⟩ := key (p - 1) 1 jF true (by omega) (Nat.le_refl 1) (jF_gt (by omega))
    rw [if_pos (e5.2 c)]
    have f3 : jf_Mo_isFlat_L22 (nI n) right up (nI k) jF 1 (nI (r k)) = some (if b then 1 else 0) := f1
    rw [f3, ← fin b (by rw [f2]; exact ⟨fun h => ⟨c, h.2⟩, fun h => ⟨rfl, h.2⟩⟩)]
    cases b <;> rfl
  · obtain ⟨b, f1, f2⟩ := key (p - 1) 1 jF false (by omega) (Nat.le_refl 1) (jF_gt (by omega))
    rw [if_neg (fun h => c (e5.1 h))]
    have f3 : jf_Mo_isFlat_L22 (nI n) right up (nI k) jF 0 (nI (r k)) = some (if b then 1 else 0) := f1
    rw [f3, ← fin b (by rw [f2]; exact ⟨fun h => (by cases h.1), fun h => absurd h.1 c⟩)]
    cases b <;> rfl
