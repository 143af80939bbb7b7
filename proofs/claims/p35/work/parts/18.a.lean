/-! the SURFACE: two permutations and what undoes them -/
def sP (n : Nat) (r s : Nat → Nat) : Prop := ∀ k, k < n → r k < n ∧ s k < n ∧ r (s k) = k ∧ s (r k) = k
def sR (n : Nat) (f : Nat → Int32) (r : Nat → Nat) : Prop := ∀ k, k < n → f k = nI (r k)
theorem sP_inj {n : Nat} {r s : Nat → Nat} (h : sP n r s) {a b : Nat} (ha : a < n) (hb : b < n) (e : r a = r b) : a = b := by
  have h1 := (h a ha).2.2.2
  rw [e, (h b hb).2.2.2] at h1
  exact h1.symm
theorem sP_inv {n : Nat} {r s : Nat → Nat} (h : sP n r s) : sP n s r := fun k hk => ⟨(h k hk).2.1, (h k hk).1, (h k hk).2.2.2, (h k hk).2.2.1⟩
theorem sP_id (n : Nat) : sP n (fun k => k) (fun k => k) := fun k hk => ⟨hk, hk, rfl, rfl⟩
theorem sP_comp {n : Nat} {r s u w : Nat → Nat} (h : sP n r s) (h2 : sP n u w) : sP n (fun k => u (r k)) (fun k => s (w k)) := fun k hk => by
  have a := h k hk
  have b := h2 k hk
  refine ⟨(h2 _ a.1).1, (h _ b.2.1).2.1, ?_, ?_⟩
  · show u (r (s (w k))) = k
    rw [(h _ b.2.1).2.2.1, b.2.2.1]
  · show s (w (u (r k))) = k
    rw [(h2 _ a.1).2.2.2, a.2.2.2]
theorem jPm_sP {n : Nat} {f h : Nat → Int32} (hp : jPm n f h) : ∃ r s, sP n r s ∧ sR n f r ∧ sR n h s := by
  obtain ⟨r, s, hr⟩ := hp
  exact ⟨r, s, fun k hk => ⟨(hr k hk).1, (hr k hk).2.1, (hr k hk).2.2.1, (hr k hk).2.2.2.1⟩, fun k hk => (hr k hk).2.2.2.2.1, fun k hk => (hr k hk).2.2.2.2.2⟩
theorem sP_jPm {n : Nat} {f h : Nat → Int32} {r s : Nat → Nat} (hp : sP n r s) (hf : sR n f r) (hh : sR n h s) : jPm n f h :=
  ⟨r, s, fun k hk => ⟨(hp k hk).1, (hp k hk).2.1, (hp k hk).2.2.1, (hp k hk).2.2.2, hf k hk, hh k hk⟩⟩
theorem s_glue0 {n : Nat} {right up : Nat → Int32} {r s u w : Nat → Nat} (hn : n ≤ 5) (hr : sP n r s) (hu : sP n u w) (fr : sR n right r) (fu : sR n up u) : ∀ j k m left down, k + j = n → j < m → (∀ i, i < k → left (r i) = nI i ∧ down (u i) = nI i) → ∃ left' down', jf_Su_glueBack_L2 (nI n) right up m (nI k) left down = some (left', down') ∧ ∀ i, i < n → left' (r i) = nI i ∧ down' (u i) = nI i := by
  intro j
  induction j with
  | zero =>
    intro k m left down e hm h
    obtain ⟨q, rfl⟩ : ∃ q, m = q + 1 := ⟨m - 1, by omega⟩
    have : k = n := by omega
    subst this
    exact ⟨left, down, by rw [jf_Su_glueBack_L2, if_pos (nI_le (Nat.le_refl k) (by omega))], h⟩
  | succ j ih =>
    intro k m left down e hm h
    obtain ⟨q, rfl⟩ : ∃ q, m = q + 1 := ⟨m - 1, by omega⟩
    have a := hr k (by omega)
    have b := hu k (by omega)
    rw [jf_Su_glueBack_L2, if_neg (nI_ge (by omega) (by omega))]
    unfold jf_Su_rightOf jf_Su_upOf
    simp only [jlet]
    rw [jat_nI right (by omega) (by decide), jat_nI up (by omega) (by decide), fr k (by omega), fu k (by omega), jput_nI _ _ (by omega) (by decide), jput_nI _ _ (by omega) (by decide), nI_1]
    refine ih (k + 1) q _ _ (by omega) (by omega) (fun i hi => ?_)
    by_cases c : i = k
    · subst c; exact ⟨upd_at _ _ _, upd_at _ _ _⟩
    · have h1 := h i (by omega)
      rw [upd_ne _ _ (fun e2 => c (sP_inj hr (by omega) (by omega) e2)), upd_ne _ _ (fun e2 => c (sP_inj hu (by omega) (by omega) e2))]
      exact h1
theorem s_glue {n : Nat} {right up : Nat → Int32} {r s u w : Nat → Nat} (hn : n ≤ 5) (hr : sP n r s) (hu : sP n u w) (fr : sR n right r) (fu : sR n up u) (left down : Nat → Int32) : ∃ left' down', jf_Su_glueBack (nI n) right up left down = some (left', down') ∧ sR n left' s ∧ sR n down' w := by
  obtain ⟨left', down', e, h⟩ := s_glue0 hn hr hu fr fu n 0 jF left down (by omega) (jF_gt (by omega)) (fun i hi => absurd hi (Nat.not_lt_zero _))
  refine ⟨left', down', ?_, fun k hk => ?_, fun k hk => ?_⟩
  · unfold jf_Su_glueBack
    show Option.bind (jf_Su_glueBack_L2 (nI n) right up jF (nI 0) left down) _ = _
    rw [e]; rfl
  · have a := hr k hk
    have := (h (s k) a.2.1).1
    rwa [a.2.2.1] at this
  · have a := hu k hk
    have := (h (w k) a.2.1).2
    rwa [a.2.2.1] at this
theorem s_begin0 : ∀ j k m right up, k + j = 5 → j < m → (∀ i, i < k → right i = nI i ∧ up i = nI i) → ∃ right' up', jf_Su_begin_L7 m (nI k) right up = some (right', up') ∧ ∀ i, i < 5 → right' i = nI i ∧ up' i = nI i := by
  intro j
  induction j with
  | zero =>
    intro k m right up e hm h
    obtain ⟨q, rfl⟩ : ∃ q, m = q + 1 := ⟨m - 1, by omega⟩
    have : k = 5 := by omega
    subst this
    exact ⟨right, up, by rw [jf_Su_begin_L7, if_pos (show (5 : Int32) ≤ nI 5 by decide)], h⟩
  | succ j ih =>
    intro k m right up e hm h
    obtain ⟨q, rfl⟩ : ∃ q, m = q + 1 := ⟨m - 1, by omega⟩
    rw [jf_Su_begin_L7, if_neg (show ¬ (5 : Int32) ≤ nI k from nI_ge (b := 5) (by omega) (by decide))]
    simp only [jlet]
    rw [jput_nI _ _ (by omega) (by decide), jput_nI _ _ (by omega) (by decide), nI_1]
    refine ih (k + 1) q _ _ (by omega) (by omega) (fun i hi => ?_)
    by_cases c : i = k
    · subst c; exact ⟨upd_at _ _ _, upd_at _ _ _⟩
    · rw [upd_ne _ _ c, upd_ne _ _ c]; exact h i (by omega)
theorem s_mbegin {x : Nat} (hx : x ≤ 5) (z2 : Int32) : ∀ j k m right up, k + j = x → j < m → (∀ i, i < k → right i = nI i ∧ up i = nI i) → ∃ right' up', jf_Mo_surface_L39 (nI x) z2 m (nI k) right up = some (right', up') ∧ ∀ i, i < x → right' i = nI i ∧ up' i = nI i := by
  intro j
  induction j with
  | zero =>
    intro k m right up e hm h
    obtain ⟨q, rfl⟩ : ∃ q, m = q + 1 := ⟨m - 1, by omega⟩
    have : k = x := by omega
    subst this
    exact ⟨right, up, by rw [jf_Mo_surface_L39, if_pos (nI_le (Nat.le_refl k) (by omega))], h⟩
  | succ j ih =>
    intro k m right up e hm h
    obtain ⟨q, rfl⟩ : ∃ q, m = q + 1 := ⟨m - 1, by omega⟩
    rw [jf_Mo_surface_L39, if_neg (nI_ge (by omega) (by omega)), if_pos (jin_nI (n := 5) (by omega) (by decide)), if_pos (jin_nI (n := 5) (by omega) (by decide)), nI_clamp (by omega), nI_1]
    refine ih (k + 1) q _ _ (by omega) (by omega) (fun i hi => ?_)
    by_cases c : i = k
    · subst c; exact ⟨upd_at _ _ _, upd_at _ _ _⟩
    · rw [upd_ne _ _ c, upd_ne _ _ c]; exact h i (by omega)
theorem js_surface : jS_surface := by
  intro b _ _ sq right up left down _ _ _ _ th _ msq _ isB _ _ mr mu _ _ _ x1 hI
  have hI0 := hI
  obtain ⟨j1, j2, ⟨n, n1, n5, rfl, rfl, hpr, hpu, hk⟩, j4⟩ := hI0
  unfold jf_Bi_surface jf_Mo_surface jf_Mo_surface_b15 jf_Su_squares
  rcases jrange x1 1 5 with ⟨a1, a2, a3, a4⟩ | ⟨a3, a4⟩
  · obtain ⟨x, hx, rfl⟩ := jnat_of (by rw [Int32.le_iff_toInt_le] at a1 ⊢; rw [show (1 : Int32).toInt = 1 from rfl] at a1; rw [show (0 : Int32).toInt = 0 from rfl]; omega) (n := 5) a2 (by decide)
    have hx1 : 1 ≤ x := by
      rw [show (1 : Int32) = nI 1 from rfl] at a1
      exact (nI_leI (by omega) (by omega)).1 a1
    obtain ⟨r', u', e1, h1⟩ := s_begin0 5 0 jF right up (by omega) (jF_gt (by omega)) (fun i hi => absurd hi (Nat.not_lt_zero _))
    obtain ⟨mr', mu', e2, h2⟩ := s_mbegin hx (nI n) x 0 jF mr mu (by omega) (jF_gt (by omega)) (fun i hi => absurd hi (Nat.not_lt_zero _))
    have fr : sR x r' (fun k => k) := fun k hk => (h1 k (by omega)).1
    have fu : sR x u' (fun k => k) := fun k hk => (h1 k (by omega)).2
    obtain ⟨l', d', e3, h3, h4⟩ := s_glue hx (sP_id x) (sP_id x) fr fu left down
    rw [a3, a4, if_neg (show ¬ (1 : Int32) = 0 by decide), if_pos (show (0 : Int32) ≤ 0 by decide)]
    refine ⟨(nI n, 0, nI x, mr', mu'), ?_, Or.inl ⟨(nI n, nI x, r', u', l', d'), ?_, rfl, rfl, j1, j2, ⟨x, hx1, hx, rfl, rfl, sP_jPm (sP_id x) fr h3, sP_jPm (sP_id x) fu h4, fun k hk => ?_⟩, j4⟩⟩
    · show Option.bind (jf_Mo_surface_L39 (nI x) (nI n) jF (nI 0) mr mu) _ = _
      rw [e2]; rfl
    · simp only [jsum, jlet]
      unfold jf_Su_begin
      show Option.bind (Option.bind (jf_Su_begin_L7 jF (nI 0) right up) _) _ = _
      rw [e1]
      simp only [Option.bind]
      rw [e3]
    · show mr' k = r' k ∧ mu' k = u' k
      rw [(h1 k (by omega)).1, (h1 k (by omega)).2]
      exact h2 k hk
  · rw [a3, a4, if_pos rfl]
    exact ⟨(0, 1, nI n, mr, mu), rfl, Or.inr ⟨rfl, rfl, hI⟩⟩
theorem jsquare {n : Nat} (hn : n < 2 ^ 31) (x : Int32) : (∃ k, k < n ∧ x = nI k ∧ jf_Bi_checkPlace x (nI n) = .inl () ∧ jf_Mo_isSquare (nI n) x = 1) ∨ (jf_Bi_checkPlace x (nI n) = .inr eI ∧ jf_Mo_isSquare (nI n) x = 0) := jplace hn x
theorem sR_swap {n a b : Nat} {f g : Nat → Int32} (hn : n ≤ 5) (ha : a < n) (hb : b < n) (h : ∀ k, k < n → g k = f k) : jf_Bi_exchangeIn 5 f (nI a) (nI b) = upd (upd f a (f b)) b (f a) ∧ ∀ k, k < n → upd (upd g a (g b)) b (g a) k = upd (upd f a (f b)) b (f a) k := by
  constructor
  · unfold jf_Bi_exchangeIn
    simp only [jlet]
    rw [jat_nI f (by omega) (by decide), jat_nI f (by omega) (by decide), jput_nI _ _ (by omega) (by decide), jput_nI _ _ (by omega) (by decide)]
  · intro k hk
    exact upd_eq (fun _ => upd_eq (fun _ => h k hk) (h b hb)) (h a ha)
theorem js_glue : jS_glue := by
  intro b _ _ sq right up left down _ _ _ _ th _ msq _ isB _ _ mr mu _ _ _ x1 x2 x3 hI
  have hI0 := hI
  obtain ⟨j1, j2, ⟨n, n1, n5, rfl, rfl, hpr, hpu, hk⟩, j4⟩ := hI0
  unfold jf_Bi_glue jf_Mo_glue jf_Mo_glue_b21 jf_Su_squares
  rcases jsquare (n := n) (by omega) x1 with ⟨a, ha, rfl, e1, e2⟩ | ⟨e1, e2⟩
  · rcases jsquare (n := n) (by omega) x2 with ⟨c, hc, rfl, e3, e4⟩ | ⟨e3, e4⟩
    · have ja : jin (nI a) 5 = true := jin_nI (by omega) (by decide)
      have jc : jin (nI c) 5 = true := jin_nI (by omega) (by decide)
      have cr := sR_swap (f := right) (g := mr) n5 ha hc (fun k h => (hk k h).1)
      have cu := sR_swap (f := up) (g := mu) n5 ha hc (fun k h => (hk k h).2)
      have h3 : jb x3 = 0 ∨ jb x3 = 1 := by unfold jb; split <;> simp
      rw [e1, e2, e3, e4, if_neg (show ¬ (1 : Int32) = 0 by decide), if_neg (show ¬ (1 : Int32) = 0 by decide)]
      simp only [jsum]
      unfold jf_Mo_glue_b22 jf_Su_exchangeTwo jf_Su_exchangeTwo_b15 jf_Su_exchangeTwo_b15_1
      simp only [jlet]
      rw [if_pos (show (0 : Int32) ≤ 0 by decide), if_pos ja, if_pos jc, if_pos ja, if_pos jc, if_pos ja, if_pos ja, if_pos jc, if_pos ja, if_pos jc, if_pos ja, nI_clamp (by omega), nI_clamp (by omega), cr.1, cu.1]
      rcases h3 with h3 | h3
      · rw [h3, if_pos rfl, if_pos rfl]
        obtain ⟨g', hg'⟩ := jPm_swap hpr ha hc
        obtain ⟨r, s, p1, p2, p3⟩ := jPm_sP hg'
        obtain ⟨u, w, p4, p5, p6⟩ := jPm_sP hpu
        obtain ⟨l', d', e5, h5, h6⟩ := s_glue n5 p1 p4 p2 p5 left down
        rw [e5]
        simp only [Option.bind]
        refine ⟨_, rfl, Or.inl ⟨_, rfl, rfl, ?_, j1, j2, ⟨n, n1, n5, rfl, rfl, sP_jPm p1 p2 h5, sP_jPm p4 p5 h6, fun k h => ⟨cr.2 k h, (hk k h).2⟩⟩, j4⟩⟩
        show upd (upd mr a (mr c)) c (mr a) a = jat 5 (upd (upd right a (right c)) c (right a)) (nI a)
        rw [jat_nI _ (by omega) (by decide)]
        exact cr.2 a ha
      · rw [h3, if_neg (show ¬ (1 : Int32) = 0 by decide), if_neg (show ¬ (1 : Int32) = 0 by decide)]
        obtain ⟨g', hg'⟩ := jPm_swap hpu ha hc
        obtain ⟨u, w, p4, p5, p6⟩ := jPm_sP hg'
        obtain ⟨r, s, p1, p2, p3⟩ := jPm_sP hpr
        obtain ⟨l', d', e5, h5, h6⟩ := s_glue n5 p1 p4 p2 p5 left down
        rw [e5]
        simp only [Option.bind]
        refine ⟨_, rfl, Or.inl ⟨_, rfl, rfl, ?_, j1, j2, ⟨n, n1, n5, rfl, rfl, sP_jPm p1 p2 h5, sP_jPm p4 p5 h6, fun k h => ⟨(hk k h).1, cu.2 k h⟩⟩, j4⟩⟩
        show upd (upd mu a (mu c)) c (mu a) a = jat 5 (upd (upd up a (up c)) c (up a)) (nI a)
        rw [jat_nI _ (by omega) (by decide)]
        exact cu.2 a ha
    · rw [e1, e2, e3, e4]
      exact ⟨(0, 1, mr, mu), rfl, Or.inr ⟨rfl, rfl, hI⟩⟩
  · rw [e1, e2]
    exact ⟨(0, 1, mr, mu), rfl, Or.inr ⟨rfl, rfl, hI⟩⟩
