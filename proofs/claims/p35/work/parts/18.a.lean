/-! the SURFACE: two permutations and what undoes them -/
def sP (n : Nat) (r s : Nat → Nat) : Prop := ∀ k, k < n → r k < n ∧ s k < n ∧ r (s k) = k ∧ s (r k) = k
def sR (n : Nat) (f : Nat → Int32) (r : Nat → Nat) : Prop := ∀ k, k < n → f k = nI (r k)
theorem sP_inj {n : Nat} {r s : Nat → Nat} (h : sP n r s) {a b : Nat} (ha : a < n) (hb : b < n) (e : r a = r b) : a = b := by
  have h1 := (h a ha).2.2.2
  rw [e, (h b hb).2.2.2] at h1
  exact h1.symm
theorem sP_inv {n : Nat} {r s : Nat → Nat} (h : sP n r s) : sP n s r := fun k hk => ⟨(h k hk).2.1, (h k hk).1, (h k hk).2.2.2, (h k hk).2.2.1⟩
theorem sP_id (n : Nat) : sP n (fun k => k) (fun k => k) := fun k hk => ⟨hk, hk, rfl, rfl⟩
theorem sP_comp {n : Nat} {r s u w : Nat → Nat} (h : sP n r s) (h2 : sP n u w) : sP n (fun k => u (r k)) (fun k => s (w k)) := fun k hk => by
  have a := h k hk
  have b := h2 k hk
  refine ⟨(h2 _ a.1).1, (h _ b.2.1).2.1, ?_, ?_⟩
  · show u (r (s (w k))) = k
    rw [(h _ b.2.1).2.2.1, b.2.2.1]
  · show s (w (u (r k))) = k
    rw [(h2 _ a.1).2.2.2, a.2.2.2]
theorem jPm_sP {n : Nat} {f h : Nat → Int32} (hp : jPm n f h) : ∃ r s, sP n r s ∧ sR n f r ∧ sR n h s := by
  obtain ⟨r, s, hr⟩ := hp
  exact ⟨r, s, fun k hk => ⟨(hr k hk).1, (hr k hk).2.1, (hr k hk).2.2.1, (hr k hk).2.2.2.1⟩, fun k hk => (hr k hk).2.2.2.2.1, fun k hk => (hr k hk).2.2.2.2.2⟩
theorem sP_jPm {n : Nat} {f h : Nat → Int32} {r s : Nat → Nat} (hp : sP n r s) (hf : sR n f r) (hh : sR n h s) : jPm n f h :=
  ⟨r, s, fun k hk => ⟨(hp k hk).1, (hp k hk).2.1, (hp k hk).2.2.1, (hp k hk).2.2.2, hf k hk, hh k hk⟩⟩
theorem s_glue0 {n : Nat} {right up : Nat → Int32} {r s u w : Nat → Nat} (hn : n ≤ 5) (hr : sP n r s) (hu : sP n u w) (fr : sR n right r) (fu : sR n up u) : ∀ j k m left down, k + j = n → j < m → (∀ i, i < k → left (r i) = nI i ∧ down (u i) = nI i) → ∃ left' down', jf_Su_glueBack_L2 (nI n) right up m (nI k) left down = some (left', down') ∧ ∀ i, i < n → left' (r i) = nI i ∧ down' (u i) = nI i := by
  intro j
  induction j with
  | zero =>
    intro k m left down e hm h
    obtain ⟨q, rfl⟩ : ∃ q, m = q + 1 := ⟨m - 1, by omega⟩
    have : k = n := by omega
    subst this
    exact ⟨left, down, by rw [jf_Su_glueBack_L2, if_pos (nI_le (Nat.le_refl k) (by omega))], h⟩
  | succ j ih =>
    intro k m left down e hm h
    obtain ⟨q, rfl⟩ : ∃ q, m = q + 1 := ⟨m - 1, by omega⟩
    have a := hr k (by omega)
    have b := hu k (by omega)
    rw [jf_Su_glueBack_L2, if_neg (nI_ge (by omega) (by omega))]
    unfold jf_Su_rightOf jf_Su_upOf
    simp only [jlet]
    rw [jat_nI right (by omega) (by decide), jat_nI up (by omega) (by decide), fr k (by omega), fu k (by omega), jput_nI _ _ (by omega) (by decide), jput_nI _ _ (by omega) (by decide), nI_1]
    refine ih (k + 1) q _ _ (by omega) (by omega) (fun i hi => ?_)
    by_cases c : i = k
    · subst c; exact ⟨upd_at _ _ _, upd_at _ _ _⟩
    · have h1 := h i (by omega)
      rw [upd_ne _ _ (fun e2 => c (sP_inj hr (by omega) (by omega) e2)), upd_ne _ _ (fun e2 => c (sP_inj hu (by omega) (by omega) e2))]
      exact h1
theorem s_glue {n : Nat} {right up : Nat → Int32} {r s u w : Nat → Nat} (hn : n ≤ 5) (hr : sP n r s) (hu : sP n u w) (fr : sR n right r) (fu : sR n up u) (left down : Nat → Int32) : ∃ left' down', jf_Su_glueBack (nI n) right up left down = some (left', down') ∧ sR n left' s ∧ sR n down' w := by
  obtain ⟨left', down', e, h⟩ := s_glue0 hn hr hu fr fu n 0 jF left down (by omega) (jF_gt (by omega)) (fun i hi => absurd hi (Nat.not_lt_zero _))
  refine ⟨left', down', ?_, fun k hk => ?_, fun k hk => ?_⟩
  · unfold jf_Su_glueBack
    show Option.bind (jf_Su_glueBack_L2 (nI n) right up jF (nI 0) left down) _ = _
    rw [e]; rfl
  · have a := hr k hk
    have := (h (s k) a.2.1).1
    rwa [a.2.2.1] at this
  · have a := hu k hk
    have := (h (w k) a.2.1).2
    rwa [a.2.2.1] at this
theorem s_begin0 : ∀ j k m right up, k + j = 5 → j < m → (∀ i, i < k → right i = nI i ∧ up i = nI i) → ∃ right' up', jf_Su_begin_L7 m (nI k) right up = some (right', up') ∧ ∀ i, i < 5 → right' i = nI i ∧ up' i = nI i := by
  intro j
  induction j with
  | zero =>
    intro k m right up e hm h
    obtain ⟨q, rfl⟩ : ∃ q, m = q + 1 := ⟨m - 1, by omega⟩
    have : k = 5 := by omega
    subst this
    exact ⟨right, up, by rw [jf_Su_begin_L7, if_pos (show (5 : Int32) ≤ nI 5 by decide)], h⟩
  | succ j ih =>
    intro k m right up e hm h
    obtain ⟨q, rfl⟩ : ∃ q, m = q + 1 := ⟨m - 1, by omega⟩
    rw [jf_Su_begin_L7, if_neg (show ¬ (5 : Int32) ≤ nI k from nI_ge (b := 5) (by omega) (by decide))]
    simp only [jlet]
    rw [jput_nI _ _ (by omega) (by decide), jput_nI _ _ (by omega) (by decide), nI_1]
    refine ih (k + 1) q _ _ (by omega) (by omega) (fun i hi => ?_)
    by_cases c : i = k
    · subst c; exact ⟨upd_at _ _ _, upd_at _ _ _⟩
    · rw [upd_ne _ _ c, upd_ne _ _ c]; exact h i (by omega)
theorem sR_swap {n a b : Nat} {f g : Nat → Int32} (hn : n ≤ 5) (ha : a < n) (hb : b < n) (h : ∀ k, k < n → g k = f k) : jf_Bi_exchangeIn 5 f (nI a) (nI b) = upd (upd f a (f b)) b (f a) ∧ ∀ k, k < n → upd (upd g a (g b)) b (g a) k = upd (upd f a (f b)) b (f a) k := by
  constructor
  · unfold jf_Bi_exchangeIn
    simp only [jlet]
    rw [jat_nI f (by omega) (by decide), jat_nI f (by omega) (by decide), jput_nI _ _ (by omega) (by decide), jput_nI _ _ (by omega) (by decide)]
  · intro k hk
    exact upd_eq (fun _ => upd_eq (fun _ => h k hk) (h b hb)) (h a ha)
