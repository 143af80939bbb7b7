theorem jcnt_set {n c : Nat} (f : Nat → Bool) (hc : c < n) : jcnt n (fun k => f k || (k == c)) = jcnt n f + (if f c then 0 else 1) := by
  induction n with
  | zero => omega
  | succ n ih =>
    rw [jcnt, jcnt]
    by_cases e : c = n
    · subst e
      have h : jcnt c (fun k => f k || (k == c)) = jcnt c f := jcnt_eq fun k hk => by
        rw [show (k == c) = false from beq_eq_false_iff_ne.2 (by omega), Bool.or_false]
      rw [h, beq_self_eq_true, Bool.or_true]
      cases f c <;> rfl
    · rw [ih (by omega), show (n == c) = false from beq_eq_false_iff_ne.2 (by omega), Bool.or_false]
      omega
/-- the cells met within k steps -/
def rV (B : Nat → Bool) (s : Nat) : Nat → Nat → Bool
  | 0 => fun _ => false
  | k + 1 => fun c => rV B s k c || (c == jit (rA B) k s % 64)
theorem rxy : ∀ t, t < 512 → jf_Ro_xOf (nI t) + 8 * jf_Ro_yOf (nI t) = nI (t % 64) := jall_of (by decide +kernel)
theorem rc_cells (b : Int64) {s p : Nat} (h : rF (jbit b) s) (hp : jPer (rA (jbit b)) s p) (h5 : p ≤ 512) : ∀ j n k z, k + j = p → j < n → (∀ c, c < 64 → jbit z c = rV (jbit b) s k c) → ∃ z', jf_Ro_cellsRound_L8 b (nI s) n z (nI (jit (rA (jbit b)) k s)) (nI k) = some z' ∧ ∀ c, c < 64 → jbit z' c = rV (jbit b) s p c := by
  intro j
  induction j with
  | zero =>
    intro n k z e hn hz
    obtain ⟨q, rfl⟩ : ∃ q, n = q + 1 := ⟨n - 1, by omega⟩
    have : k = p := by omega
    subst this
    refine ⟨z, ?_, hz⟩
    rw [jf_Ro_cellsRound_L8]
    split
    · rfl
    · rw [if_neg (fun h => by rw [nI0_iff (by omega)] at h; have := hp.1; omega), hp.2.1, if_pos rfl]
  | succ j ih =>
    intro n k z e hn hz
    obtain ⟨q, rfl⟩ : ∃ q, n = q + 1 := ⟨n - 1, by omega⟩
    have hF := rA_it h k
    obtain ⟨z', e1, e2⟩ := ih q (k + 1) (z ||| jlshl 1 (nI (jit (rA (jbit b)) k s % 64))) (by omega) (by omega) (fun c hc => by
      rw [jbit_or z (by omega) hc, hz c hc]; rfl)
    refine ⟨z', ?_, e2⟩
    have h27 : jf_Ro_cellsRound_b27 (jf_Ro_cellsRound_L8 b (nI s) q) b (nI s) z (nI (jit (rA (jbit b)) k s)) (nI k) = some z' := by
      unfold jf_Ro_cellsRound_b27
      simp only [jlet]
      rw [rxy _ hF.1, rc_after b hF.1, nI_1]
      exact e1
    rw [jf_Ro_cellsRound_L8, if_neg (nge512 (by omega)), h27]
    split
    · rfl
    · rename_i hk
      rw [nI0_iff (by omega)] at hk
      rw [if_neg]
      rw [nI_eq (by have := hF.1; omega) (by have := h.1; omega)]
      exact hp.2.2 k (by omega) (by omega)
theorem jbit_0 : ∀ c, c < 64 → jbit 0 c = false := jall_of (p := fun c => jbit 0 c = false) (by decide +kernel)
theorem rc_touched (b : Int64) {s p : Nat} (h : rF (jbit b) s) (hp : jPer (rA (jbit b)) s p) (h5 : p ≤ 512) : jf_Ro_cellsRound b (nI s) = some (nI (jcnt 64 (rV (jbit b) s p))) := by
  unfold jf_Ro_cellsRound jf_Ro_cellsRound_b60
  obtain ⟨z, e1, e2⟩ := rc_cells b h hp h5 p jF 0 0 (by omega) (jF_gt (by omega)) (fun c hc => jbit_0 c hc)
  show Option.bind (jf_Ro_cellsRound_L8 b (nI s) jF 0 (nI (jit (rA (jbit b)) 0 s)) (nI 0)) _ = _
  rw [e1]
  show some (jf_Lo_bitCount z) = _
  rw [jbits, jcnt_eq e2]
theorem rm_forgets : ∀ j n k f, k + j = 512 → j < n → (∀ i, i < k → f i = 0) → ∃ f', jf_Mo_forgets_L2 n (nI k) f = some f' ∧ ∀ i, i < 512 → f' i = 0 := by
  intro j
  induction j with
  | zero =>
    intro n k f e hn hf
    obtain ⟨q, rfl⟩ : ∃ q, n = q + 1 := ⟨n - 1, by omega⟩
    have : k = 512 := by omega
    subst this
    exact ⟨f, by rw [jf_Mo_forgets_L2, if_pos (show (512 : Int32) ≤ nI 512 by decide)], hf⟩
  | succ j ih =>
    intro n k f e hn hf
    obtain ⟨q, rfl⟩ : ∃ q, n = q + 1 := ⟨n - 1, by omega⟩
    have hin : jin (nI k) 512 = true := jin_of (nI_pos (by omega)) (nI_ge (b := 512) (by omega) (by decide)) (by decide)
    rw [jf_Mo_forgets_L2, if_neg (nge512 (by omega)), if_pos hin, nI_1, nI_clamp (by omega)]
    refine ih q (k + 1) _ (by omega) (by omega) (fun i hi => ?_)
    unfold upd
    split
    · rfl
    · exact hf i (by omega)
theorem rm_forget (f : Nat → Int32) : ∃ f', jf_Mo_forgets f = some f' ∧ ∀ i, i < 512 → f' i = 0 := by
  obtain ⟨f', e, h⟩ := rm_forgets 512 jF 0 f (by omega) (jF_gt (by omega)) (fun i hi => absurd hi (Nat.not_lt_zero _))
  refine ⟨f', ?_, h⟩
  unfold jf_Mo_forgets
  show Option.bind (jf_Mo_forgets_L2 jF (nI 0) f) _ = _
  rw [e]; rfl
theorem rm_cells {isB : Nat → Int32} {B : Nat → Bool} (hB : jBl isB B) {s p : Nat} (h : rF B s) (hp : jPer (rA B) s p) (h5 : p ≤ 512) : ∀ j n k v f, k + j = p → j + 1 < n → (∀ c, c < 64 → f c = if rV B s k c then 1 else 0) → ∃ v' f', jf_Mo_touched_L37 isB (nI s) n (nI (jit (rA B) k s)) (nI (jcnt 64 (rV B s k))) (if k = p then 0 else 1) v f = some (nI (jcnt 64 (rV B s p)), v', f') := by
  intro j
  induction j with
  | zero =>
    intro n k v f e hn hf
    obtain ⟨q, rfl⟩ : ∃ q, n = q + 1 := ⟨n - 1, by omega⟩
    have : k = p := by omega
    subst this
    rw [jf_Mo_touched_L37, if_pos rfl, if_pos rfl]
    exact ⟨_, _, rfl⟩
  | succ j ih =>
    intro n k v f e hn hf
    obtain ⟨q, rfl⟩ : ∃ q, n = q + 1 := ⟨n - 1, by omega⟩
    have hF := rA_it h k
    have hF2 := rA_it h (k + 1)
    have hrem : nI (jit (rA B) k s) - nI (jit (rA B) k s) / 64 * 64 = nI (jit (rA B) k s % 64) := by
      rw [show (64 : Int32) = nI 64 from rfl]; exact pk_rem (by have := hF.1; omega) (by omega) (by omega)
    have hm : jit (rA B) k s % 64 < 64 := Nat.mod_lt _ (by decide)
    have hin : jin (nI (jit (rA B) k s % 64)) 512 = true := jin_of (nI_pos (by omega)) (nI_ge (b := 512) (by omega) (by decide)) (by decide)
    obtain ⟨v', f', e3⟩ := ih q (k + 1) (if rHit B (jit (rA B) k s) then 1 else 0) (upd f (jit (rA B) k s % 64) (1 &&& 1)) (by omega) (by omega) (fun c hc => by
      unfold upd
      show _ = if (rV B s k c || c == jit (rA B) k s % 64) = true then 1 else 0
      by_cases e : c = jit (rA B) k s % 64
      · rw [if_pos e, show (c == jit (rA B) k s % 64) = true from beq_iff_eq.2 e, Bool.or_true]; rfl
      · rw [if_neg e, show (c == jit (rA B) k s % 64) = false from beq_eq_false_iff_ne.2 e, Bool.or_false, hf c hc])
    have key : ∀ w, nI (jcnt 64 (rV B s k)) + w = nI (jcnt 64 (rV B s (k + 1))) → jf_Mo_touched_b62 (jf_Mo_touched_L37 isB (nI s) q) v isB f (nI s) (nI (jit (rA B) k s)) (nI (jcnt 64 (rV B s k))) w = some (nI (jcnt 64 (rV B s p)), v', f') := by
      intro w hw
      unfold jf_Mo_touched_b62 jf_Mo_touched_b96
      simp only [jlet]
      rw [hw, hrem, if_pos hin, nI_clamp (by omega), rm_step v hB hF.1]
      simp only [Option.bind]
      rw [show rA B (jit (rA B) k s) = jit (rA B) (k + 1) s from rfl, ← e3]
      by_cases c : k + 1 = p
      · rw [if_pos c, if_pos]
        rw [c, hp.2.1]
      · rw [if_neg c, if_neg]
        rw [nI_eq (by have := hF2.1; omega) (by have := h.1; omega)]
        exact hp.2.2 (k + 1) (by omega) (by omega)
    have hcnt : jcnt 64 (rV B s (k + 1)) = jcnt 64 (rV B s k) + (if rV B s k (jit (rA B) k s % 64) then 0 else 1) := jcnt_set (rV B s k) hm
    refine ⟨v', f', ?_⟩
    rw [jf_Mo_touched_L37, if_neg (show ¬ k = p by omega), if_neg (show ¬ (1 : Int32) = 0 by decide), hrem, if_pos hin, nI_clamp (by omega), hf _ hm]
    cases c : rV B s k (jit (rA B) k s % 64) with
    | true =>
      rw [c] at hcnt
      rw [if_neg (by decide)]
      exact key 0 (by rw [hcnt]; exact nI_add _ 0)
    | false =>
      rw [c] at hcnt
      rw [if_pos (by decide)]
      exact key 1 (by rw [hcnt]; exact nI_1 _)
theorem js_touched : jS_touched := by
  intro b _ _ _ _ _ _ _ _ _ _ _ th v _ _ _ isB seen _ _ _ _ _ _ _ x1 x2 x3 x4 hI
  have hB := jI_bl hI
  unfold jf_Mo_touched jf_Bi_touched
  rw [show (1 : Int32) = jf_Mo_in 0 0 0 from rfl]
  rcases jshot hB th x1 x2 x3 0 0 with ⟨x, y, d, hx, hy, hd, rfl, rfl, rfl, hf, -, -, e1, e2⟩ | ⟨e1, e2⟩ | ⟨e1, e2⟩ | ⟨e1, e2⟩
  · rw [e1, e2, jst_c, jst_m]
    have hF := jst_F (B := jbit b) (d := d) x4 hx hy hd hf
    obtain ⟨p, hp, h5⟩ := rA_per (jbit b) hF
    generalize (x + 8 * y + 64 * d + (if x4 = 0 then 0 else 256)) = s at *
    obtain ⟨f0, e0, hf0⟩ := rm_forget seen
    obtain ⟨v', f', e3⟩ := rm_cells hB hF hp h5 p jF 0 v f0 (by omega) (jF_gt (by omega)) (fun c hc => by rw [hf0 c (by omega)]; rfl)
    rw [if_neg (by have := hp.1; omega)] at e3
    have hz : jcnt 64 (rV (jbit b) s 0) = 0 := by
      show jcnt 64 (fun _ => false) = 0
      decide
    rw [hz] at e3
    refine ⟨(nI (jcnt 64 (rV (jbit b) s p)), 0, v', f'), ?_, Or.inl ⟨nI (jcnt 64 (rV (jbit b) s p)), ?_, rfl, rfl, hI⟩⟩
    · simp only [Option.bind, jlet]
      rw [if_neg (by decide), e0]
      show Option.bind (jf_Mo_touched_L37 isB (nI s) jF (nI (jit (rA (jbit b)) 0 s)) (nI 0) 1 v f0) _ = _
      rw [e3]
      rfl
    · simp only [jsum]
      rw [rc_touched b hF hp h5]
      rfl
  · rw [e1, e2]; exact ⟨(0, 1, v, seen), rfl, Or.inr (Or.inl ⟨rfl, rfl, hI⟩)⟩
  · rw [e1, e2]; exact ⟨(0, 2, v, seen), rfl, Or.inr (Or.inr (Or.inl ⟨rfl, rfl, hI⟩))⟩
  · rw [e1, e2]; exact ⟨(0, 3, v, seen), rfl, Or.inr (Or.inr (Or.inr ⟨rfl, rfl, hI⟩))⟩
