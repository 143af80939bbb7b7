theorem jPm_mk {n : Nat} {f : Nat → Int32} (r s : Nat → Nat) (h : ∀ k, k < n → r k < n ∧ s k < n ∧ r (s k) = k ∧ s (r k) = k) (hf : ∀ k, k < n → f k = nI (r k)) : ∃ g, jPm n f g :=
  ⟨fun k => nI (s k), r, s, fun k hk => ⟨(h k hk).1, (h k hk).2.1, (h k hk).2.2.1, (h k hk).2.2.2, hf k hk, rfl⟩⟩
theorem jPm_swap {n : Nat} {f g : Nat → Int32} (hp : jPm n f g) {a b : Nat} (ha : a < n) (hb : b < n) : ∃ g', jPm n (upd (upd f a (f b)) b (f a)) g' := by
  obtain ⟨r, s, h⟩ := hp
  refine jPm_mk (fun k => if k = b then r a else if k = a then r b else r k) (fun v => if s v = a then b else if s v = b then a else s v) (fun k hk => ?_) (fun k hk => ?_)
  · have h1 := h k hk; have h2 := h a ha; have h3 := h b hb
    refine ⟨?_, ?_, ?_, ?_⟩
    · show (if k = b then r a else if k = a then r b else r k) < n
      split
      · exact h2.1
      · split
        · exact h3.1
        · exact h1.1
    · show (if s k = a then b else if s k = b then a else s k) < n
      split
      · exact hb
      · split
        · exact ha
        · exact h1.2.1
    · show (if (if s k = a then b else if s k = b then a else s k) = b then r a else if (if s k = a then b else if s k = b then a else s k) = a then r b else r (if s k = a then b else if s k = b then a else s k)) = k
      by_cases c1 : s k = a
      · rw [if_pos c1, if_pos rfl, ← c1]; exact h1.2.2.1
      · rw [if_neg c1]
        by_cases c2 : s k = b
        · rw [if_pos c2]
          by_cases c3 : a = b
          · rw [if_pos c3, c3, ← c2]; exact h1.2.2.1
          · rw [if_neg c3, if_pos rfl, ← c2]; exact h1.2.2.1
        · rw [if_neg c2, if_neg c2, if_neg c1]; exact h1.2.2.1
    · show (if s (if k = b then r a else if k = a then r b else r k) = a then b else if s (if k = b then r a else if k = a then r b else r k) = b then a else s (if k = b then r a else if k = a then r b else r k)) = k
      by_cases c1 : k = b
      · rw [if_pos c1, h2.2.2.2.1, if_pos rfl, c1]
      · rw [if_neg c1]
        by_cases c2 : k = a
        · rw [if_pos c2, h3.2.2.2.1, if_pos rfl]
          by_cases c3 : b = a
          · exact absurd (c2.trans c3.symm) c1
          · rw [if_neg c3, c2]
        · rw [if_neg c2, h1.2.2.2.1, if_neg c2, if_neg c1]
  · show upd (upd f a (f b)) b (f a) k = nI (if k = b then r a else if k = a then r b else r k)
    by_cases c1 : k = b
    · rw [if_pos c1, c1, upd_at]; exact (h a ha).2.2.2.2.1
    · rw [if_neg c1, upd_ne _ _ c1]
      by_cases c2 : k = a
      · rw [if_pos c2, c2, upd_at]; exact (h b hb).2.2.2.2.1
      · rw [if_neg c2, upd_ne _ _ c2]; exact (h k hk).2.2.2.2.1
theorem upd_eq {f g : Nat → Int32} {k : Nat} {x y : Int32} {j : Nat} (h : j ≠ k → f j = g j) (e : x = y) : upd f k x j = upd g k y j := by
  unfold upd
  split
  · exact e
  · rename_i c; exact h c
theorem js_swap : jS_swap := by
  intro b _ _ _ _ _ _ _ ints len above below th _ _ mints _ _ _ _ _ ma mb ml x1 x2 hI
  have hI0 := hI
  obtain ⟨i1, i2, i3, n, hn, rfl, rfl, ⟨ia, ib, hpa, hpb⟩, hk⟩ := hI0
  rcases jplace (n := n) (by omega) x1 with ⟨k, hkn, rfl, e1, e2⟩ | ⟨e1, e2⟩
  · rcases jplace (n := n) (by omega) x2 with ⟨q, hqn, rfl, e3, e4⟩ | ⟨e3, e4⟩
    · have hc : jf_Bi_swap (nI n) below (nI k) (nI q) = .inl (upd (upd below k (below q)) q (below k) k, upd (upd below k (below q)) q (below k)) := by
        unfold jf_Bi_swap jf_Ex_intervals jf_Ex_swapBelow jf_Bi_exchangeIn
        rw [e1, e3]
        simp only [jsum, jlet]
        rw [jat_nI below (k := k) (by omega) (by decide), jat_nI below (k := q) (by omega) (by decide), jput_nI below _ (by omega) (by decide), jput_nI _ _ (by omega) (by decide), jat_nI _ (by omega) (by decide)]
      have hm : jf_Mo_swap th (nI n) mb (nI k) (nI q) = some (upd (upd mb k (mb q)) q (mb k) k, 0, upd (upd mb k (mb q)) q (mb k)) := by
        unfold jf_Mo_swap jf_Mo_swap_b22
        have j1 : jin (nI k) 6 = true := jin_nI (by omega) (by decide)
        have j2 : jin (nI q) 6 = true := jin_nI (by omega) (by decide)
        rw [e2, e4, if_neg (show ¬ (1 : Int32) = 0 by decide), if_neg (show ¬ (1 : Int32) = 0 by decide), if_pos (show (0 : Int32) ≤ 0 by decide), if_pos j1]
        simp only [jlet]
        rw [if_pos j2, if_pos j1, if_pos j2, if_pos j1, nI_clamp (by omega), nI_clamp (by omega)]
      have heq : ∀ j, j < n → upd (upd mb k (mb q)) q (mb k) j = upd (upd below k (below q)) q (below k) j := fun j hj =>
        upd_eq (fun _ => upd_eq (fun _ => (hk j hj).2.1) (hk q hqn).2.1) (hk k hkn).2.1
      obtain ⟨ib', hpb'⟩ := jPm_swap hpb hkn hqn
      exact ⟨_, hm, Or.inl ⟨_, hc, rfl, heq k hkn, i1, i2, i3, n, hn, rfl, rfl, ⟨ia, ib', hpa, hpb'⟩, fun j hj => ⟨(hk j hj).1, heq j hj, (hk j hj).2.2⟩⟩⟩
    · have hc : jf_Bi_swap (nI n) below (nI k) x2 = .inr eI := by unfold jf_Bi_swap jf_Ex_intervals; rw [e1, e3]; rfl
      have hm : jf_Mo_swap th (nI n) mb (nI k) x2 = some (0, 1, mb) := by unfold jf_Mo_swap; rw [e2, e4]; rfl
      exact ⟨_, hm, Or.inr ⟨hc, rfl, hI⟩⟩
  · have hc : jf_Bi_swap (nI n) below x1 x2 = .inr eI := by
      unfold jf_Bi_swap jf_Ex_intervals
      rw [e1]
      rcases jplace (n := n) (by omega) x2 with ⟨q, hqn, rfl, e3, e4⟩ | ⟨e3, e4⟩ <;> rfl
    have hm : jf_Mo_swap th (nI n) mb x1 x2 = some (0, 1, mb) := by unfold jf_Mo_swap; rw [e2]; rfl
    exact ⟨_, hm, Or.inr ⟨hc, rfl, hI⟩⟩
