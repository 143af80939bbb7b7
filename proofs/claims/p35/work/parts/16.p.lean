theorem jPm_grow {n : Nat} {f g : Nat → Int32} (hp : jPm n f g) : ∃ g', jPm (n + 1) (upd f n (nI n)) g' := by
  obtain ⟨r, s, h⟩ := hp
  refine jPm_mk (fun k => if k = n then n else r k) (fun k => if k = n then n else s k) (fun k hk => ?_) (fun k hk => ?_)
  · by_cases c : k = n
    · subst c
      simp
    · have h1 := h k (by omega)
      simp only [if_neg c]
      refine ⟨by omega, by omega, ?_, ?_⟩
      · rw [if_neg (by omega)]; exact h1.2.2.1
      · rw [if_neg (by omega)]; exact h1.2.2.2.1
  · show upd f n (nI n) k = nI (if k = n then n else r k)
    by_cases c : k = n
    · rw [if_pos c, c, upd_at]
    · rw [if_neg c, upd_ne _ _ c]; exact (h k (by omega)).2.2.2.2.1
theorem js_interval : jS_interval := by
  intro b _ _ _ _ _ _ _ ints len above below th _ _ mints _ _ _ _ _ ma mb ml x1 hI
  have hI0 := hI
  obtain ⟨i1, i2, i3, n, hn, rfl, rfl, ⟨ia, ib, hpa, hpb⟩, hk⟩ := hI0
  have h6 : jf_Ex_isFull (nI n) = if n < 6 then 0 else 1 := by
    unfold jf_Ex_isFull
    by_cases c : n < 6
    · rw [if_pos (show nI n < (6 : Int32) from nI_lt (b := 6) c (by decide)), if_pos c]
    · rw [if_neg (show ¬ nI n < (6 : Int32) from nI_nlt (b := 6) (by omega) (by omega)), if_neg c]
  rcases jrange x1 1 50 with ⟨a1, a2, a3, a4⟩ | ⟨a3, a4⟩
  · have a0 : (0 : Int32) ≤ x1 := by
      rw [Int32.le_iff_toInt_le] at a1 ⊢
      have h1 : (1 : Int32).toInt = 1 := by decide
      have h0 : (0 : Int32).toInt = 0 := by decide
      omega
    obtain ⟨z, hz, rfl⟩ := jnat_of (n := 50) a0 a2 (by decide)
    have hz1 : 1 ≤ z := (nI_leI (by decide) (by omega)).1 a1
    by_cases c : n < 6
    · have hc : jf_Bi_interval (nI n) len above below (nI z) = .inl (nI n, nI (n + 1), upd len n (nI z), upd above n (nI n), upd below n (nI n)) := by
        unfold jf_Bi_interval jf_Ex_add
        rw [a3]
        simp only [jsum, jlet]
        rw [h6, if_pos c, if_pos rfl, jput_nI _ _ c (by decide), jput_nI _ _ c (by decide), jput_nI _ _ c (by decide), nI_1]
      have hm : jf_Mo_interval th (nI n) ma mb ml (nI z) = some (nI n, 0, nI (n + 1), upd ma n (nI n), upd mb n (nI n), upd ml n (nI z)) := by
        unfold jf_Mo_interval jf_Mo_interval_b29
        have j1 : jin (nI n) 6 = true := jin_nI c (by decide)
        rw [a4, if_neg (show ¬ (1 : Int32) = 0 by decide), if_neg (show ¬ nI n = (6 : Int32) from fun h => by rw [show (6 : Int32) = nI 6 from rfl, nI_eq (by omega) (by omega)] at h; omega), if_pos (show (0 : Int32) ≤ 0 by decide), if_pos j1, if_pos j1, if_pos j1, nI_clamp (by omega), jadd1, nI_1]
      obtain ⟨ia', ha'⟩ := jPm_grow hpa
      obtain ⟨ib', hb'⟩ := jPm_grow hpb
      refine ⟨_, hm, Or.inl ⟨_, hc, rfl, rfl, i1, i2, i3, n + 1, by omega, rfl, rfl, ⟨ia', ib', ha', hb'⟩, fun k hkn => ⟨?_, ?_, ?_, ?_⟩⟩⟩
      · exact upd_eq (fun h => (hk k (by omega)).1) rfl
      · exact upd_eq (fun h => (hk k (by omega)).2.1) rfl
      · exact upd_eq (fun h => (hk k (by omega)).2.2.1) rfl
      · by_cases e : k = n
        · subst e; exact ⟨z, hz1, hz, upd_at _ _ _⟩
        · obtain ⟨w, w1, w2, w3⟩ := (hk k (by omega)).2.2.2
          exact ⟨w, w1, w2, by rw [← w3]; exact upd_ne _ _ e⟩
    · have h66 : n = 6 := by omega
      subst h66
      have hc : jf_Bi_interval (nI 6) len above below (nI z) = .inr eS := by
        unfold jf_Bi_interval
        rw [a3]
        simp only [jsum]
        rw [h6]; rfl
      have hm : jf_Mo_interval th (nI 6) ma mb ml (nI z) = some (0, 2, nI 6, ma, mb, ml) := by unfold jf_Mo_interval; rw [a4]; rfl
      exact ⟨_, hm, Or.inr (Or.inr ⟨hc, rfl, hI⟩)⟩
  · have hc : jf_Bi_interval (nI n) len above below x1 = .inr eA := by unfold jf_Bi_interval; rw [a3]; rfl
    have hm : jf_Mo_interval th (nI n) ma mb ml x1 = some (0, 1, nI n, ma, mb, ml) := by unfold jf_Mo_interval; rw [a4]; rfl
    exact ⟨_, hm, Or.inr (Or.inl ⟨hc, rfl, hI⟩)⟩
