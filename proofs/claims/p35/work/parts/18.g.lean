/-! squares, counts, the genus -/
def sD (n : Nat) (E : Nat → List Nat) (i x : Nat) : Bool := sHas (sRounds E n n (2 ^ i)) x
theorem sD_at {n : Nat} {E : Nat → List Nat} (hn : n ≤ 5) (hE : sEin n E) : ∀ i x, i < n → x < n → (sD n E i x = true ↔ sRel n E i x) := fun i x hi hx => (sGroup hn hE hi).2 x hx
def sMany (n : Nat) (E : Nat → List Nat) : Nat := jcnt n (fun x => jall x (fun i => !sD n E i x))
theorem m_manyE {n : Nat} {E : Nat → List Nat} {Q : Nat → Nat → Prop} {P : Nat → Nat} {f : Nat → Int32} (hn : n ≤ 5) (hE : sEin n E) (hf : sR n f P) (hJ : sJ n E Q P) (hQ : ∀ a, a < n → ∀ b, b ∈ E a → Q a b) : jf_Mo_manyParts (nI n) f = some (nI (sMany n E)) :=
  m_many hn hJ.1 hf (fun i x hi hx => by rw [Bool.eq_iff_iff, sJ_end hE hJ hQ hi hx, sD_at hn hE i x hi hx])
theorem m_cones {n : Nat} {right up : Nat → Int32} {r s u w : Nat → Nat} (hn : n ≤ 5) (hr : sP n r s) (hu : sP n u w) (fr : sR n right r) (fu : sR n up u) (f : Nat → Int32) : ∃ f', jf_Mo_cones (nI n) right up f = some (nI (sMany n (sE n r u (sG r s u w) 1)), f') := by
  have hE := sE_in hr hu (sG_P hr hu) 1
  obtain ⟨f1, e1, h1⟩ := m_parts hn n 0 jF f (by omega) (jF_gt (by omega)) (fun i hi => absurd hi (Nat.not_lt_zero _))
  obtain ⟨f2, P2, e2, h2, h3⟩ := m_cones0 (E := sE n r u (sG r s u w) 1) hn hr hu fr fu (fun a _ => by unfold sE; rw [if_pos rfl]; exact List.mem_singleton.2 rfl) n 0 jF f1 _ (by omega) (jF_gt (by omega)) h1 (sJ_0 n _ (fun a b h => absurd h.1 (Nat.not_lt_zero _)))
  refine ⟨f2, ?_⟩
  unfold jf_Mo_cones jf_Mo_parts
  show Option.bind (Option.bind (jf_Mo_parts_L2 (nI n) jF (nI 0) f) _) _ = _
  rw [e1]
  show Option.bind (jf_Mo_cones_L6 (nI n) right up jF (nI 0) f1) _ = _
  rw [e2]
  simp only [Option.bind]
  rw [m_manyE hn hE h2 h3 (fun a ha b hb => by
    unfold sE at hb
    rw [if_pos rfl, List.mem_singleton] at hb
    exact ⟨ha, hb⟩)]
theorem sE2 {n : Nat} {r u g : Nat → Nat} (a : Nat) : sE n r u g 2 a = [r a, u a] := by
  unfold sE
  rw [if_neg (by decide), if_pos rfl]
theorem sE3 {n : Nat} {r u g : Nat → Nat} (a : Nat) : sE n r u g 3 a = [r a] := by
  unfold sE
  rw [if_neg (by decide), if_neg (by decide), if_neg (fun h => absurd h.1 (by decide))]
theorem m_piecesE {n : Nat} {right up : Nat → Int32} {r s u w g : Nat → Nat} (hn : n ≤ 5) (hr : sP n r s) (hu : sP n u w) (fr : sR n right r) (fu : sR n up u) (f : Nat → Int32) : ∃ f' P', jf_Mo_findsPieces (nI n) right up f = some f' ∧ sR n f' P' ∧ sJ n (sE n r u g 2) (fun a b => a < n ∧ (b = r a ∨ b = u a)) P' :=
  m_findsPieces hn hr hu fr fu (fun a _ => by rw [sE2]; exact ⟨List.mem_cons_self, List.mem_cons_of_mem _ List.mem_cons_self⟩) f
theorem sE2_Q {n : Nat} {r u g : Nat → Nat} : ∀ a, a < n → ∀ b, b ∈ sE n r u g 2 a → (a < n ∧ (b = r a ∨ b = u a)) := fun a ha b hb => by
  rw [sE2, List.mem_cons, List.mem_singleton] at hb
  exact ⟨ha, hb⟩
theorem m_pieces1 {n : Nat} {right up : Nat → Int32} {r s u w : Nat → Nat} (hn : n ≤ 5) (hr : sP n r s) (hu : sP n u w) (fr : sR n right r) (fu : sR n up u) (f : Nat → Int32) : ∃ f', jf_Mo_pieces (nI n) right up f = some (nI (sMany n (sE n r u (sG r s u w) 2)), f') := by
  have hE := sE_in hr hu (sG_P hr hu) 2
  obtain ⟨f2, P2, e2, h2, h3⟩ := m_piecesE (g := sG r s u w) hn hr hu fr fu f
  refine ⟨f2, ?_⟩
  unfold jf_Mo_pieces
  rw [e2]
  simp only [Option.bind]
  rw [m_manyE hn hE h2 h3 sE2_Q]
theorem m_rows1 {n : Nat} {right : Nat → Int32} {r s u w : Nat → Nat} (hn : n ≤ 5) (hr : sP n r s) (hu : sP n u w) (fr : sR n right r) (f : Nat → Int32) : ∃ f', jf_Mo_findsRows (nI n) right f = some f' ∧ jf_Mo_manyParts (nI n) f' = some (nI (sMany n (sE n r u (sG r s u w) 3))) := by
  have hE := sE_in hr hu (sG_P hr hu) 3
  obtain ⟨f2, P2, e2, h2, h3⟩ := m_findsRows (E := sE n r u (sG r s u w) 3) hn hr fr (fun a _ => by rw [sE3]; exact List.mem_singleton.2 rfl) f
  exact ⟨f2, e2, m_manyE hn hE h2 h3 (fun a ha b hb => by rw [sE3, List.mem_singleton] at hb; exact ⟨ha, hb⟩)⟩
theorem m_cyls1 {n : Nat} {right up : Nat → Int32} {r s u w : Nat → Nat} (hn : n ≤ 5) (hr : sP n r s) (hu : sP n u w) (fr : sR n right r) (fu : sR n up u) (f : Nat → Int32) : ∃ f', jf_Mo_findsCylinders (nI n) right up f = some f' ∧ jf_Mo_manyParts (nI n) f' = some (nI (sMany n (sE n r u (sG r s u w) 4))) := by
  have hE := sE_in hr hu (sG_P hr hu) 4
  have e4 : ∀ a, sE n r u (sG r s u w) 4 a = if sFlat n r (sG r s u w) a = true then [r a, u a] else [r a] := fun a => by
    unfold sE
    rw [if_neg (by decide), if_neg (by decide)]
    by_cases c : sFlat n r (sG r s u w) a = true
    · rw [if_pos ⟨rfl, c⟩, if_pos c]
    · rw [if_neg (fun h => c h.2), if_neg c]
  obtain ⟨f2, P2, e2, h2, h3⟩ := m_findsRows (E := sE n r u (sG r s u w) 4) hn hr fr (fun a _ => by rw [e4]; split <;> exact List.mem_cons_self) f
  obtain ⟨f3, P3, e3, h4, h5⟩ := m_cyls0 (E := sE n r u (sG r s u w) 4) hn hr hu fr fu (fun a _ h => by rw [e4, if_pos h]; exact List.mem_cons_of_mem _ List.mem_cons_self) n 0 jF f2 P2 (by omega) (jF_gt (by omega)) h2 ⟨h3.1, fun a ha b hb hq => h3.2.1 a ha b hb (by
    rcases hq with hq | hq
    · exact hq
    · exact absurd hq.1 (Nat.not_lt_zero _)), h3.2.2⟩
  refine ⟨f3, ?_, m_manyE hn hE h4 h5 (fun a ha b hb => ?_)⟩
  · unfold jf_Mo_findsCylinders
    rw [e2]
    show Option.bind (jf_Mo_findsCylinders_L6 (nI n) right up jF (nI 0) f2) _ = _
    rw [e3]; rfl
  · rw [e4] at hb
    split at hb
    · rename_i c
      rw [List.mem_cons, List.mem_singleton] at hb
      rcases hb with hb | hb
      · exact Or.inl ⟨ha, hb⟩
      · exact Or.inr ⟨ha, c, hb⟩
    · rw [List.mem_singleton] at hb
      exact Or.inl ⟨ha, hb⟩
theorem c_many {n : Nat} {right up left down : Nat → Int32} {r s u w : Nat → Nat} (hn : n ≤ 5) (hr : sP n r s) (hu : sP n u w) (fr : sR n right r) (fu : sR n up u) (fl : sR n left s) (fd : sR n down w) {what : Nat} (hw : 1 ≤ what ∧ what ≤ 4) : jf_Su_groups (nI n) right up left down (nI what) = some (nI (sMany n (sE n r u (sG r s u w) what))) :=
  c_groups hn hr hu fr fu fl fd hw (sD_at hn (sE_in hr hu (sG_P hr hu) what))
theorem sR_eq {n : Nat} {f g : Nat → Int32} {r : Nat → Nat} (h : sR n f r) (e : ∀ k, k < n → g k = f k) : sR n g r := fun k hk => by rw [e k hk]; exact h k hk
theorem js_count : jS_count := by
  intro b _ _ sq right up left down _ _ _ _ th _ msq _ isB _ _ mr mu part _ _ _ x1 hI
  have hI0 := hI
  obtain ⟨j1, j2, ⟨n, n1, n5, rfl, rfl, hpr, hpu, hk⟩, j4⟩ := hI0
  obtain ⟨r, s, hr, fr, fl⟩ := jPm_sP hpr
  obtain ⟨u, w, hu, fu, fd⟩ := jPm_sP hpu
  have gr : sR n mr r := sR_eq fr (fun k h => (hk k h).1)
  have gu : sR n mu u := sR_eq fu (fun k h => (hk k h).2)
  unfold jf_Bi_count jf_Mo_count jf_Mo_count_b15 jf_Su_squares
  rcases jrange x1 0 4 with ⟨a1, a2, a3, a4⟩ | ⟨a3, a4⟩
  · obtain ⟨x, hx, rfl⟩ := jnat_of a1 (n := 4) a2 (by decide)
    rw [a3, a4, if_neg (show ¬ (1 : Int32) = 0 by decide), if_pos (show (0 : Int32) ≤ 0 by decide)]
    simp only [jsum]
    have hx5 : x = 0 ∨ x = 1 ∨ x = 2 ∨ x = 3 ∨ x = 4 := by omega
    rcases hx5 with rfl | rfl | rfl | rfl | rfl
    · exact ⟨(nI n, 0, part), rfl, Or.inl ⟨nI n, rfl, rfl, rfl, hI⟩⟩
    · obtain ⟨f', e⟩ := m_cones n5 hr hu gr gu part
      have c := c_many n5 hr hu fr fu fl fd (what := 1) (by decide)
      rw [if_neg (by decide), if_pos (by decide), if_neg (by decide), e, c]
      exact ⟨_, rfl, Or.inl ⟨_, rfl, rfl, rfl, hI⟩⟩
    · obtain ⟨f', e⟩ := m_pieces1 n5 hr hu gr gu part
      have c := c_many n5 hr hu fr fu fl fd (what := 2) (by decide)
      rw [if_neg (by decide), if_neg (by decide), if_pos (by decide), if_neg (by decide), e, c]
      exact ⟨_, rfl, Or.inl ⟨_, rfl, rfl, rfl, hI⟩⟩
    · obtain ⟨f', e, e2⟩ := m_rows1 n5 hr hu gr part
      have c := c_many n5 hr hu fr fu fl fd (what := 3) (by decide)
      rw [if_neg (by decide), if_neg (by decide), if_neg (by decide), if_pos (by decide), if_neg (by decide), e, c]
      simp only [Option.bind]
      rw [e2]
      exact ⟨_, rfl, Or.inl ⟨_, rfl, rfl, rfl, hI⟩⟩
    · obtain ⟨f', e, e2⟩ := m_cyls1 n5 hr hu gr gu part
      have c := c_many n5 hr hu fr fu fl fd (what := 4) (by decide)
      rw [if_neg (by decide), if_neg (by decide), if_neg (by decide), if_neg (by decide), if_neg (by decide), e, c]
      simp only [Option.bind]
      rw [e2]
      exact ⟨_, rfl, Or.inl ⟨_, rfl, rfl, rfl, hI⟩⟩
  · rw [a3, a4, if_pos rfl]
    exact ⟨(0, 1, part), rfl, Or.inr ⟨rfl, rfl, hI⟩⟩
theorem js_genus : jS_genus := by
  intro b _ _ sq right up left down _ _ _ _ th _ msq _ isB _ _ mr mu part _ _ _ hI
  have hI0 := hI
  obtain ⟨j1, j2, ⟨n, n1, n5, rfl, rfl, hpr, hpu, hk⟩, j4⟩ := hI0
  obtain ⟨r, s, hr, fr, fl⟩ := jPm_sP hpr
  obtain ⟨u, w, hu, fu, fd⟩ := jPm_sP hpu
  have gr : sR n mr r := sR_eq fr (fun k h => (hk k h).1)
  have gu : sR n mu u := sR_eq fu (fun k h => (hk k h).2)
  obtain ⟨f', e⟩ := m_pieces1 n5 hr hu gr gu part
  obtain ⟨f2, e2⟩ := m_cones n5 hr hu gr gu f'
  have c := c_many n5 hr hu fr fu fl fd (what := 2) (by decide)
  have c2 := c_many n5 hr hu fr fu fl fd (what := 1) (by decide)
  rw [show nI 2 = (2 : Int32) from rfl] at c
  rw [show nI 1 = (1 : Int32) from rfl] at c2
  unfold jf_Bi_genus jf_Mo_genus jf_Mo_genus_b14 jf_Su_squares
  rw [e, c, c2]
  simp only [Option.bind]
  rw [e2]
  by_cases q : nI (sMany n (sE n r u (sG r s u w) 2)) ≤ 1
  · rw [if_pos q, if_pos q, if_pos (show (0 : Int32) ≤ 0 by decide)]
    exact ⟨_, rfl, Or.inl ⟨_, rfl, rfl, rfl, hI⟩⟩
  · rw [if_neg q, if_neg q, if_neg (show ¬ (1 : Int32) ≤ 0 by decide)]
    exact ⟨_, rfl, Or.inr ⟨rfl, rfl, hI⟩⟩
theorem js_square : jS_square := by
  intro b _ _ sq right up left down _ _ _ _ th _ msq _ isB _ _ mr mu part _ _ _ x1 x2 hI
  have hI0 := hI
  obtain ⟨j1, j2, ⟨n, n1, n5, rfl, rfl, hpr, hpu, hk⟩, j4⟩ := hI0
  obtain ⟨r, s, hr, fr, fl⟩ := jPm_sP hpr
  obtain ⟨u, w, hu, fu, fd⟩ := jPm_sP hpu
  have gr : sR n mr r := sR_eq fr (fun k h => (hk k h).1)
  have gu : sR n mu u := sR_eq fu (fun k h => (hk k h).2)
  have hg := sG_P hr hu
  unfold jf_Bi_square jf_Mo_square jf_Mo_square_b28 jf_Su_squares
  rcases jsquare (n := n) (by omega) x1 with ⟨a, ha, rfl, e1, e2⟩ | ⟨e1, e2⟩
  · rcases jrange x2 0 6 with ⟨a1, a2, a3, a4⟩ | ⟨a3, a4⟩
    · obtain ⟨x, hx, rfl⟩ := jnat_of a1 (n := 6) a2 (by decide)
      have hin : jin (nI a) 5 = true := jin_nI (by omega) (by decide)
      rw [e1, e2, a3, a4, if_neg (show ¬ (1 : Int32) = 0 by decide), if_neg (show ¬ (1 : Int32) = 0 by decide), if_pos (show (0 : Int32) ≤ 0 by decide)]
      simp only [jsum]
      have hx7 : x = 0 ∨ x = 1 ∨ x = 2 ∨ x = 3 ∨ x = 4 ∨ x = 5 ∨ x = 6 := by omega
      rcases hx7 with rfl | rfl | rfl | rfl | rfl | rfl | rfl
      · rw [if_pos (by decide), if_pos hin, nI_clamp (by omega), if_pos (by decide)]
        refine ⟨_, rfl, Or.inl ⟨_, rfl, rfl, ?_, hI⟩⟩
        unfold jf_Su_rightOf
        rw [jat_nI _ (by omega) (by decide)]
        exact (hk a ha).1
      · rw [if_neg (by decide), if_pos (by decide), if_pos hin, nI_clamp (by omega), if_neg (by decide), if_pos (by decide)]
        refine ⟨_, rfl, Or.inl ⟨_, rfl, rfl, ?_, hI⟩⟩
        unfold jf_Su_upOf
        rw [jat_nI _ (by omega) (by decide)]
        exact (hk a ha).2
      · rw [if_neg (by decide), if_neg (by decide), if_pos (by decide), if_neg (by decide), if_neg (by decide), if_pos (by decide), m_leftOf n5 hr gr ha]
        refine ⟨_, rfl, Or.inl ⟨_, rfl, rfl, ?_, hI⟩⟩
        unfold jf_Su_leftOf
        rw [jat_nI _ (by omega) (by decide)]
        exact (fl a ha).symm
      · rw [if_neg (by decide), if_neg (by decide), if_neg (by decide), if_pos (by decide), if_neg (by decide), if_neg (by decide), if_neg (by decide), if_pos (by decide), m_downOf n5 hu gu ha]
        refine ⟨_, rfl, Or.inl ⟨_, rfl, rfl, ?_, hI⟩⟩
        unfold jf_Su_downOf
        rw [jat_nI _ (by omega) (by decide)]
        exact (fd a ha).symm
      · obtain ⟨p, hp, h5⟩ := s_per hg ha
        have c := c_size n5 hr hu fr fu fl fd (what := 1) (by decide) ha (D := sO (sG r s u w) a p) (fun x hx => sO_rel hg (fun y _ => by unfold sE; rw [if_pos rfl]) ha hp hx)
        rw [sO_cnt hg ha hp p (Nat.le_refl p), show nI 1 = (1 : Int32) from rfl] at c
        rw [if_neg (by decide), if_neg (by decide), if_neg (by decide), if_neg (by decide), if_pos (by decide), if_neg (by decide), if_neg (by decide), if_neg (by decide), if_neg (by decide), if_pos (by decide), m_angle n5 hr hu gr gu ha hp h5, c]
        exact ⟨_, rfl, Or.inl ⟨_, rfl, rfl, rfl, hI⟩⟩
      · obtain ⟨f2, P2, q2, h2, h3⟩ := m_piecesE (g := sG r s u w) n5 hr hu gr gu part
        have hE := sE_in hr hu hg 2
        have c := c_size n5 hr hu fr fu fl fd (what := 2) (by decide) ha (D := fun i => P2 i == P2 a) (fun x hx => by
          rw [sJ_end hE h3 sE2_Q hx ha]
          exact ⟨sRel_symm, sRel_symm⟩)
        rw [show nI 2 = (2 : Int32) from rfl] at c
        rw [if_neg (by decide), if_neg (by decide), if_neg (by decide), if_neg (by decide), if_neg (by decide), if_pos (by decide), if_neg (by decide), if_neg (by decide), if_neg (by decide), if_neg (by decide), if_neg (by decide), if_pos (by decide), q2, c]
        simp only [Option.bind]
        rw [m_sizeOf n5 h3.1 h2 ha]
        exact ⟨_, rfl, Or.inl ⟨_, rfl, rfl, rfl, hI⟩⟩
      · obtain ⟨p, hp, h5⟩ := s_per hr ha
        have c := c_size n5 hr hu fr fu fl fd (what := 3) (by decide) ha (D := sO r a p) (fun x hx => sO_rel hr (fun y _ => sE3 y) ha hp hx)
        rw [sO_cnt hr ha hp p (Nat.le_refl p), show nI 3 = (3 : Int32) from rfl] at c
        rw [if_neg (by decide), if_neg (by decide), if_neg (by decide), if_neg (by decide), if_neg (by decide), if_neg (by decide), if_neg (by decide), if_neg (by decide), if_neg (by decide), if_neg (by decide), if_neg (by decide), if_neg (by decide), m_rowSize n5 hr gr ha hp h5, c]
        exact ⟨_, rfl, Or.inl ⟨_, rfl, rfl, rfl, hI⟩⟩
    · rw [e1, e2, a3, a4]
      exact ⟨(0, 2, part), rfl, Or.inr (Or.inr ⟨rfl, rfl, hI⟩)⟩
  · rw [e1, e2]
    exact ⟨(0, 1, part), rfl, Or.inr (Or.inl ⟨rfl, rfl, hI⟩)⟩
