theorem jI_bl {blocks lamps cellOf squares right up left down intervals lengthOf above below isB mlamps lampX lampY msquares mright mup mint mabove mbelow mlength} (h : jInv blocks lamps cellOf squares right up left down intervals lengthOf above below isB mlamps lampX lampY msquares mright mup mint mabove mbelow mlength) : jBl isB (jbit blocks) := h.1
theorem js_period : jS_period := by
  intro b _ _ _ _ _ _ _ _ _ _ _ th v _ _ _ isB _ _ _ _ _ _ _ x1 x2 x3 x4 hI
  have hB := jI_bl hI
  unfold jf_Mo_period jf_Bi_period
  rw [show (1 : Int32) = jf_Mo_in 0 0 0 from rfl]
  rcases jshot hB th x1 x2 x3 0 0 with ⟨x, y, d, hx, hy, hd, rfl, rfl, rfl, hf, -, -, e1, e2⟩ | ⟨e1, e2⟩ | ⟨e1, e2⟩ | ⟨e1, e2⟩
  · rw [e1, e2, jst_c, jst_m]
    have hF := jst_F (B := jbit b) (d := d) x4 hx hy hd hf
    obtain ⟨p, hp, h5⟩ := rA_per (jbit b) hF
    obtain ⟨v', e3⟩ := rm_period hB hF hp h5 v
    refine ⟨(nI p, 0, v'), ?_, Or.inl ⟨nI p, ?_, rfl, rfl, hI⟩⟩
    · simp only [Option.bind]
      rw [if_neg (by decide), e3]
    · simp only [jsum]
      rw [rc_period b hF hp h5]
      rfl
  · rw [e1, e2]; exact ⟨(0, 1, v), rfl, Or.inr (Or.inl ⟨rfl, rfl, hI⟩)⟩
  · rw [e1, e2]; exact ⟨(0, 2, v), rfl, Or.inr (Or.inr (Or.inl ⟨rfl, rfl, hI⟩))⟩
  · rw [e1, e2]; exact ⟨(0, 3, v), rfl, Or.inr (Or.inr (Or.inr ⟨rfl, rfl, hI⟩))⟩
theorem js_periodAnew : jS_periodAnew := by
  intro b _ _ _ _ _ _ _ _ _ _ _ th v _ _ _ isB _ _ _ _ _ _ _ x1 x2 x3 x4 hI
  have hB := jI_bl hI
  unfold jf_Mo_periodAnew jf_Mo_period jf_Bi_periodAnew
  rw [show (1 : Int32) = jf_Mo_in 0 0 0 from rfl]
  rcases jshot hB th x1 x2 x3 0 0 with ⟨x, y, d, hx, hy, hd, rfl, rfl, rfl, hf, -, -, e1, e2⟩ | ⟨e1, e2⟩ | ⟨e1, e2⟩ | ⟨e1, e2⟩
  · rw [e1, e2, jst_c, jst_m]
    have hF := jst_F (B := jbit b) (d := d) x4 hx hy hd hf
    obtain ⟨p, hp, h5⟩ := rA_per (jbit b) hF
    obtain ⟨v', e3⟩ := rm_period hB hF hp h5 v
    refine ⟨(nI p, 0, v'), ?_, Or.inl ⟨nI p, ?_, rfl, rfl, hI⟩⟩
    · simp only [Option.bind]
      rw [if_neg (by decide), e3]
    · simp only [jsum]
      rw [rc_periodB b hF hp h5]
      rfl
  · rw [e1, e2]; exact ⟨(0, 1, v), rfl, Or.inr (Or.inl ⟨rfl, rfl, hI⟩)⟩
  · rw [e1, e2]; exact ⟨(0, 2, v), rfl, Or.inr (Or.inr (Or.inl ⟨rfl, rfl, hI⟩))⟩
  · rw [e1, e2]; exact ⟨(0, 3, v), rfl, Or.inr (Or.inr (Or.inr ⟨rfl, rfl, hI⟩))⟩
