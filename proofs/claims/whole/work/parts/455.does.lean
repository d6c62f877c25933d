theorem d_20 {τ : MS} {pc : Int64} (t0 : Int32) (h : Ok τ pc) (hg : fN (iU (m_ins τ)) 24 5 = 20) : Perf τ pc t0 := by
  have f3 : fN (iU (m_ins τ)) 26 3 = 5 := imp hg 2 3 (by decide)
  unfold Perf F_X6_performs
  rw [xO_xm, sel24, hg, if_neg (show ¬ nI 20 = (8 : Int32) by decide), if_neg (show ¬ nI 20 = (9 : Int32) by decide), if_neg (show ¬ nI 20 = (10 : Int32) by decide), if_neg (show ¬ nI 20 = (11 : Int32) by decide), if_neg (show ¬ nI 20 = (16 : Int32) by decide), if_neg (show ¬ nI 20 = (17 : Int32) by decide), if_neg (show ¬ nI 20 = (18 : Int32) by decide), if_neg (show ¬ nI 20 = (19 : Int32) by decide), if_pos (show nI 20 = (20 : Int32) from rfl)]
  exact ⟨_, rfl, br t0 h f3⟩
theorem d_21 {τ : MS} {pc : Int64} (t0 : Int32) (h : Ok τ pc) (hg : fN (iU (m_ins τ)) 24 5 = 21) : Perf τ pc t0 := by
  have f3 : fN (iU (m_ins τ)) 26 3 = 5 := imp hg 2 3 (by decide)
  unfold Perf F_X6_performs
  rw [xO_xm, sel24, hg, if_neg (show ¬ nI 21 = (8 : Int32) by decide), if_neg (show ¬ nI 21 = (9 : Int32) by decide), if_neg (show ¬ nI 21 = (10 : Int32) by decide), if_neg (show ¬ nI 21 = (11 : Int32) by decide), if_neg (show ¬ nI 21 = (16 : Int32) by decide), if_neg (show ¬ nI 21 = (17 : Int32) by decide), if_neg (show ¬ nI 21 = (18 : Int32) by decide), if_neg (show ¬ nI 21 = (19 : Int32) by decide), if_neg (show ¬ nI 21 = (20 : Int32) by decide), if_pos (show nI 21 = (21 : Int32) from rfl)]
  exact ⟨_, rfl, br t0 h f3⟩
theorem d_22 {τ : MS} {pc : Int64} (t0 : Int32) (h : Ok τ pc) (hg : fN (iU (m_ins τ)) 24 5 = 22) : Perf τ pc t0 := by
  have f3 : fN (iU (m_ins τ)) 26 3 = 5 := imp hg 2 3 (by decide)
  unfold Perf F_X6_performs
  rw [xO_xm, sel24, hg, if_neg (show ¬ nI 22 = (8 : Int32) by decide), if_neg (show ¬ nI 22 = (9 : Int32) by decide), if_neg (show ¬ nI 22 = (10 : Int32) by decide), if_neg (show ¬ nI 22 = (11 : Int32) by decide), if_neg (show ¬ nI 22 = (16 : Int32) by decide), if_neg (show ¬ nI 22 = (17 : Int32) by decide), if_neg (show ¬ nI 22 = (18 : Int32) by decide), if_neg (show ¬ nI 22 = (19 : Int32) by decide), if_neg (show ¬ nI 22 = (20 : Int32) by decide), if_neg (show ¬ nI 22 = (21 : Int32) by decide), if_pos (show nI 22 = (22 : Int32) from rfl)]
  exact ⟨_, rfl, br t0 h f3⟩
theorem d_23 {τ : MS} {pc : Int64} (t0 : Int32) (h : Ok τ pc) (hg : fN (iU (m_ins τ)) 24 5 = 23) : Perf τ pc t0 := by
  have f3 : fN (iU (m_ins τ)) 26 3 = 5 := imp hg 2 3 (by decide)
  unfold Perf F_X6_performs
  rw [xO_xm, sel24, hg, if_neg (show ¬ nI 23 = (8 : Int32) by decide), if_neg (show ¬ nI 23 = (9 : Int32) by decide), if_neg (show ¬ nI 23 = (10 : Int32) by decide), if_neg (show ¬ nI 23 = (11 : Int32) by decide), if_neg (show ¬ nI 23 = (16 : Int32) by decide), if_neg (show ¬ nI 23 = (17 : Int32) by decide), if_neg (show ¬ nI 23 = (18 : Int32) by decide), if_neg (show ¬ nI 23 = (19 : Int32) by decide), if_neg (show ¬ nI 23 = (20 : Int32) by decide), if_neg (show ¬ nI 23 = (21 : Int32) by decide), if_neg (show ¬ nI 23 = (22 : Int32) by decide), if_pos (show nI 23 = (23 : Int32) from rfl)]
  exact ⟨_, rfl, br t0 h f3⟩
theorem i_does {τ : MS} {pc : Int64} (t0 : Int32) (h : Ok τ pc) : Perf τ pc t0 := by
  have hl := fN_lt (iU (m_ins τ)) 24 5
  by_cases he : fN (iU (m_ins τ)) 24 5 < 8 ∨ (12 ≤ fN (iU (m_ins τ)) 24 5 ∧ fN (iU (m_ins τ)) 24 5 < 16) ∨ 28 ≤ fN (iU (m_ins τ)) 24 5
  · exact d_else t0 h he
  · have hc : fN (iU (m_ins τ)) 24 5 = 8 ∨ fN (iU (m_ins τ)) 24 5 = 9 ∨ fN (iU (m_ins τ)) 24 5 = 10 ∨ fN (iU (m_ins τ)) 24 5 = 11 ∨ fN (iU (m_ins τ)) 24 5 = 16 ∨ fN (iU (m_ins τ)) 24 5 = 17 ∨ fN (iU (m_ins τ)) 24 5 = 18 ∨ fN (iU (m_ins τ)) 24 5 = 19 ∨ fN (iU (m_ins τ)) 24 5 = 20 ∨ fN (iU (m_ins τ)) 24 5 = 21 ∨ fN (iU (m_ins τ)) 24 5 = 22 ∨ fN (iU (m_ins τ)) 24 5 = 23 ∨ fN (iU (m_ins τ)) 24 5 = 24 ∨ fN (iU (m_ins τ)) 24 5 = 25 ∨ fN (iU (m_ins τ)) 24 5 = 26 ∨ fN (iU (m_ins τ)) 24 5 = 27 := by omega
    rcases hc with e | e | e | e | e | e | e | e | e | e | e | e | e | e | e | e
    · exact d_8 t0 h e
    · exact d_9 t0 h e
    · exact d_10 t0 h e
    · exact d_11 t0 h e
    · exact d_16 t0 h e
    · exact d_17 t0 h e
    · exact d_18 t0 h e
    · exact d_19 t0 h e
    · exact d_20 t0 h e
    · exact d_21 t0 h e
    · exact d_22 t0 h e
    · exact d_23 t0 h e
    · exact d_24 t0 h e
    · exact d_25 t0 h e
    · exact d_26 t0 h e
    · exact d_27 t0 h e
