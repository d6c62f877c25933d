theorem br_313 {τ : MS} (f3 : fN (iU (m_ins τ)) 26 3 = 5) : F_X12_does τ = F_X12_does_c313 τ := by
  have n10 : fN (iU (m_ins τ)) 24 5 ≠ 10 := imp_ne 2 3 (by decide) (by rw [f3]; decide)
  have n11 : fN (iU (m_ins τ)) 24 5 ≠ 11 := imp_ne 2 3 (by decide) (by rw [f3]; decide)
  have n26 : fN (iU (m_ins τ)) 24 5 ≠ 26 := imp_ne 2 3 (by decide) (by rw [f3]; decide)
  have n27 : fN (iU (m_ins τ)) 24 5 ≠ 27 := imp_ne 2 3 (by decide) (by rw [f3]; decide)
  rw [to_178 n10 n11 (by rw [f3]; decide), sk178 (Or.inl (imp_ne 3 5 (by decide) n26)), sk208 (Or.inl (imp_ne 3 5 (by decide) n26)), sk246 (imp_ne 3 5 (by decide) n27) (Or.inl (imp_ne 0 5 (by decide) n27))]
theorem br_433 {τ : MS} (f3 : fN (iU (m_ins τ)) 26 3 = 5) (h0 : fN (iU (m_ins τ)) 29 2 ≠ 0) (h4 : fN (iU (m_ins τ)) 24 8 ≠ 84 ∨ (iU (m_ins τ)).testBit 4 = true) : F_X12_does τ = F_X12_does_c433 τ := by
  have n26 : fN (iU (m_ins τ)) 24 5 ≠ 26 := imp_ne 2 3 (by decide) (by rw [f3]; decide)
  rw [br_313 f3, sk313 (imp_ne 3 5 (by decide) n26) (imp_ne 8 5 (by decide) n26) (imp_ne 3 2 (by decide) h0) h4]
theorem br_599 {τ : MS} (f3 : fN (iU (m_ins τ)) 26 3 = 5) (h0 : fN (iU (m_ins τ)) 29 2 ≠ 0) (h1 : fN (iU (m_ins τ)) 29 2 ≠ 1) (h4 : fN (iU (m_ins τ)) 24 8 ≠ 84 ∨ (iU (m_ins τ)).testBit 4 = true) (h3 : fN (iU (m_ins τ)) 23 9 ≠ 428 ∨ fN (iU (m_ins τ)) 10 11 ≠ 1984 ∨ fN (iU (m_ins τ)) 0 5 ≠ 0) : F_X12_does τ = F_X12_does_c599 τ := by
  have n24 : fN (iU (m_ins τ)) 24 5 ≠ 24 := imp_ne 2 3 (by decide) (by rw [f3]; decide)
  have n25 : fN (iU (m_ins τ)) 24 5 ≠ 25 := imp_ne 2 3 (by decide) (by rw [f3]; decide)
  rw [br_433 f3 h0 h4, sk433 (imp_ne 4 2 (by decide) h1) (imp_ne 4 2 (by decide) h1) h3, sk517 (imp_ne 0 5 (by decide) n25) (imp_ne 0 5 (by decide) n24) (imp_ne 1 3 (by decide) (by rw [f3]; decide)) (Or.inl (imp_ne 0 5 (by decide) n24))]
theorem x24 (x : Int32) : j_iushr x 24 = nI (fN (iU x) 24 8) := top23 (n := 24) rfl (by decide)
theorem x21 (x : Int32) : j_iushr x 21 = nI (fN (iU x) 21 11) := top23 (n := 21) rfl (by decide)
theorem x12 (x : Int32) : j_iushr x 12 = nI (fN (iU x) 12 20) := top23 (n := 12) rfl (by decide)
theorem x23 (x : Int32) : j_iushr x 23 = nI (fN (iU x) 23 9) := top23 (n := 23) rfl (by decide)
theorem x22 (x : Int32) : j_iushr x 22 = nI (fN (iU x) 22 10) := top23 (n := 22) rfl (by decide)
theorem x19 (x : Int32) : j_iushr x 19 = nI (fN (iU x) 19 13) := top23 (n := 19) rfl (by decide)
def Ctl (τ : MS) (pc : Int64) (t0 : Int32) : Prop := Res (F_X12_does τ) (F_X6_performsControl (xm τ pc t0)) τ pc t0
theorem ctl_84 {τ : MS} {pc : Int64} (t0 : Int32) (h : Ok τ pc) (f3 : fN (iU (m_ins τ)) 26 3 = 5) (h2 : fN (iU (m_ins τ)) 29 2 = 2) (hv : fN (iU (m_ins τ)) 24 8 = 84) : Ctl τ pc t0 := by
  unfold Ctl F_X6_performsControl
  rw [xO_xm, x24, if_pos (show nI (fN (iU (m_ins τ)) 24 8) = (84 : Int32) from tY hv)]
  cases h4 : (iU (m_ins τ)).testBit 4
  · have n26 : fN (iU (m_ins τ)) 24 5 ≠ 26 := imp_ne 2 3 (by decide) (by rw [f3]; decide)
    have n5 : fN (iU (m_ins τ)) 26 5 ≠ 5 := imp_ne 3 2 (by decide) (by rw [h2]; decide)
    rw [br_313 f3, x_when t0 h h4]
    unfold F_X12_does_c313
    rw [fL_30_21, Option.bind_some, if_neg (show ¬ nI (fN (iU (m_ins τ)) 21 10) = (214 : Int32) from tN (k := 214) (by decide) (by decide) (imp_ne 3 5 (by decide) n26)), fL_30_16, Option.bind_some, if_neg (show ¬ nI (fN (iU (m_ins τ)) 16 15) = (23232 : Int32) from tN (k := 23232) (by decide) (by decide) (imp_ne 8 5 (by decide) n26)), fL_30_26, Option.bind_some, if_neg (show ¬ nI (fN (iU (m_ins τ)) 26 5) = (5 : Int32) from tN (k := 5) (by decide) (by decide) n5), fL_31_24, Option.bind_some, if_pos (show nI (fN (iU (m_ins τ)) 24 8) = (84 : Int32) from tY hv), oL_4, h4, iff_f, fL_3_0, Option.bind_some, sL_23_5, Option.bind_some, st2 h]
    cases F_X12_holds τ (nI (fN (iU (m_ins τ)) 0 4))
    · rw [iff_f, iff_f]
      exact Res.of ⟨τ, rfl, h.ok', rfl⟩
    · rw [iff_t, iff_t]
      exact Res.of ⟨_, rfl, Ok'_goes h.1 _ _, rfl⟩
  · have c : ∀ {p c k : Nat} (q : Nat), q + 8 ≤ c → p + q = 24 → fN k q 8 ≠ 84 → fN (iU (m_ins τ)) p c ≠ k := by
      intro p c k q hq hp hk
      refine imp_ne q 8 hq ?_
      rw [hp, hv]
      exact fun e => hk e.symm
    rw [br_599 f3 (by rw [h2]; decide) (by rw [h2]; decide) (Or.inr h4) (Or.inl (c 1 (by decide) rfl (by decide))), sk599 (Or.inl (c 3 (by decide) rfl (by decide))), sk650 (Or.inl (c 3 (by decide) rfl (by decide))), sk696 (Or.inl (c 11 (by decide) rfl (by decide))), sk729 (Or.inl (c 8 (by decide) rfl (by decide))), sk763 (Or.inl (c 2 (by decide) rfl (by decide))), sk796 (Or.inl (c 5 (by decide) rfl (by decide)))]
    refine Res.none h rfl ?_
    unfold F_X2_when
    rw [pL_4, h4, iff_t]
theorem ctl_212 {τ : MS} {pc : Int64} (t0 : Int32) (h : Ok τ pc) (f3 : fN (iU (m_ins τ)) 26 3 = 5) (h2 : fN (iU (m_ins τ)) 29 2 = 2) (hv : fN (iU (m_ins τ)) 24 8 = 212) : Ctl τ pc t0 := by
  unfold Ctl F_X6_performsControl
  have n84 : fN (iU (m_ins τ)) 24 8 ≠ 84 := by rw [hv]; decide
  have c : ∀ {p c k : Nat} (q : Nat), q + 8 ≤ c → p + q = 24 → fN k q 8 ≠ 212 → fN (iU (m_ins τ)) p c ≠ k := by
    intro p c k q hq hp hk
    refine imp_ne q 8 hq ?_
    rw [hp, hv]
    exact fun e => hk e.symm
  have hs : F_X12_does τ = F_X12_does_c599 τ := br_599 f3 (by rw [h2]; decide) (by rw [h2]; decide) (Or.inl n84) (Or.inl (c 1 (by decide) rfl (by decide)))
  have h16 := fN_lt (iU (m_ins τ)) 5 16
  rw [xO_xm, x24, if_neg (show ¬ nI (fN (iU (m_ins τ)) 24 8) = (84 : Int32) from tN (k := 84) (by decide) (by decide) n84), if_pos (show nI (fN (iU (m_ins τ)) 24 8) = (212 : Int32) from tY hv), hs]
  unfold F_X3_call F_X3_call_c5 F_X3_call_c12 F_X3_call_c21 F_X3_call_c46
  rw [x21, gL_0_5, gL_5_16]
  have rest : (fN (iU (m_ins τ)) 21 11 ≠ 1697 ∨ fN (iU (m_ins τ)) 0 5 ≠ 0) → F_X12_does_c650 τ = some (F_X12_none τ) := by
    intro hh
    rw [sk650 hh, sk696 (Or.inl (c 11 (by decide) rfl (by decide))), sk729 (Or.inl (c 8 (by decide) rfl (by decide))), sk763 (Or.inl (c 2 (by decide) rfl (by decide))), sk796 (Or.inl (c 5 (by decide) rfl (by decide)))]
  by_cases e1 : fN (iU (m_ins τ)) 21 11 = 1696
  · have n7 : fN (iU (m_ins τ)) 21 11 ≠ 1697 := by rw [e1]; decide
    rw [if_pos (show nI (fN (iU (m_ins τ)) 21 11) = (1696 : Int32) from tY e1), if_neg (show ¬ nI (fN (iU (m_ins τ)) 21 11) = (1697 : Int32) from tN (k := 1697) (by decide) (by decide) n7)]
    by_cases e2 : fN (iU (m_ins τ)) 0 5 = 1
    · rw [if_pos (show nI (fN (iU (m_ins τ)) 0 5) = (1 : Int32) from tY e2)]
      unfold F_X12_does_c599
      rw [fL_31_21, Option.bind_some, if_pos (show nI (fN (iU (m_ins τ)) 21 11) = (1696 : Int32) from tY e1), fL_4_0, Option.bind_some, if_pos (show nI (fN (iU (m_ins τ)) 0 5) = (1 : Int32) from tY e2), fL_20_5, Option.bind_some, nI_toL (by omega), st2 h, show (21 : Int32) = nI 21 from rfl, exception_eq h.1, raiseBehind_eq h.1 pc t0 (by decide) (by omega)]
      exact Res.of ⟨_, rfl, Ok'_exc h.1 _ _ _ _, rfl⟩
    · rw [if_neg (show ¬ nI (fN (iU (m_ins τ)) 0 5) = (1 : Int32) from tN (k := 1) (by decide) (by decide) e2), sk599 (Or.inr e2), rest (Or.inl n7)]
      exact Res.none h rfl rfl
  · rw [if_neg (show ¬ nI (fN (iU (m_ins τ)) 21 11) = (1696 : Int32) from tN (k := 1696) (by decide) (by decide) e1), sk599 (Or.inl e1)]
    by_cases e2 : fN (iU (m_ins τ)) 21 11 = 1697
    · rw [if_pos (show nI (fN (iU (m_ins τ)) 21 11) = (1697 : Int32) from tY e2)]
      by_cases e3 : fN (iU (m_ins τ)) 0 5 = 0
      · rw [if_pos (show nI (fN (iU (m_ins τ)) 0 5) = (0 : Int32) from tY e3)]
        unfold F_X12_does_c650
        rw [fL_31_21, Option.bind_some, if_pos (show nI (fN (iU (m_ins τ)) 21 11) = (1697 : Int32) from tY e2), fL_4_0, Option.bind_some, if_pos (show nI (fN (iU (m_ins τ)) 0 5) = (0 : Int32) from tY e3), fL_20_5, Option.bind_some, nI_toL (by omega), st2 h, show (60 : Int32) = nI 60 from rfl, exception_eq h.1, raise_eq h.1 pc t0 (by decide) (by omega)]
        exact Res.of ⟨_, rfl, Ok'_exc h.1 _ _ _ _, rfl⟩
      · rw [if_neg (show ¬ nI (fN (iU (m_ins τ)) 0 5) = (0 : Int32) from tN (k := 0) (by decide) (by decide) e3), rest (Or.inr e3)]
        exact Res.none h rfl rfl
    · rw [if_neg (show ¬ nI (fN (iU (m_ins τ)) 21 11) = (1697 : Int32) from tN (k := 1697) (by decide) (by decide) e2), rest (Or.inl e2)]
      exact Res.none h rfl rfl
theorem nop_iff (x : Int32) : F_X3_nothing_c5 xS0 x (nI (fN (iU x) 12 20)) = decide (fN (iU x) 13 19 = 436249 ∧ fN (iU x) 0 5 = 31) := by
  unfold F_X3_nothing_c5 F_X3_nothing_c17
  rw [gL_0_5]
  have e : fN (fN (iU x) 12 20) 1 19 = fN (iU x) 13 19 := fN_sub _ _ _ _ _ (by decide)
  have hl := fN_lt (iU x) 12 20
  rw [← e]
  generalize fN (iU x) 12 20 = n at hl
  have q8 : nI n = (872498 : Int32) ↔ n = 872498 := eqN (n := 872498) (by omega) (by omega)
  have q9 : nI n = (872499 : Int32) ↔ n = 872499 := eqN (n := 872499) (by omega) (by omega)
  have qn : fN n 1 19 = 436249 ↔ n = 872498 ∨ n = 872499 := by
    unfold fN
    omega
  have q5 : nI (fN (iU x) 0 5) = (31 : Int32) ↔ fN (iU x) 0 5 = 31 := eqN (n := 31) (by have := fN_lt (iU x) 0 5; omega) (by omega)
  by_cases h5 : fN (iU x) 0 5 = 31
  · rw [if_pos (q5.mpr h5)]
    by_cases h8 : n = 872498
    · rw [if_pos (q8.mpr h8), decide_eq_true ⟨qn.mpr (Or.inl h8), h5⟩]
    · rw [if_neg (fun z => h8 (q8.mp z))]
      by_cases h9 : n = 872499
      · rw [if_pos (q9.mpr h9), decide_eq_true ⟨qn.mpr (Or.inr h9), h5⟩]
      · rw [if_neg (fun z => h9 (q9.mp z)), decide_eq_false (fun z => by have := qn.mp z.1; omega)]
  · rw [if_neg (fun z => h5 (q5.mp z)), decide_eq_false (fun z => h5 z.2)]
    split
    · rfl
    · split <;> rfl
theorem ctl_213 {τ : MS} {pc : Int64} (t0 : Int32) (h : Ok τ pc) (f3 : fN (iU (m_ins τ)) 26 3 = 5) (h2 : fN (iU (m_ins τ)) 29 2 = 2) (hv : fN (iU (m_ins τ)) 24 8 = 213) : Ctl τ pc t0 := by
  unfold Ctl F_X6_performsControl F_X6_performsControl_c111
  have n84 : fN (iU (m_ins τ)) 24 8 ≠ 84 := by rw [hv]; decide
  have c : ∀ {p c k : Nat} (q : Nat), q + 8 ≤ c → p + q = 24 → fN k q 8 ≠ 213 → fN (iU (m_ins τ)) p c ≠ k := by
    intro p c k q hq hp hk
    refine imp_ne q 8 hq ?_
    rw [hp, hv]
    exact fun e => hk e.symm
  have hs : F_X12_does τ = F_X12_does_c696 τ := by
    rw [br_599 f3 (by rw [h2]; decide) (by rw [h2]; decide) (Or.inl n84) (Or.inl (c 1 (by decide) rfl (by decide))), sk599 (Or.inl (c 3 (by decide) rfl (by decide))), sk650 (Or.inl (c 3 (by decide) rfl (by decide)))]
  have hno : F_X3_nothing (xm τ pc t0) (m_ins τ) = decide (fN (iU (m_ins τ)) 13 19 = 436249 ∧ fN (iU (m_ins τ)) 0 5 = 31) := by
    rw [← nop_iff]
    unfold F_X3_nothing
    rw [x12]
    rfl
  rw [xO_xm, x24, if_neg (show ¬ nI (fN (iU (m_ins τ)) 24 8) = (84 : Int32) from tN (k := 84) (by decide) (by decide) n84), if_neg (show ¬ nI (fN (iU (m_ins τ)) 24 8) = (212 : Int32) from tN (k := 212) (by decide) (by decide) (by rw [hv]; decide)), if_pos (show nI (fN (iU (m_ins τ)) 24 8) = (213 : Int32) from tY hv), hs, hno]
  by_cases hn : fN (iU (m_ins τ)) 13 19 = 436249 ∧ fN (iU (m_ins τ)) 0 5 = 31
  · rw [decide_eq_true hn, iff_t]
    unfold F_X12_does_c696
    rw [fL_31_13, Option.bind_some, if_pos (show nI (fN (iU (m_ins τ)) 13 19) = (436249 : Int32) from tY hn.1), fL_4_0, Option.bind_some, if_pos (show nI (fN (iU (m_ins τ)) 0 5) = (31 : Int32) from tY hn.2)]
    exact Res.of ⟨mu_carry τ 0, rfl, h.ok', rfl⟩
  · have hno2 : fN (iU (m_ins τ)) 13 19 ≠ 436249 ∨ fN (iU (m_ins τ)) 0 5 ≠ 31 := by
      by_cases e : fN (iU (m_ins τ)) 13 19 = 436249
      · exact Or.inr (fun z => hn ⟨e, z⟩)
      · exact Or.inl e
    rw [decide_eq_false hn, iff_f, sk696 hno2, sk729 (Or.inl (c 8 (by decide) rfl (by decide)))]
    by_cases hy : fN (iU (m_ins τ)) 22 10 = 852 ∧ fN (iU (m_ins τ)) 19 2 = 3
    · have hM : F_X12_does_c763 τ = F_X12_system τ := by
        unfold F_X12_does_c763
        rw [fL_31_22, Option.bind_some, if_pos (show nI (fN (iU (m_ins τ)) 22 10) = (852 : Int32) from tY hy.1), fL_20_19, Option.bind_some, if_pos (show nI (fN (iU (m_ins τ)) 19 2) = (3 : Int32) from tY hy.2), bs]
      rw [hM]
      obtain ⟨τ', a1, a2, a3⟩ := i_system t0 h hy.1 hy.2
      rcases a3 with a3 | ⟨a3, a4⟩
      · rw [a3]
        exact ⟨τ', a1, a2, Or.inl rfl⟩
      · have n68 : fN (iU (m_ins τ)) 19 13 ≠ 6816 := imp_ne 0 2 (by decide) (by rw [hy.2]; decide)
        have hse : F_X3_setting (xm τ pc t0) (m_ins τ) = (false, xm τ pc t0) := by
          unfold F_X3_setting
          rw [x19, if_neg (show ¬ nI (fN (iU (m_ins τ)) 19 13) = (6816 : Int32) from tN (k := 6816) (by decide) (by decide) n68)]
        rw [a3]
        dsimp only
        rw [iff_f, xO_xm, hse]
        exact ⟨τ', a1, a2, Or.inr ⟨rfl, a4⟩⟩
    · have hy2 : fN (iU (m_ins τ)) 22 10 ≠ 852 ∨ fN (iU (m_ins τ)) 19 2 ≠ 3 := by
        by_cases e : fN (iU (m_ins τ)) 22 10 = 852
        · exact Or.inr (fun z => hy ⟨e, z⟩)
        · exact Or.inl e
      have hsy : F_X3_system (xm τ pc t0) (m_ins τ) = (false, xm τ pc t0) := by
        unfold F_X3_system F_X3_system_c7 F_X3_system_c15 F_X3_system_c21
        rw [x22, gL_19_2]
        rcases hy2 with e | e
        · rw [if_neg (show ¬ nI (fN (iU (m_ins τ)) 22 10) = (852 : Int32) from tN (k := 852) (by decide) (by decide) e)]
        · rw [if_neg (show ¬ nI (fN (iU (m_ins τ)) 19 2) = (3 : Int32) from tN (k := 3) (by decide) (by decide) e)]
          split <;> rfl
      rw [sk763 hy2, hsy]
      dsimp only
      rw [iff_f, xO_xm]
      by_cases hz : fN (iU (m_ins τ)) 19 13 = 6816 ∧ fN (iU (m_ins τ)) 12 4 = 4 ∧ fN (iU (m_ins τ)) 0 5 = 31
      · have hM : F_X12_does_c796 τ = F_X12_sets τ := by
          unfold F_X12_does_c796
          rw [fL_31_19, Option.bind_some, if_pos (show nI (fN (iU (m_ins τ)) 19 13) = (6816 : Int32) from tY hz.1), fL_15_12, Option.bind_some, if_pos (show nI (fN (iU (m_ins τ)) 12 4) = (4 : Int32) from tY hz.2.1), fL_4_0, Option.bind_some, if_pos (show nI (fN (iU (m_ins τ)) 0 5) = (31 : Int32) from tY hz.2.2), bs]
        rw [hM]
        obtain ⟨τ', a1, a2, a3⟩ := i_sets t0 h hz.1 hz.2.1 hz.2.2
        rcases a3 with a3 | ⟨a3, a4⟩
        · rw [a3]
          exact ⟨τ', a1, a2, Or.inl rfl⟩
        · rw [a3]
          exact ⟨τ', a1, a2, Or.inr ⟨rfl, a4⟩⟩
      · have hz2 : fN (iU (m_ins τ)) 19 13 ≠ 6816 ∨ fN (iU (m_ins τ)) 12 4 ≠ 4 ∨ fN (iU (m_ins τ)) 0 5 ≠ 31 := by
          by_cases e1 : fN (iU (m_ins τ)) 19 13 = 6816
          · by_cases e2 : fN (iU (m_ins τ)) 12 4 = 4
            · exact Or.inr (Or.inr (fun e3 => hz ⟨e1, e2, e3⟩))
            · exact Or.inr (Or.inl e2)
          · exact Or.inl e1
        have hse : F_X3_setting (xm τ pc t0) (m_ins τ) = (false, xm τ pc t0) := by
          unfold F_X3_setting
          rw [x19, gL_12_4, gL_0_5]
          rcases hz2 with e | e | e
          · rw [if_neg (show ¬ nI (fN (iU (m_ins τ)) 19 13) = (6816 : Int32) from tN (k := 6816) (by decide) (by decide) e)]
          · rw [if_neg (show ¬ nI (fN (iU (m_ins τ)) 12 4) = (4 : Int32) from tN (k := 4) (by decide) (by decide) e)]
            split <;> rfl
          · rw [if_neg (show ¬ nI (fN (iU (m_ins τ)) 0 5) = (31 : Int32) from tN (k := 31) (by decide) (by decide) e)]
            split
            · split <;> rfl
            · rfl
        rw [sk796 hz2, hse]
        exact Res.none h rfl rfl
theorem back_iff (x : Int32) : x = (-694221856 : Int32) ↔ (fN (iU x) 16 16 = 54943 ∧ fN (iU x) 0 16 = 992) := by
  have hl := iU_lt x
  have e : iU (-694221856 : Int32) = 3600745440 := rfl
  constructor
  · intro h
    rw [h, e]
    decide
  · intro h
    apply iU_inj
    rw [e]
    unfold fN at h
    omega
theorem ctl_214 {τ : MS} {pc : Int64} (t0 : Int32) (h : Ok τ pc) (f3 : fN (iU (m_ins τ)) 26 3 = 5) (h2 : fN (iU (m_ins τ)) 29 2 = 2) (hv : fN (iU (m_ins τ)) 24 8 = 214) : Ctl τ pc t0 := by
  unfold Ctl F_X6_performsControl F_X6_performsControl_c145
  have n84 : fN (iU (m_ins τ)) 24 8 ≠ 84 := by rw [hv]; decide
  have c : ∀ {p c k : Nat} (q : Nat), q + 8 ≤ c → p + q = 24 → fN k q 8 ≠ 214 → fN (iU (m_ins τ)) p c ≠ k := by
    intro p c k q hq hp hk
    refine imp_ne q 8 hq ?_
    rw [hp, hv]
    exact fun e => hk e.symm
  rw [xO_xm, x24, if_neg (show ¬ nI (fN (iU (m_ins τ)) 24 8) = (84 : Int32) from tN (k := 84) (by decide) (by decide) n84), if_neg (show ¬ nI (fN (iU (m_ins τ)) 24 8) = (212 : Int32) from tN (k := 212) (by decide) (by decide) (by rw [hv]; decide)), if_neg (show ¬ nI (fN (iU (m_ins τ)) 24 8) = (213 : Int32) from tN (k := 213) (by decide) (by decide) (by rw [hv]; decide)), if_pos (show nI (fN (iU (m_ins τ)) 24 8) = (214 : Int32) from tY hv)]
  have hb := back_iff (m_ins τ)
  by_cases ht : fN (iU (m_ins τ)) 23 9 = 428 ∧ fN (iU (m_ins τ)) 10 11 = 1984 ∧ fN (iU (m_ins τ)) 0 5 = 0
  · have hM : F_X12_does τ = F_X12_toRegister τ := by
      rw [br_433 f3 (by rw [h2]; decide) (Or.inl n84)]
      unfold F_X12_does_c433
      rw [fL_30_25, Option.bind_some, if_neg (show ¬ nI (fN (iU (m_ins τ)) 25 6) = (26 : Int32) from tN (k := 26) (by decide) (by decide) (imp_ne 4 2 (by decide) (by rw [h2]; decide))), Option.bind_some, if_neg (show ¬ nI (fN (iU (m_ins τ)) 25 6) = (27 : Int32) from tN (k := 27) (by decide) (by decide) (imp_ne 4 2 (by decide) (by rw [h2]; decide))), fL_31_23, Option.bind_some, if_pos (show nI (fN (iU (m_ins τ)) 23 9) = (428 : Int32) from tY ht.1), fL_20_10, Option.bind_some, if_pos (show nI (fN (iU (m_ins τ)) 10 11) = (1984 : Int32) from tY ht.2.1), fL_4_0, Option.bind_some, if_pos (show nI (fN (iU (m_ins τ)) 0 5) = (0 : Int32) from tY ht.2.2), bs]
    rw [hM]
    obtain ⟨τ', a1, a2, a3⟩ := i_toReg t0 h ht.1 ht.2.1 ht.2.2
    rcases a3 with a3 | ⟨a3, a4⟩
    · rw [a3]
      exact ⟨τ', a1, a2, Or.inl rfl⟩
    · have nb : ¬ m_ins τ = (-694221856 : Int32) := fun z => by
        have := imp (hb.mp z).1 7 9 (by decide)
        rw [ht.1] at this
        exact absurd this (by decide)
      have hba : F_X3_back (xm τ pc t0) (m_ins τ) = (false, xm τ pc t0) := by
        unfold F_X3_back
        rw [if_neg nb]
      rw [a3]
      dsimp only
      rw [iff_f, xO_xm, hba]
      exact ⟨τ', a1, a2, Or.inr ⟨rfl, a4⟩⟩
  · have ht2 : fN (iU (m_ins τ)) 23 9 ≠ 428 ∨ fN (iU (m_ins τ)) 10 11 ≠ 1984 ∨ fN (iU (m_ins τ)) 0 5 ≠ 0 := by
      by_cases e1 : fN (iU (m_ins τ)) 23 9 = 428
      · by_cases e2 : fN (iU (m_ins τ)) 10 11 = 1984
        · exact Or.inr (Or.inr (fun e3 => ht ⟨e1, e2, e3⟩))
        · exact Or.inr (Or.inl e2)
      · exact Or.inl e1
    have hto : F_X2_toRegister (xm τ pc t0) (m_ins τ) = (false, xm τ pc t0) := by
      unfold F_X2_toRegister F_X2_toRegister_c8
      rw [x23, gL_10_11, gL_0_5]
      rcases ht2 with e | e | e
      · rw [if_neg (show ¬ nI (fN (iU (m_ins τ)) 23 9) = (428 : Int32) from tN (k := 428) (by decide) (by decide) e)]
      · rw [if_neg (show ¬ nI (fN (iU (m_ins τ)) 10 11) = (1984 : Int32) from tN (k := 1984) (by decide) (by decide) e)]
        split
        · split <;> rfl
        · rfl
      · rw [if_neg (show ¬ nI (fN (iU (m_ins τ)) 0 5) = (0 : Int32) from tN (k := 0) (by decide) (by decide) e)]
        split
        · split
          · rfl
          · split <;> rfl
        · rfl
    have hs : F_X12_does τ = F_X12_does_c729 τ := by
      rw [br_599 f3 (by rw [h2]; decide) (by rw [h2]; decide) (Or.inl n84) ht2, sk599 (Or.inl (c 3 (by decide) rfl (by decide))), sk650 (Or.inl (c 3 (by decide) rfl (by decide))), sk696 (Or.inl (c 11 (by decide) rfl (by decide)))]
    rw [hto, hs]
    dsimp only
    rw [iff_f, xO_xm]
    by_cases hk : fN (iU (m_ins τ)) 16 16 = 54943 ∧ fN (iU (m_ins τ)) 0 16 = 992
    · have hM : F_X12_does_c729 τ = F_X12_back τ := by
        unfold F_X12_does_c729
        rw [fL_31_16, Option.bind_some, if_pos (show nI (fN (iU (m_ins τ)) 16 16) = (54943 : Int32) from tY hk.1), fL_15_0, Option.bind_some, if_pos (show nI (fN (iU (m_ins τ)) 0 16) = (992 : Int32) from tY hk.2), bs]
      have hw : iU (m_ins τ) = 3600745440 := by
        rw [hb.mpr hk]
        rfl
      rw [hM]
      obtain ⟨τ', a1, a2, a3⟩ := i_back t0 h hw
      rcases a3 with a3 | ⟨a3, a4⟩
      · rw [a3]
        exact ⟨τ', a1, a2, Or.inl rfl⟩
      · rw [a3]
        exact ⟨τ', a1, a2, Or.inr ⟨rfl, a4⟩⟩
    · have hk2 : fN (iU (m_ins τ)) 16 16 ≠ 54943 ∨ fN (iU (m_ins τ)) 0 16 ≠ 992 := by
        by_cases e : fN (iU (m_ins τ)) 16 16 = 54943
        · exact Or.inr (fun z => hk ⟨e, z⟩)
        · exact Or.inl e
      have hba : F_X3_back (xm τ pc t0) (m_ins τ) = (false, xm τ pc t0) := by
        unfold F_X3_back
        rw [if_neg (fun z => hk (hb.mp z))]
      rw [sk729 hk2, sk763 (Or.inl (c 2 (by decide) rfl (by decide))), sk796 (Or.inl (c 5 (by decide) rfl (by decide))), hba]
      exact Res.none h rfl rfl
theorem ctl_else {τ : MS} {pc : Int64} (t0 : Int32) (h : Ok τ pc) (f3 : fN (iU (m_ins τ)) 26 3 = 5) (h2 : fN (iU (m_ins τ)) 29 2 = 2) (v1 : fN (iU (m_ins τ)) 24 8 ≠ 84) (v2 : fN (iU (m_ins τ)) 24 8 ≠ 212) (v3 : fN (iU (m_ins τ)) 24 8 ≠ 213) (v4 : fN (iU (m_ins τ)) 24 8 ≠ 214) : Ctl τ pc t0 := by
  unfold Ctl F_X6_performsControl
  rw [xO_xm, x24, if_neg (show ¬ nI (fN (iU (m_ins τ)) 24 8) = (84 : Int32) from tN (k := 84) (by decide) (by decide) v1), if_neg (show ¬ nI (fN (iU (m_ins τ)) 24 8) = (212 : Int32) from tN (k := 212) (by decide) (by decide) v2), if_neg (show ¬ nI (fN (iU (m_ins τ)) 24 8) = (213 : Int32) from tN (k := 213) (by decide) (by decide) v3), if_neg (show ¬ nI (fN (iU (m_ins τ)) 24 8) = (214 : Int32) from tN (k := 214) (by decide) (by decide) v4), br_599 f3 (by rw [h2]; decide) (by rw [h2]; decide) (Or.inl v1) (Or.inl (imp_ne 1 8 (by decide) v4)), sk599 (Or.inl (imp_ne 3 8 (by decide) v2)), sk650 (Or.inl (imp_ne 3 8 (by decide) v2)), sk696 (Or.inl (imp_ne 11 8 (by decide) v3)), sk729 (Or.inl (imp_ne 8 8 (by decide) v4)), sk763 (Or.inl (imp_ne 2 8 (by decide) v3)), sk796 (Or.inl (imp_ne 5 8 (by decide) v3))]
  exact Res.none h rfl rfl
theorem ctl {τ : MS} {pc : Int64} (t0 : Int32) (h : Ok τ pc) (f3 : fN (iU (m_ins τ)) 26 3 = 5) (h2 : fN (iU (m_ins τ)) 29 2 = 2) : Ctl τ pc t0 := by
  by_cases v1 : fN (iU (m_ins τ)) 24 8 = 84
  · exact ctl_84 t0 h f3 h2 v1
  · by_cases v2 : fN (iU (m_ins τ)) 24 8 = 212
    · exact ctl_212 t0 h f3 h2 v2
    · by_cases v3 : fN (iU (m_ins τ)) 24 8 = 213
      · exact ctl_213 t0 h f3 h2 v3
      · by_cases v4 : fN (iU (m_ins τ)) 24 8 = 214
        · exact ctl_214 t0 h f3 h2 v4
        · exact ctl_else t0 h f3 h2 v1 v2 v3 v4
theorem br {τ : MS} {pc : Int64} (t0 : Int32) (h : Ok τ pc) (f3 : fN (iU (m_ins τ)) 26 3 = 5) : Res (F_X12_does τ) (F_X6_performsBranch (xm τ pc t0)) τ pc t0 := by
  unfold F_X6_performsBranch
  have n26 : fN (iU (m_ins τ)) 24 5 ≠ 26 := imp_ne 2 3 (by decide) (by rw [f3]; decide)
  have hs := fN_lt (iU (m_ins τ)) 29 2
  rw [xO_xm, sel29]
  by_cases h0 : fN (iU (m_ins τ)) 29 2 = 0
  · have e5 : fN (iU (m_ins τ)) 26 5 = 5 := by
      clear n26 hs
      unfold fN at *
      omega
    have hM : F_X12_does τ = F_X12_branch τ := by
      rw [br_313 f3]
      unfold F_X12_does_c313
      rw [fL_30_21, Option.bind_some, if_neg (show ¬ nI (fN (iU (m_ins τ)) 21 10) = (214 : Int32) from tN (k := 214) (by decide) (by decide) (imp_ne 3 5 (by decide) n26)), fL_30_16, Option.bind_some, if_neg (show ¬ nI (fN (iU (m_ins τ)) 16 15) = (23232 : Int32) from tN (k := 23232) (by decide) (by decide) (imp_ne 8 5 (by decide) n26)), fL_30_26, Option.bind_some, if_pos (show nI (fN (iU (m_ins τ)) 26 5) = (5 : Int32) from tY e5), bs]
    rw [if_pos (show nI (fN (iU (m_ins τ)) 29 2) = (0 : Int32) from tY h0), hM]
    exact i_branch t0 h
  · rw [if_neg (show ¬ nI (fN (iU (m_ins τ)) 29 2) = (0 : Int32) from tN (k := 0) (by decide) (by decide) h0)]
    by_cases h1 : fN (iU (m_ins τ)) 29 2 = 1
    · rw [if_pos (show nI (fN (iU (m_ins τ)) 29 2) = (1 : Int32) from tY h1), show F_X1_isOne (m_ins τ) 25 = (iU (m_ins τ)).testBit 25 from isOne_eq _ (k := 25) (by decide), br_433 f3 h0 (Or.inl (imp_ne 5 2 (by decide) (by rw [h1]; decide)))]
      unfold F_X12_does_c433
      rw [fL_30_25, Option.bind_some]
      cases h25 : (iU (m_ins τ)).testBit 25
      · have b25 := bit_of h25
        have e6 : fN (iU (m_ins τ)) 25 6 = 26 := by
          clear n26 hs h0
          unfold fN at *
          simp only [Bool.toNat_false] at b25
          omega
        rw [if_pos (show nI (fN (iU (m_ins τ)) 25 6) = (26 : Int32) from tY e6), bs, iff_f]
        exact i_zero t0 h
      · have b25 := bit_of h25
        have e6 : fN (iU (m_ins τ)) 25 6 = 27 := by
          clear n26 hs h0
          unfold fN at *
          simp only [Bool.toNat_true] at b25
          omega
        rw [if_neg (show ¬ nI (fN (iU (m_ins τ)) 25 6) = (26 : Int32) from tN (k := 26) (by decide) (by decide) (by rw [e6]; decide)), Option.bind_some, if_pos (show nI (fN (iU (m_ins τ)) 25 6) = (27 : Int32) from tY e6), bs, iff_t]
        exact i_bit t0 h
    · rw [if_neg (show ¬ nI (fN (iU (m_ins τ)) 29 2) = (1 : Int32) from tN (k := 1) (by decide) (by decide) h1)]
      by_cases h2 : fN (iU (m_ins τ)) 29 2 = 2
      · rw [if_pos (show nI (fN (iU (m_ins τ)) 29 2) = (2 : Int32) from tY h2)]
        exact ctl t0 h f3 h2
      · rw [if_neg (show ¬ nI (fN (iU (m_ins τ)) 29 2) = (2 : Int32) from tN (k := 2) (by decide) (by decide) h2), br_599 f3 h0 h1 (Or.inl (imp_ne 5 2 (by decide) h2)) (Or.inl (imp_ne 6 2 (by decide) h2)), tail_none (Or.inr h2)]
        exact Res.none h rfl rfl
