theorem d_8 {τ : MS} {pc : Int64} (t0 : Int32) (h : Ok τ pc) (hg : fN (iU (m_ins τ)) 24 5 = 8) : Perf τ pc t0 := by
  have f3 : fN (iU (m_ins τ)) 26 3 = 2 := imp hg 2 3 (by decide)
  have f4 : fN (iU (m_ins τ)) 25 4 = 4 := imp hg 1 4 (by decide)
  unfold Perf F_X6_performs
  rw [xO_xm, sel24, hg, if_pos (show nI 8 = (8 : Int32) from rfl), bse, to_178 (show fN (iU (m_ins τ)) 24 5 ≠ 10 by rw [hg]; decide) (show fN (iU (m_ins τ)) 24 5 ≠ 11 by rw [hg]; decide) (by rw [f3]; decide), to_517 (show fN (iU (m_ins τ)) 24 5 ≠ 26 by rw [hg]; decide) (show fN (iU (m_ins τ)) 24 5 ≠ 27 by rw [hg]; decide) (by rw [f3]; decide)]
  cases h29 : (iU (m_ins τ)).testBit 29
  · have b29 := bit_of h29
    have hM : F_X12_does_c517 τ = some (F_X12_none τ) := none_517 (Or.inl ⟨(show fN (iU (m_ins τ)) 24 5 ≠ 20 by rw [hg]; decide), (show fN (iU (m_ins τ)) 24 5 ≠ 21 by rw [hg]; decide), (show fN (iU (m_ins τ)) 24 5 ≠ 22 by rw [hg]; decide)⟩) (imp_ne 0 5 (by decide) (show fN (iU (m_ins τ)) 24 5 ≠ 25 by rw [hg]; decide)) (imp_ne 0 5 (by decide) (show fN (iU (m_ins τ)) 24 5 ≠ 24 by rw [hg]; decide)) (imp_ne 4 1 (by decide) (by rw [b29]; decide)) (Or.inl (imp_ne 0 5 (by decide) (show fN (iU (m_ins τ)) 24 5 ≠ 24 by rw [hg]; decide)))
    rw [hM]
    unfold F_X0_pair F_X0_pair_c5 F_X0_pair_c13 F_X0_pair_c21
    rw [pL_29, h29, iff_f]
    exact ⟨_, rfl, Res.none h rfl rfl⟩
  · have b29 := bit_of h29
    have h20 : fN (iU (m_ins τ)) 25 5 = 20 := by
      unfold fN at *
      simp only [Bool.toNat_true] at b29
      omega
    unfold F_X12_does_c517
    rw [fL_29_24, Option.bind_some, if_neg (show ¬ nI (fN (iU (m_ins τ)) 24 6) = (57 : Int32) from tN (k := 57) (by decide) (by decide) (imp_ne 0 5 (by decide) (show fN (iU (m_ins τ)) 24 5 ≠ 25 by rw [hg]; decide))), Option.bind_some, if_neg (show ¬ nI (fN (iU (m_ins τ)) 24 6) = (56 : Int32) from tN (k := 56) (by decide) (by decide) (imp_ne 0 5 (by decide) (show fN (iU (m_ins τ)) 24 5 ≠ 24 by rw [hg]; decide))), fL_29_25, Option.bind_some, if_pos (show nI (fN (iU (m_ins τ)) 25 5) = (20 : Int32) from tY h20), bs]
    exact i_pair t0 h h29
theorem d_9 {τ : MS} {pc : Int64} (t0 : Int32) (h : Ok τ pc) (hg : fN (iU (m_ins τ)) 24 5 = 9) : Perf τ pc t0 := by
  have f3 : fN (iU (m_ins τ)) 26 3 = 2 := imp hg 2 3 (by decide)
  have f4 : fN (iU (m_ins τ)) 25 4 = 4 := imp hg 1 4 (by decide)
  unfold Perf F_X6_performs
  rw [xO_xm, sel24, hg, if_neg (show ¬ nI 9 = (8 : Int32) by decide), if_pos (show nI 9 = (9 : Int32) from rfl), bse, to_178 (show fN (iU (m_ins τ)) 24 5 ≠ 10 by rw [hg]; decide) (show fN (iU (m_ins τ)) 24 5 ≠ 11 by rw [hg]; decide) (by rw [f3]; decide), to_517 (show fN (iU (m_ins τ)) 24 5 ≠ 26 by rw [hg]; decide) (show fN (iU (m_ins τ)) 24 5 ≠ 27 by rw [hg]; decide) (by rw [f3]; decide)]
  cases h29 : (iU (m_ins τ)).testBit 29
  · have b29 := bit_of h29
    have hM : F_X12_does_c517 τ = some (F_X12_none τ) := none_517 (Or.inl ⟨(show fN (iU (m_ins τ)) 24 5 ≠ 20 by rw [hg]; decide), (show fN (iU (m_ins τ)) 24 5 ≠ 21 by rw [hg]; decide), (show fN (iU (m_ins τ)) 24 5 ≠ 22 by rw [hg]; decide)⟩) (imp_ne 0 5 (by decide) (show fN (iU (m_ins τ)) 24 5 ≠ 25 by rw [hg]; decide)) (imp_ne 0 5 (by decide) (show fN (iU (m_ins τ)) 24 5 ≠ 24 by rw [hg]; decide)) (imp_ne 4 1 (by decide) (by rw [b29]; decide)) (Or.inl (imp_ne 0 5 (by decide) (show fN (iU (m_ins τ)) 24 5 ≠ 24 by rw [hg]; decide)))
    rw [hM]
    unfold F_X0_pair F_X0_pair_c5 F_X0_pair_c13 F_X0_pair_c21
    rw [pL_29, h29, iff_f]
    exact ⟨_, rfl, Res.none h rfl rfl⟩
  · have b29 := bit_of h29
    have h20 : fN (iU (m_ins τ)) 25 5 = 20 := by
      unfold fN at *
      simp only [Bool.toNat_true] at b29
      omega
    unfold F_X12_does_c517
    rw [fL_29_24, Option.bind_some, if_neg (show ¬ nI (fN (iU (m_ins τ)) 24 6) = (57 : Int32) from tN (k := 57) (by decide) (by decide) (imp_ne 0 5 (by decide) (show fN (iU (m_ins τ)) 24 5 ≠ 25 by rw [hg]; decide))), Option.bind_some, if_neg (show ¬ nI (fN (iU (m_ins τ)) 24 6) = (56 : Int32) from tN (k := 56) (by decide) (by decide) (imp_ne 0 5 (by decide) (show fN (iU (m_ins τ)) 24 5 ≠ 24 by rw [hg]; decide))), fL_29_25, Option.bind_some, if_pos (show nI (fN (iU (m_ins τ)) 25 5) = (20 : Int32) from tY h20), bs]
    exact i_pair t0 h h29
theorem d_10 {τ : MS} {pc : Int64} (t0 : Int32) (h : Ok τ pc) (hg : fN (iU (m_ins τ)) 24 5 = 10) : Perf τ pc t0 := by
  have f3 : fN (iU (m_ins τ)) 26 3 = 2 := imp hg 2 3 (by decide)
  have hM : F_X12_does τ = F_X12_logic τ := by
    rw [sk0 (imp_ne 3 3 (by decide) (by rw [f3]; decide)) (Or.inl (show fN (iU (m_ins τ)) 24 5 ≠ 11 by rw [hg]; decide))]
    unfold F_X12_does_c49
    rw [fL_28_24, Option.bind_some, if_pos (show nI (fN (iU (m_ins τ)) 24 5) = (10 : Int32) from tY hg), bs]
  unfold Perf F_X6_performs
  rw [xO_xm, sel24, hg, if_neg (show ¬ nI 10 = (8 : Int32) by decide), if_neg (show ¬ nI 10 = (9 : Int32) by decide), if_pos (show nI 10 = (10 : Int32) from rfl), hM]
  exact ⟨_, rfl, i_logic t0 h⟩
theorem d_11 {τ : MS} {pc : Int64} (t0 : Int32) (h : Ok τ pc) (hg : fN (iU (m_ins τ)) 24 5 = 11) : Perf τ pc t0 := by
  have f4 : fN (iU (m_ins τ)) 25 4 = 5 := imp hg 1 4 (by decide)
  have f3 : fN (iU (m_ins τ)) 26 3 = 2 := imp hg 2 3 (by decide)
  unfold Perf F_X6_performs
  rw [xO_xm, sel24, hg, if_neg (show ¬ nI 11 = (8 : Int32) by decide), if_neg (show ¬ nI 11 = (9 : Int32) by decide), if_neg (show ¬ nI 11 = (10 : Int32) by decide), if_pos (show nI 11 = (11 : Int32) from rfl)]
  refine ⟨_, rfl, ?_⟩
  cases h21 : (iU (m_ins τ)).testBit 21
  · have hM : F_X12_does τ = F_X12_sums τ := by
      unfold F_X12_does
      rw [fL_28_23, Option.bind_some, if_neg (show ¬ nI (fN (iU (m_ins τ)) 23 6) = (34 : Int32) from tN (k := 34) (by decide) (by decide) (imp_ne 3 3 (by decide) (by rw [f3]; decide))), fL_28_24, Option.bind_some, if_pos (show nI (fN (iU (m_ins τ)) 24 5) = (11 : Int32) from tY hg), oL_21, h21, iff_f, bs]
    rw [hM]
    exact i_sums t0 h h21
  · have hM : F_X12_does τ = some (F_X12_none τ) := by
      rw [sk0 (imp_ne 3 3 (by decide) (by rw [f3]; decide)) (Or.inr h21), sk49 (show fN (iU (m_ins τ)) 24 5 ≠ 10 by rw [hg]; decide) (imp_ne 3 3 (by decide) (by rw [f3]; decide)) (imp_ne 3 3 (by decide) (by rw [f3]; decide)) (show fN (iU (m_ins τ)) 24 5 ≠ 16 by rw [hg]; decide) (imp_ne 3 3 (by decide) (by rw [f3]; decide)) (Or.inr h21), to_517 (show fN (iU (m_ins τ)) 24 5 ≠ 26 by rw [hg]; decide) (show fN (iU (m_ins τ)) 24 5 ≠ 27 by rw [hg]; decide) (by rw [f3]; decide), none_517 (Or.inl ⟨(show fN (iU (m_ins τ)) 24 5 ≠ 20 by rw [hg]; decide), (show fN (iU (m_ins τ)) 24 5 ≠ 21 by rw [hg]; decide), (show fN (iU (m_ins τ)) 24 5 ≠ 22 by rw [hg]; decide)⟩) (imp_ne 0 5 (by decide) (show fN (iU (m_ins τ)) 24 5 ≠ 25 by rw [hg]; decide)) (imp_ne 0 5 (by decide) (show fN (iU (m_ins τ)) 24 5 ≠ 24 by rw [hg]; decide)) (imp_ne 0 4 (by decide) (by rw [f4]; decide)) (Or.inl (imp_ne 0 5 (by decide) (show fN (iU (m_ins τ)) 24 5 ≠ 24 by rw [hg]; decide)))]
    rw [hM]
    refine Res.none h rfl ?_
    unfold F_X7_sum F_X7_sum_c9 F_X7_sum_c18 F_X7_sum_c28
    rw [pL_21, h21, iff_t, iff_t]
    split <;> rfl
theorem d_16 {τ : MS} {pc : Int64} (t0 : Int32) (h : Ok τ pc) (hg : fN (iU (m_ins τ)) 24 5 = 16) : Perf τ pc t0 := by
  have f3 : fN (iU (m_ins τ)) 25 4 = 8 := imp hg 1 4 (by decide)
  have hM : F_X12_does τ = F_X12_placeOf τ := by
    rw [sk0 (imp_ne 1 5 (by decide) (show fN (iU (m_ins τ)) 24 5 ≠ 17 by rw [hg]; decide)) (Or.inl (show fN (iU (m_ins τ)) 24 5 ≠ 11 by rw [hg]; decide))]
    unfold F_X12_does_c49
    rw [fL_28_24, Option.bind_some, if_neg (show ¬ nI (fN (iU (m_ins τ)) 24 5) = (10 : Int32) from tN (k := 10) (by decide) (by decide) (show fN (iU (m_ins τ)) 24 5 ≠ 10 by rw [hg]; decide)), fL_28_23, Option.bind_some, if_neg (show ¬ nI (fN (iU (m_ins τ)) 23 6) = (36 : Int32) from tN (k := 36) (by decide) (by decide) (imp_ne 1 5 (by decide) (show fN (iU (m_ins τ)) 24 5 ≠ 18 by rw [hg]; decide))), Option.bind_some, if_neg (show ¬ nI (fN (iU (m_ins τ)) 23 6) = (37 : Int32) from tN (k := 37) (by decide) (by decide) (imp_ne 1 5 (by decide) (show fN (iU (m_ins τ)) 24 5 ≠ 18 by rw [hg]; decide))), Option.bind_some, if_pos (show nI (fN (iU (m_ins τ)) 24 5) = (16 : Int32) from tY hg), bs]
  unfold Perf F_X6_performs
  rw [xO_xm, sel24, hg, if_neg (show ¬ nI 16 = (8 : Int32) by decide), if_neg (show ¬ nI 16 = (9 : Int32) by decide), if_neg (show ¬ nI 16 = (10 : Int32) by decide), if_neg (show ¬ nI 16 = (11 : Int32) by decide), if_pos (show nI 16 = (16 : Int32) from rfl), hM]
  exact ⟨_, rfl, i_place t0 h⟩
theorem d_17 {τ : MS} {pc : Int64} (t0 : Int32) (h : Ok τ pc) (hg : fN (iU (m_ins τ)) 24 5 = 17) : Perf τ pc t0 := by
  have f3 : fN (iU (m_ins τ)) 26 3 = 4 := imp hg 2 3 (by decide)
  unfold Perf F_X6_performs
  rw [xO_xm, sel24, hg, if_neg (show ¬ nI 17 = (8 : Int32) by decide), if_neg (show ¬ nI 17 = (9 : Int32) by decide), if_neg (show ¬ nI 17 = (10 : Int32) by decide), if_neg (show ¬ nI 17 = (11 : Int32) by decide), if_neg (show ¬ nI 17 = (16 : Int32) by decide), if_pos (show nI 17 = (17 : Int32) from rfl)]
  refine ⟨_, rfl, ?_⟩
  cases h23 : (iU (m_ins τ)).testBit 23
  · have b23 := bit_of h23
    have h34 : fN (iU (m_ins τ)) 23 6 = 34 := by
      unfold fN at *
      simp only [Bool.toNat_false] at b23
      omega
    have hM : F_X12_does τ = F_X12_number τ := by
      unfold F_X12_does
      rw [fL_28_23, Option.bind_some, if_pos (show nI (fN (iU (m_ins τ)) 23 6) = (34 : Int32) from tY h34), bs]
    rw [hM]
    exact i_number t0 h h23
  · have b23 := bit_of h23
    have hM : F_X12_does τ = some (F_X12_none τ) := by
      rw [sk0 (imp_ne 0 1 (by decide) (by rw [b23]; decide)) (Or.inl (show fN (iU (m_ins τ)) 24 5 ≠ 11 by rw [hg]; decide)), sk49 (show fN (iU (m_ins τ)) 24 5 ≠ 10 by rw [hg]; decide) (imp_ne 1 5 (by decide) (show fN (iU (m_ins τ)) 24 5 ≠ 18 by rw [hg]; decide)) (imp_ne 1 5 (by decide) (show fN (iU (m_ins τ)) 24 5 ≠ 18 by rw [hg]; decide)) (show fN (iU (m_ins τ)) 24 5 ≠ 16 by rw [hg]; decide) (imp_ne 1 5 (by decide) (show fN (iU (m_ins τ)) 24 5 ≠ 19 by rw [hg]; decide)) (Or.inl (imp_ne 1 5 (by decide) (show fN (iU (m_ins τ)) 24 5 ≠ 19 by rw [hg]; decide))), to_517 (show fN (iU (m_ins τ)) 24 5 ≠ 26 by rw [hg]; decide) (show fN (iU (m_ins τ)) 24 5 ≠ 27 by rw [hg]; decide) (by rw [f3]; decide), none_517 (Or.inl ⟨(show fN (iU (m_ins τ)) 24 5 ≠ 20 by rw [hg]; decide), (show fN (iU (m_ins τ)) 24 5 ≠ 21 by rw [hg]; decide), (show fN (iU (m_ins τ)) 24 5 ≠ 22 by rw [hg]; decide)⟩) (imp_ne 0 5 (by decide) (show fN (iU (m_ins τ)) 24 5 ≠ 25 by rw [hg]; decide)) (imp_ne 0 5 (by decide) (show fN (iU (m_ins τ)) 24 5 ≠ 24 by rw [hg]; decide)) (imp_ne 1 3 (by decide) (by rw [f3]; decide)) (Or.inl (imp_ne 0 5 (by decide) (show fN (iU (m_ins τ)) 24 5 ≠ 24 by rw [hg]; decide)))]
    rw [hM]
    refine Res.none h rfl ?_
    unfold F_X5_number
    rw [pL_23, h23, iff_t]
theorem d_18 {τ : MS} {pc : Int64} (t0 : Int32) (h : Ok τ pc) (hg : fN (iU (m_ins τ)) 24 5 = 18) : Perf τ pc t0 := by
  unfold Perf F_X6_performs
  rw [xO_xm, sel24, hg, if_neg (show ¬ nI 18 = (8 : Int32) by decide), if_neg (show ¬ nI 18 = (9 : Int32) by decide), if_neg (show ¬ nI 18 = (10 : Int32) by decide), if_neg (show ¬ nI 18 = (11 : Int32) by decide), if_neg (show ¬ nI 18 = (16 : Int32) by decide), if_neg (show ¬ nI 18 = (17 : Int32) by decide), if_pos (show nI 18 = (18 : Int32) from rfl), pL_23]
  have hs : F_X12_does τ = F_X12_does_c49 τ := sk0 (imp_ne 1 5 (by decide) (show fN (iU (m_ins τ)) 24 5 ≠ 17 by rw [hg]; decide)) (Or.inl (show fN (iU (m_ins τ)) 24 5 ≠ 11 by rw [hg]; decide))
  rw [hs]
  unfold F_X12_does_c49
  rw [fL_28_24, Option.bind_some, if_neg (show ¬ nI (fN (iU (m_ins τ)) 24 5) = (10 : Int32) from tN (k := 10) (by decide) (by decide) (show fN (iU (m_ins τ)) 24 5 ≠ 10 by rw [hg]; decide)), fL_28_23, Option.bind_some]
  cases h23 : (iU (m_ins τ)).testBit 23
  · have b23 := bit_of h23
    have h36 : fN (iU (m_ins τ)) 23 6 = 36 := by
      unfold fN at *
      simp only [Bool.toNat_false] at b23
      omega
    rw [if_pos (show nI (fN (iU (m_ins τ)) 23 6) = (36 : Int32) from tY h36), bs, iff_f]
    exact ⟨_, rfl, i_masks t0 h⟩
  · have b23 := bit_of h23
    have h37 : fN (iU (m_ins τ)) 23 6 = 37 := by
      unfold fN at *
      simp only [Bool.toNat_true] at b23
      omega
    rw [if_neg (show ¬ nI (fN (iU (m_ins τ)) 23 6) = (36 : Int32) from tN (k := 36) (by decide) (by decide) (by rw [h37]; decide)), Option.bind_some, if_pos (show nI (fN (iU (m_ins τ)) 23 6) = (37 : Int32) from tY h37), bs, iff_t]
    exact ⟨_, rfl, i_move t0 h⟩
theorem d_19 {τ : MS} {pc : Int64} (t0 : Int32) (h : Ok τ pc) (hg : fN (iU (m_ins τ)) 24 5 = 19) : Perf τ pc t0 := by
  have f3 : fN (iU (m_ins τ)) 26 3 = 4 := imp hg 2 3 (by decide)
  unfold Perf F_X6_performs
  rw [xO_xm, sel24, hg, if_neg (show ¬ nI 19 = (8 : Int32) by decide), if_neg (show ¬ nI 19 = (9 : Int32) by decide), if_neg (show ¬ nI 19 = (10 : Int32) by decide), if_neg (show ¬ nI 19 = (11 : Int32) by decide), if_neg (show ¬ nI 19 = (16 : Int32) by decide), if_neg (show ¬ nI 19 = (17 : Int32) by decide), if_neg (show ¬ nI 19 = (18 : Int32) by decide), if_pos (show nI 19 = (19 : Int32) from rfl), pL_23]
  have hs : F_X12_does τ = F_X12_does_c49 τ := sk0 (imp_ne 1 5 (by decide) (show fN (iU (m_ins τ)) 24 5 ≠ 17 by rw [hg]; decide)) (Or.inl (show fN (iU (m_ins τ)) 24 5 ≠ 11 by rw [hg]; decide))
  cases h23 : (iU (m_ins τ)).testBit 23
  · have b23 := bit_of h23
    have h38 : fN (iU (m_ins τ)) 23 6 = 38 := by
      unfold fN at *
      simp only [Bool.toNat_false] at b23
      omega
    have hM : F_X12_does τ = F_X12_bitsOf τ := by
      rw [hs]
      unfold F_X12_does_c49
      rw [fL_28_24, Option.bind_some, if_neg (show ¬ nI (fN (iU (m_ins τ)) 24 5) = (10 : Int32) from tN (k := 10) (by decide) (by decide) (show fN (iU (m_ins τ)) 24 5 ≠ 10 by rw [hg]; decide)), fL_28_23, Option.bind_some, if_neg (show ¬ nI (fN (iU (m_ins τ)) 23 6) = (36 : Int32) from tN (k := 36) (by decide) (by decide) (by rw [h38]; decide)), Option.bind_some, if_neg (show ¬ nI (fN (iU (m_ins τ)) 23 6) = (37 : Int32) from tN (k := 37) (by decide) (by decide) (by rw [h38]; decide)), Option.bind_some, if_neg (show ¬ nI (fN (iU (m_ins τ)) 24 5) = (16 : Int32) from tN (k := 16) (by decide) (by decide) (show fN (iU (m_ins τ)) 24 5 ≠ 16 by rw [hg]; decide)), Option.bind_some, if_pos (show nI (fN (iU (m_ins τ)) 23 6) = (38 : Int32) from tY h38), bs]
    rw [iff_f, hM]
    exact ⟨_, rfl, i_bits t0 h⟩
  · have b23 := bit_of h23
    rw [iff_t]
    refine ⟨_, rfl, ?_⟩
    by_cases hc : fN (iU (m_ins τ)) 29 2 = 0 ∧ (iU (m_ins τ)).testBit 21 = false
    · have h39 : fN (iU (m_ins τ)) 23 8 = 39 := by
        have hc1 := hc.1
        clear hc f3
        unfold fN at *
        simp only [Bool.toNat_true] at b23
        omega
      have hM : F_X12_does τ = F_X12_twice τ := by
        rw [hs]
        unfold F_X12_does_c49
        rw [fL_28_24, Option.bind_some, if_neg (show ¬ nI (fN (iU (m_ins τ)) 24 5) = (10 : Int32) from tN (k := 10) (by decide) (by decide) (show fN (iU (m_ins τ)) 24 5 ≠ 10 by rw [hg]; decide)), fL_28_23, Option.bind_some, if_neg (show ¬ nI (fN (iU (m_ins τ)) 23 6) = (36 : Int32) from tN (k := 36) (by decide) (by decide) (imp_ne 1 5 (by decide) (show fN (iU (m_ins τ)) 24 5 ≠ 18 by rw [hg]; decide))), Option.bind_some, if_neg (show ¬ nI (fN (iU (m_ins τ)) 23 6) = (37 : Int32) from tN (k := 37) (by decide) (by decide) (imp_ne 1 5 (by decide) (show fN (iU (m_ins τ)) 24 5 ≠ 18 by rw [hg]; decide))), Option.bind_some, if_neg (show ¬ nI (fN (iU (m_ins τ)) 24 5) = (16 : Int32) from tN (k := 16) (by decide) (by decide) (show fN (iU (m_ins τ)) 24 5 ≠ 16 by rw [hg]; decide)), Option.bind_some, if_neg (show ¬ nI (fN (iU (m_ins τ)) 23 6) = (38 : Int32) from tN (k := 38) (by decide) (by decide) (imp_ne 0 1 (by decide) (by rw [b23]; decide))), fL_30_23, Option.bind_some, if_pos (show nI (fN (iU (m_ins τ)) 23 8) = (39 : Int32) from tY h39), oL_21, hc.2, iff_f, bs]
      rw [hM]
      exact i_twice t0 h hc.1 hc.2
    · have h6 : fN (iU (m_ins τ)) 23 8 ≠ 39 ∨ (iU (m_ins τ)).testBit 21 = true := by
        by_cases h0 : fN (iU (m_ins τ)) 29 2 = 0
        · right
          cases h21 : (iU (m_ins τ)).testBit 21
          · exact absurd ⟨h0, h21⟩ hc
          · rfl
        · exact Or.inl (imp_ne 6 2 (by decide) h0)
      have hM : F_X12_does τ = some (F_X12_none τ) := by
        rw [hs, sk49 (show fN (iU (m_ins τ)) 24 5 ≠ 10 by rw [hg]; decide) (imp_ne 1 5 (by decide) (show fN (iU (m_ins τ)) 24 5 ≠ 18 by rw [hg]; decide)) (imp_ne 1 5 (by decide) (show fN (iU (m_ins τ)) 24 5 ≠ 18 by rw [hg]; decide)) (show fN (iU (m_ins τ)) 24 5 ≠ 16 by rw [hg]; decide) (imp_ne 0 1 (by decide) (by rw [b23]; decide)) h6, to_517 (show fN (iU (m_ins τ)) 24 5 ≠ 26 by rw [hg]; decide) (show fN (iU (m_ins τ)) 24 5 ≠ 27 by rw [hg]; decide) (by rw [f3]; decide), none_517 (Or.inl ⟨(show fN (iU (m_ins τ)) 24 5 ≠ 20 by rw [hg]; decide), (show fN (iU (m_ins τ)) 24 5 ≠ 21 by rw [hg]; decide), (show fN (iU (m_ins τ)) 24 5 ≠ 22 by rw [hg]; decide)⟩) (imp_ne 0 5 (by decide) (show fN (iU (m_ins τ)) 24 5 ≠ 25 by rw [hg]; decide)) (imp_ne 0 5 (by decide) (show fN (iU (m_ins τ)) 24 5 ≠ 24 by rw [hg]; decide)) (imp_ne 1 3 (by decide) (by rw [f3]; decide)) (Or.inl (imp_ne 0 5 (by decide) (show fN (iU (m_ins τ)) 24 5 ≠ 24 by rw [hg]; decide)))]
      rw [hM]
      refine Res.none h rfl ?_
      unfold F_X5_twice F_X5_twice_c9 F_X5_twice_c19
      rw [gL_29_2, pL_21]
      by_cases h0 : fN (iU (m_ins τ)) 29 2 = 0
      · have h21 : (iU (m_ins τ)).testBit 21 = true := by
          cases h21 : (iU (m_ins τ)).testBit 21
          · exact absurd ⟨h0, h21⟩ hc
          · rfl
        rw [h21, iff_t, iff_t, if_pos (show nI (fN (iU (m_ins τ)) 29 2) = (0 : Int32) from tY h0)]
        split <;> rfl
      · rw [if_neg (show ¬ nI (fN (iU (m_ins τ)) 29 2) = (0 : Int32) from tN (k := 0) (by decide) (by decide) h0), if_neg (show ¬ nI (fN (iU (m_ins τ)) 29 2) = (0 : Int32) from tN (k := 0) (by decide) (by decide) h0)]
        split <;> rfl
