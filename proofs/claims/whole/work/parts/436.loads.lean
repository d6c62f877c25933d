theorem base_spec {τ : MS} {pc : Int64} (t0 : Int32) (h : Ok τ pc) {k : Nat} (hk : k < 32) : (F_X12_baseStands τ (nI k) = some (true, τ) ∧ F_X0_stackIsCrooked (xm τ pc t0) (nI k) = false) ∨ (F_X12_baseStands τ (nI k) = some (false, exc τ 38 0 pc) ∧ F_X0_stackIsCrooked (xm τ pc t0) (nI k) = true) := by
  unfold F_X12_baseStands F_X0_stackIsCrooked
  have hp := ptr_lt τ
  rw [xregP h.1 pc t0 hk]
  by_cases h31 : k = 31
  · rw [if_pos ((eq31 (by omega)).mpr h31), if_pos ((eq31 (by omega)).mpr h31), pointer_eq, if_neg (nI_in (by omega) (by omega)), cl_nI (by omega)]
    unfold rp
    rw [if_pos h31]
    by_cases h15 : m_state τ (ptr τ) &&& 15 = 0
    · rw [if_pos h15, if_pos h15]
      exact Or.inl ⟨rfl, rfl⟩
    · rw [if_neg h15, if_neg h15, show (2 : Int32).toNatClampNeg = 2 from rfl, h.2.2, show (38 : Int32) = nI 38 from rfl, show (0 : Int64) = lN 0 from rfl, exception_eq h.1]
      exact Or.inr ⟨rfl, rfl⟩
  · rw [if_neg (fun q => h31 ((eq31 (by omega)).mp q)), if_neg (fun q => h31 ((eq31 (by omega)).mp q))]
    exact Or.inl ⟨rfl, rfl⟩
theorem ld_sum (τ : MS) {z k : Nat} (hz : z < 4) (hk : k < 4) (b : Int32) : (if nI z = (3 : Int32) then (if (1 : Int32) < nI k then F_X12_loads_c50 τ (nI z) (nI k) b else F_X12_loads_c36 τ (nI z) (nI k) b) else F_X12_loads_c36 τ (nI z) (nI k) b) = F_X12_loads_c51 τ (nI z) (nI k) b (decide (z + k ≤ 4)) := by
  unfold F_X12_loads_c36 F_X12_loads_c50 F_X12_loads_c46
  have q3 : nI z = (3 : Int32) ↔ z = 3 := eqN (n := 3) (by omega) (by omega)
  have q2 : nI z = (2 : Int32) ↔ z = 2 := eqN (n := 2) (by omega) (by omega)
  have k3 : nI k = (3 : Int32) ↔ k = 3 := eqN (n := 3) (by omega) (by omega)
  have k1 : (1 : Int32) < nI k ↔ 1 < k := nI_ltI (a := 1) (by omega) (by omega)
  simp only [q3, q2, k3, k1]
  by_cases h : z + k ≤ 4
  · rw [decide_eq_true h]
    by_cases h1 : z = 3
    · have h2 : ¬ 1 < k := by omega
      have h3 : ¬ z = 2 := by omega
      rw [if_pos h1, if_neg h2, if_neg h3]
    · rw [if_neg h1]
      by_cases h3 : z = 2
      · have h4 : ¬ k = 3 := by omega
        rw [if_pos h3, if_neg h4]
      · rw [if_neg h3]
  · rw [decide_eq_false h]
    by_cases h1 : z = 3
    · have h2 : 1 < k := by omega
      rw [if_pos h1, if_pos h2]
    · have h3 : z = 2 := by omega
      have h4 : k = 3 := by omega
      rw [if_neg h1, if_pos h3, if_pos h4]
theorem ld_bad (τ : MS) (a b c : Int32) : F_X12_loads_c51 τ a b c false = some (F_X12_none τ) := by
  unfold F_X12_loads_c51 F_X12_loads_c61 F_X12_loads_c79 F_X12_loads_c80 F_X12_loads_c117 F_X12_loads_c141 F_X12_loads_c144
  rw [oL_24, oL_21]
  have e1 := fL_15_13 τ
  have e2 := fL_11_10 τ
  cases (iU (m_ins τ)).testBit 24
  · rw [iff_f]
    cases (iU (m_ins τ)).testBit 21
    · rw [iff_f, e1, Option.bind_some, iff_f, iff_f, e2, Option.bind_some]
      by_cases h : nI (fN (iU (m_ins τ)) 10 2) = (2 : Int32)
      · rw [if_pos h]
        rfl
      · rw [if_neg h]
        rfl
    · rw [iff_t, e1, Option.bind_some, iff_f, iff_t, iff_t, e2, Option.bind_some]
      by_cases h : nI (fN (iU (m_ins τ)) 10 2) = (2 : Int32)
      · rw [if_pos h]
        by_cases h2 : nI (fN (iU (m_ins τ)) 13 3) &&& (2 : Int32) = 0
        · rw [if_pos h2]
          rfl
        · rw [if_neg h2]
          rfl
      · rw [if_neg h]
        rfl
  · rw [iff_t, e1, Option.bind_some]
    rfl
theorem opt2 : ∀ o, o < 8 → ((nI o &&& (2 : Int32) = 0) ↔ o.testBit 1 = false) := by decide
theorem opt1 : ∀ o, o < 8 → ((nI o &&& (1 : Int32) = 0) ↔ o.testBit 0 = false) := by decide
theorem ld_good (τ : MS) (a b c : Int32) : F_X12_loads_c51 τ a b c true = if F_X0_isSingle (m_ins τ) = true then F_X12_loads_c144 τ a b c true ((iU (m_ins τ)).testBit 24) (!(iU (m_ins τ)).testBit 24 && (iU (m_ins τ)).testBit 21) (nI (fN (iU (m_ins τ)) 13 3)) else some (F_X12_none τ) := by
  unfold F_X12_loads_c51 F_X12_loads_c61 F_X12_loads_c79 F_X12_loads_c80 F_X12_loads_c117 F_X12_loads_c141 F_X0_isSingle F_X0_isSingle_c19
  rw [oL_24, oL_21, pL_24, pL_21, pL_14, gL_10_2]
  have e1 := fL_15_13 τ
  have e2 := fL_11_10 τ
  have hop := fN_lt (iU (m_ins τ)) 10 2
  have hopt := fN_lt (iU (m_ins τ)) 13 3
  have q2 : nI (fN (iU (m_ins τ)) 10 2) = (2 : Int32) ↔ fN (iU (m_ins τ)) 10 2 = 2 := eqN (n := 2) (by omega) (by omega)
  have q14 := opt2 _ hopt
  rw [fN_tb] at q14
  cases (iU (m_ins τ)).testBit 24
  · rw [iff_f, iff_f]
    cases (iU (m_ins τ)).testBit 21
    · rw [iff_f, iff_f, e1, Option.bind_some, iff_f, iff_f, e2, Option.bind_some]
      by_cases h : nI (fN (iU (m_ins τ)) 10 2) = (2 : Int32)
      · rw [if_pos h, if_pos h]
        rfl
      · rw [if_neg h, if_neg h]
        rfl
    · rw [iff_t, iff_t, e1, Option.bind_some, iff_f, iff_t, iff_t, e2, Option.bind_some]
      by_cases h : nI (fN (iU (m_ins τ)) 10 2) = (2 : Int32)
      · rw [if_pos h, if_pos h]
        cases h14 : (iU (m_ins τ)).testBit 14
        · rw [if_pos (q14.mpr (by simp [h14]))]
          rfl
        · rw [if_neg (fun x => by have := q14.mp x; simp [h14] at this)]
          rfl
      · rw [if_neg h, if_neg h]
        rfl
  · rw [iff_t, iff_t, e1, Option.bind_some]
    rfl
theorem opt6 : ∀ o, o < 8 → (nI o = (6 : Int32) ↔ (o.testBit 0 = false ∧ o.testBit 1 = true ∧ o.testBit 2 = true)) := by decide
theorem cut32 (v : Int64) : F_X12_cut v 32 = v &&& 4294967295 := by
  have h := cut_eq v false
  exact h
theorem sxt (v : Int64) : F_X12_extend (v &&& 4294967295) 32 = some v.toInt32.toInt64 := by
  refine ext_eq (w := 32) (by decide) (by decide) ?_
  intro i hi
  rw [lb_i2l _ hi, lb_and, lb_and, lb_mask32, lb_mask32]
  by_cases h : i < 32
  · have h2 : ¬ 32 ≤ i := by omega
    rw [if_pos h, ib_l2i _ h]
    simp [h, h2]
  · have h2 : 32 ≤ i := by omega
    rw [if_neg h, ib_l2i _ (by decide)]
    simp [h, h2]
theorem i_single {τ : MS} {pc : Int64} (t0 : Int32) (h : Ok τ pc) : ∃ x, F_X0_single (xm τ pc t0) (m_ins τ) = some x ∧ Res (F_X12_loads τ) x τ pc t0 := by
  unfold F_X0_single F_X0_single_c5 F_X0_single_c13 F_X12_loads
  have hz := fN_lt (iU (m_ins τ)) 30 2
  have hk := fN_lt (iU (m_ins τ)) 22 2
  have hb := fN_lt (iU (m_ins τ)) 5 5
  have hop := fN_lt (iU (m_ins τ)) 10 2
  have hopt := fN_lt (iU (m_ins τ)) 13 3
  have e30 : j_iushr (m_ins τ) 30 = nI (fN (iU (m_ins τ)) 30 2) := top23 (n := 30) rfl (by decide)
  rw [fL_31_30, Option.bind_some, fL_23_22, Option.bind_some, fL_9_5, Option.bind_some, ld_sum τ hz hk, e30, gL_22_2, gL_5_5]
  have hs : nI (fN (iU (m_ins τ)) 30 2) + nI (fN (iU (m_ins τ)) 22 2) ≤ (4 : Int32) ↔ fN (iU (m_ins τ)) 30 2 + fN (iU (m_ins τ)) 22 2 ≤ 4 := by
    rw [nI_add]; exact nI_leI (b := 4) (by omega) (by omega)
  by_cases hle : fN (iU (m_ins τ)) 30 2 + fN (iU (m_ins τ)) 22 2 ≤ 4
  · rw [decide_eq_true hle, ld_good, if_pos (hs.mpr hle)]
    cases hS : F_X0_isSingle (m_ins τ) with
    | false =>
      rw [iff_f, iff_f]
      exact ⟨_, rfl, Res.none h rfl rfl⟩
    | true =>
      rw [iff_t, iff_t]
      unfold F_X12_loads_c144 F_X0_single_c37
      rw [iff_t]
      rcases base_spec t0 h hb with ⟨hB, hC⟩ | ⟨hB, hC⟩
      · rw [hB, hC, Option.bind_some, iff_f]
        dsimp only
        rw [iff_t, mregP h.1 hb, Option.bind_some]
        unfold F_X0_single_c64 F_X0_single_c75 F_X0_single_c85 F_X0_single_c98 F_X0_change F_X0_offset F_X0_offset_c5
        rw [xregP h.1 pc t0 hb, pL_24, pL_21, gL_0_5, gL_10_2, gL_10_12, gL_16_5, e30, xreg _ _ _ (fN_lt _ _ _)]
        cases h24 : (iU (m_ins τ)).testBit 24
        · rw [iff_f, iff_f, iff_f]
          cases h21 : (iU (m_ins τ)).testBit 21
          · rw [iff_f, iff_f, show (!false && false) = false from rfl, iff_f, sL_20_12, Option.bind_some, fL_11_10, Option.bind_some]
            unfold F_X12_loads_c319 F_X12_loads_c334
            have q0 : nI (fN (iU (m_ins τ)) 10 2) = (0 : Int32) ↔ fN (iU (m_ins τ)) 10 2 = 0 := eqN (n := 0) (by omega) (by omega)
            have hu : ∀ b : Bool, b = decide (fN (iU (m_ins τ)) 10 2 ≠ 0) → ∀ (a : Int64), ∃ x, F_X0_single_c108 (xm τ pc t0) (m_ins τ) (nI (fN (iU (m_ins τ)) 30 2)) (nI (fN (iU (m_ins τ)) 22 2)) (nI (fN (iU (m_ins τ)) 5 5)) (nI (fN (iU (m_ins τ)) 10 2)) (rp τ (fN (iU (m_ins τ)) 5 5) + F_X1_signedField (m_ins τ) 12 9) a (nI (fN (iU (m_ins τ)) 0 5)) = some x ∧ Res (F_X12_single τ (nI (fN (iU (m_ins τ)) 30 2)) (nI (fN (iU (m_ins τ)) 22 2)) a b (rp τ (fN (iU (m_ins τ)) 5 5) + F_X1_signedField (m_ins τ) 12 9)) x τ pc t0 := fun b hb' a => single_go t0 h hz hk hop hb' (fun _ => rfl) a
            have hbs : ∀ o : Option MS, (o.bind fun v9 => some v9) = o := fun o => by cases o <;> rfl
            rw [hbs, hbs, hbs, hbs]
            by_cases h1 : nI (fN (iU (m_ins τ)) 10 2) = (1 : Int32)
            · rw [if_pos h1, if_pos h1]
              have h0 : ¬ nI (fN (iU (m_ins τ)) 10 2) = (0 : Int32) := by rw [h1]; decide
              rw [if_neg h0]
              exact hu true (decide_eq_true (p := fN (iU (m_ins τ)) 10 2 ≠ 0) (fun x => h0 (q0.mpr x))).symm _
            · rw [if_neg h1, if_neg h1]
              by_cases h0 : nI (fN (iU (m_ins τ)) 10 2) = (0 : Int32)
              · rw [if_pos h0]
                exact hu false (by simp [q0.mp h0]) _
              · rw [if_neg h0]
                exact hu true (decide_eq_true (p := fN (iU (m_ins τ)) 10 2 ≠ 0) (fun x => h0 (q0.mpr x))).symm _
          · rw [iff_t, iff_t, show (!false && true) = true from rfl, iff_t, fL_20_16, Option.bind_some, mreg _ (fN_lt _ _ _), Option.bind_some]
            have h14 : (iU (m_ins τ)).testBit 14 = true := by
              unfold F_X0_isSingle F_X0_isSingle_c19 at hS
              rw [pL_24, pL_21, pL_14, h24, h21, iff_f, iff_t] at hS
              cases h14 : (iU (m_ins τ)).testBit 14
              · rw [h14, iff_f] at hS
                split at hS <;> cases hS
              · rfl
            have q1 := opt1 _ hopt
            have q6 := opt6 _ hopt
            rw [fN_tb] at q1
            rw [fN_tb, fN_tb, fN_tb] at q6
            generalize rg τ (fN (iU (m_ins τ)) 16 5) = v
            have hbs : ∀ o : Option MS, (o.bind fun v9 => some v9) = o := fun o => by cases o <;> rfl
            have fin : ∀ e : Int64, ∃ x, (if (0 : Int32) = 1 then F_X0_single_c108 (xm τ pc t0) (m_ins τ) (nI (fN (iU (m_ins τ)) 30 2)) (nI (fN (iU (m_ins τ)) 22 2)) (nI (fN (iU (m_ins τ)) 5 5)) 0 (rp τ (fN (iU (m_ins τ)) 5 5) + F_X0_offset_c89 (xm τ pc t0) (m_ins τ) (nI (fN (iU (m_ins τ)) 30 2)) e) (rp τ (fN (iU (m_ins τ)) 5 5)) (nI (fN (iU (m_ins τ)) 0 5)) else F_X0_single_c108 (xm τ pc t0) (m_ins τ) (nI (fN (iU (m_ins τ)) 30 2)) (nI (fN (iU (m_ins τ)) 22 2)) (nI (fN (iU (m_ins τ)) 5 5)) 0 (rp τ (fN (iU (m_ins τ)) 5 5) + F_X0_offset_c89 (xm τ pc t0) (m_ins τ) (nI (fN (iU (m_ins τ)) 30 2)) e) (rp τ (fN (iU (m_ins τ)) 5 5) + F_X0_offset_c89 (xm τ pc t0) (m_ins τ) (nI (fN (iU (m_ins τ)) 30 2)) e) (nI (fN (iU (m_ins τ)) 0 5))) = some x ∧ Res (F_X12_loads_c251 τ (nI (fN (iU (m_ins τ)) 30 2)) (nI (fN (iU (m_ins τ)) 22 2)) (rp τ (fN (iU (m_ins τ)) 5 5)) e) x τ pc t0 := by
              intro e
              rw [if_neg (show ¬ (0 : Int32) = 1 by decide)]
              unfold F_X12_loads_c251 F_X12_loads_c266 F_X0_offset_c89
              rw [oL_12, pL_12, hbs, hbs, shl_zero]
              cases (iU (m_ins τ)).testBit 12
              · rw [iff_f, iff_f]
                exact single_go t0 h hz hk (chg := 0) (by decide) (upd := false) rfl (fun q => by cases q) _
              · rw [iff_t, iff_t]
                exact single_go t0 h hz hk (chg := 0) (by decide) (upd := false) rfl (fun q => by cases q) _
            unfold F_X0_offset_c59 F_X0_offset_c88 F_X12_loads_c235
            rw [pL_13, pL_15, cut32]
            cases h13 : (iU (m_ins τ)).testBit 13
            · rw [if_pos (q1.mpr (by simp [h13])), iff_f]
              cases h15 : (iU (m_ins τ)).testBit 15
              · rw [if_neg (show ¬ nI (fN (iU (m_ins τ)) 13 3) = (6 : Int32) from fun x => by have := (q6.mp x).2.2; simp [h15] at this), iff_f]
                exact fin _
              · rw [if_pos (q6.mpr (by simp [h13, h14, h15])), iff_t, sxt, Option.bind_some]
                exact fin _
            · rw [if_neg (show ¬ nI (fN (iU (m_ins τ)) 13 3) &&& (1 : Int32) = 0 from fun x => by have := q1.mp x; simp [h13] at this), iff_t, if_neg (show ¬ nI (fN (iU (m_ins τ)) 13 3) = (6 : Int32) from fun x => by have := (q6.mp x).1; simp [h13] at this)]
              exact fin _
        · rw [iff_t, iff_t, iff_t, fL_21_10, Option.bind_some]
          rw [if_neg (show ¬ (0 : Int32) = 1 by decide)]
          obtain ⟨x, hx, hR⟩ := single_go t0 h hz hk (chg := 0) (by decide) (upd := false) rfl (nb := rp τ (fN (iU (m_ins τ)) 5 5) + j_lshl (nI (fN (iU (m_ins τ)) 10 12)).toInt64 (nI (fN (iU (m_ins τ)) 30 2))) (nb' := 0) (fun q => by cases q) (rp τ (fN (iU (m_ins τ)) 5 5) + j_lshl (nI (fN (iU (m_ins τ)) 10 12)).toInt64 (nI (fN (iU (m_ins τ)) 30 2)))
          refine ⟨x, hx, ?_⟩
          have hbs : ∀ o : Option MS, (o.bind fun v9 => some v9) = o := fun o => by cases o <;> rfl
          rw [hbs]
          exact hR
      · rw [hB, hC, Option.bind_some, iff_t]
        dsimp only
        rw [iff_f, show (38 : Int32) = nI 38 from rfl, show (0 : Int32) = nI 0 from rfl, raise_eq h.1 pc t0 (by decide) (by decide)]
        exact ⟨_, rfl, Res.of ⟨_, rfl, Ok'_exc h.1 _ _ _ _, rfl⟩⟩
  · rw [decide_eq_false hle, ld_bad, if_neg (fun x => hle (hs.mp x))]
    refine ⟨(false, xm τ pc t0), ?_, Res.none h rfl rfl⟩
    split <;> rfl
