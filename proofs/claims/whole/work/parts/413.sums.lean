theorem iff_f {α : Type} {a b : α} : (if false = true then a else b) = b := rfl
theorem iff_t {α : Type} {a b : α} : (if true = true then a else b) = a := rfl
theorem wb_of {τ1 τ : MS} (h : m_ins τ1 = m_ins τ) : wb τ1 = wb τ := by unfold wb; rw [h]
theorem i_sums {τ : MS} {pc : Int64} (t0 : Int32) (h : Ok τ pc) (h21 : (iU (m_ins τ)).testBit 21 = false) : Res (F_X12_sums τ) (F_X7_sum (xm τ pc t0) (m_ins τ)) τ pc t0 := by
  have hk := fN_lt (iU (m_ins τ)) 22 2
  have hc := fN_lt (iU (m_ins τ)) 10 6
  have eX : F_X7_sum (xm τ pc t0) (m_ins τ) = F_X7_sum_c28 (xm τ pc t0) (m_ins τ) (wb τ) (nI (fN (iU (m_ins τ)) 22 2)) (nI (fN (iU (m_ins τ)) 10 6)) := by
    unfold F_X7_sum F_X7_sum_c9 F_X7_sum_c18
    rw [gL_22_2, gL_10_6]
    exact pos_wb τ (fun b => F_X7_sum_c28 (xm τ pc t0) (m_ins τ) b (nI (fN (iU (m_ins τ)) 22 2)) (nI (fN (iU (m_ins τ)) 10 6)))
  unfold F_X12_sums F_X12_sums_c5
  rw [eX, width_wd, fL_23_22, Option.bind_some, fL_15_10, Option.bind_some]
  unfold F_X7_sum_c28
  rw [pL_21, h21, iff_f]
  rw [show (3 : Int32) = nI 3 from rfl]
  by_cases h3 : fN (iU (m_ins τ)) 22 2 = 3
  · have q := (eqN (k := fN (iU (m_ins τ)) 22 2) (n := 3) (by omega) (by omega)).mpr h3
    rw [if_pos q, if_pos q]
    exact Res.none h rfl rfl
  · have q := fun q => h3 ((eqN (k := fN (iU (m_ins τ)) 22 2) (n := 3) (by omega) (by omega)).mp q)
    rw [if_neg q, if_neg q, xwidth]
    by_cases h4 : fN (iU (m_ins τ)) 10 6 < wd (wb τ)
    · have q := (lt_wd (by omega) (wb τ)).mpr h4
      rw [if_pos q, if_pos q, fL_9_5]
      rw [Option.bind_some]
      rw [mreg _ (fN_lt _ _ _)]
      rw [Option.bind_some]
      unfold F_X12_sums_c50
      rw [fL_20_16]
      rw [Option.bind_some]
      rw [mreg _ (fN_lt _ _ _), cut_eq]
      rw [Option.bind_some]
      rw [fL_23_22, Option.bind_some, fL_15_10, Option.bind_some]
      rw [cut_eq, mmoved_eq hk h4 (narrow_hi _ _)]
      rw [Option.bind_some]
      rw [xleft, xright, oL_30, pL_30, pL_29]
      generalize ha : F_X1_narrow (rg τ (fN (iU (m_ins τ)) 5 5)) (wb τ) = a
      generalize hb : F_X1_moved (F_X1_narrow (rg τ (fN (iU (m_ins τ)) 16 5)) (wb τ)) (nI (fN (iU (m_ins τ)) 22 2)) (nI (fN (iU (m_ins τ)) 10 6)) (wb τ) = b
      have ha2 : F_X1_narrow a (wb τ) = a := by rw [← ha, narrow_idem]
      have hb2 : F_X1_narrow b (wb τ) = b := by rw [← hb]; exact moved_hi hk h4 (narrow_hi _ _)
      rw [xsum_eq, ha2]
      unfold F_X7_sum_c100
      have fin : ∀ (c : Bool) (b' : Int64), Res (F_X12_sums_c133 (sc τ (nI (cyb a b' c (wd (wb τ))).toNat) (nI (cyb a b' c (wd (wb τ))).toNat ^^^ nI (cyb a b' c (wd (wb τ) - 1)).toNat)) (nI (wd (wb τ))) (F_X1_narrow (a + b' + lN c.toNat) (wb τ))) (F_X7_put (xm (if (iU (m_ins τ)).testBit 29 = true then mu_flags τ (nI (flg a b' c (wb τ))) else τ) pc t0) (m_ins τ) (F_X1_narrow (a + b' + lN c.toNat) (wb τ))) τ pc t0 := by
        intro c b'
        obtain ⟨τ1, e1, o1, x1, i1⟩ := flagged h a b' c ((iU (m_ins τ)).testBit 29)
        rw [x1, ← i1]
        have hM : F_X12_sums_c133 (sc τ (nI (cyb a b' c (wd (wb τ))).toNat) (nI (cyb a b' c (wd (wb τ))).toNat ^^^ nI (cyb a b' c (wd (wb τ) - 1)).toNat)) (nI (wd (wb τ))) (F_X1_narrow (a + b' + lN c.toNat) (wb τ)) = F_X12_sums_c157 τ1 (F_X1_narrow (a + b' + lN c.toNat) (wb τ)) := by
          unfold F_X12_sums_c133
          rw [oL_29, ← e1]
          show (if (iU (m_ins τ)).testBit 29 = true then _ else _) = _
          cases (iU (m_ins τ)).testBit 29
          · rfl
          · rfl
        rw [hM]
        unfold F_X12_sums_c157
        exact Res.of (tail7 t0 o1 (by rw [wb_of i1, narrow_idem]))
      cases hm : (iU (m_ins τ)).testBit 30
      · rw [iff_f]
        rw [show (0 : Int32) = nI false.toNat from rfl, sum_eq]
        rw [Option.bind_some]
        have hb3 : F_X1_narrow (if false = true then b ^^^ (-1) else b) (wb τ) = b := by rw [iff_f]; exact hb2
        rw [hb3]
        exact fin false b
      · rw [iff_t]
        rw [show (1 : Int32) = nI true.toNat from rfl, cut_eq, sum_eq]
        rw [Option.bind_some]
        have hb3 : F_X1_narrow (if true = true then b ^^^ (-1) else b) (wb τ) = F_X1_narrow (b ^^^ (-1)) (wb τ) := by rw [iff_t]
        rw [hb3]
        exact fin true _
    · have q := fun q => h4 ((lt_wd (by omega) (wb τ)).mp q)
      rw [if_neg q, if_neg q]
      exact Res.none h rfl rfl
