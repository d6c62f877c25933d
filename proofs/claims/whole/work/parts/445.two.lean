def sx (x : Int64) (w : Bool) : Int64 := if w = true then x else x.toInt32.toInt64
theorem nar_lt (x : Int64) (w : Bool) : lU (F_X1_narrow x w) < 2 ^ wd w := by
  rw [lU_narrow]
  exact Nat.mod_lt _ (Nat.pos_of_ne_zero (by simp))
theorem T_sx {x : Int64} {w : Bool} (h : lU x < 2 ^ wd w) : T (sx x w) = (lU x : Int) - (if lb x (wd w - 1) = true then 2 ^ wd w else 0) := by
  cases w
  · show T (x.toInt32.toInt64) = (lU x : Int) - (if lb x 31 = true then 2 ^ 32 else 0)
    have h32 : lU x < 2 ^ 32 := h
    have e : T (x.toInt32.toInt64) = (T x).bmod (2 ^ 32) := by
      show x.toInt32.toInt64.toInt = _
      rw [Int32.toInt_toInt64, Int64.toInt_toInt32]
      rfl
    have hb : lb x 31 = decide (2 ^ 31 ≤ lU x) := by
      rw [lb_tb, Nat.testBit_eq_decide_div_mod_eq]
      congr 1
      apply propext
      omega
    rw [e, T_of rfl (by omega), Int.bmod_def, hb]
    by_cases h2 : 2 ^ 31 ≤ lU x
    · rw [if_pos (decide_eq_true h2), if_neg (by omega)]
      omega
    · rw [if_neg (fun q => h2 (of_decide_eq_true q)), if_pos (by omega)]
      omega
  · exact T_U x
def ab (x : Int64) (w : Bool) : Int64 := if lb x (wd w - 1) = true then F_X1_narrow (-x) w else x
theorem hi_ge {x : Int64} {w : Bool} (h : lU x < 2 ^ wd w) : lb x (wd w - 1) = decide (2 ^ (wd w - 1) ≤ lU x) := by
  cases w
  · have h32 : lU x < 2 ^ 32 := h
    show lb x 31 = decide (2 ^ 31 ≤ lU x)
    rw [lb_tb, Nat.testBit_eq_decide_div_mod_eq]
    congr 1
    apply propext
    omega
  · exact lb_top x
theorem ab_spec {x : Int64} {w : Bool} (h : lU x < 2 ^ wd w) : T (sx x w) = (if lb x (wd w - 1) = true then -(lU (ab x w) : Int) else (lU (ab x w) : Int)) ∧ lU (ab x w) ≤ 2 ^ (wd w - 1) ∧ (lU (ab x w) = 0 ↔ lU x = 0) := by
  rw [T_sx h]
  unfold ab
  rw [hi_ge h]
  by_cases h2 : 2 ^ (wd w - 1) ≤ lU x
  · rw [if_pos (decide_eq_true h2), if_pos (decide_eq_true h2), if_pos (decide_eq_true h2), lU_narrow, lU_neg]
    cases w
    · have h3 : lU x < 2 ^ 32 := h
      have h4 : 2 ^ 31 ≤ lU x := h2
      show (lU x : Int) - 2 ^ 32 = -(((2 ^ 64 - lU x) % 2 ^ 64 % 2 ^ 32 : Nat) : Int) ∧ (2 ^ 64 - lU x) % 2 ^ 64 % 2 ^ 32 ≤ 2 ^ 31 ∧ ((2 ^ 64 - lU x) % 2 ^ 64 % 2 ^ 32 = 0 ↔ lU x = 0)
      omega
    · have h3 : lU x < 2 ^ 64 := h
      have h4 : 2 ^ 63 ≤ lU x := h2
      show (lU x : Int) - 2 ^ 64 = -(((2 ^ 64 - lU x) % 2 ^ 64 % 2 ^ 64 : Nat) : Int) ∧ (2 ^ 64 - lU x) % 2 ^ 64 % 2 ^ 64 ≤ 2 ^ 63 ∧ ((2 ^ 64 - lU x) % 2 ^ 64 % 2 ^ 64 = 0 ↔ lU x = 0)
      omega
  · rw [if_neg (fun q => h2 (of_decide_eq_true q)), if_neg (fun q => h2 (of_decide_eq_true q)), if_neg (fun q => h2 (of_decide_eq_true q))]
    refine ⟨by omega, by omega, Iff.rfl⟩
theorem U_T (x : Int64) : ∃ j : Int, (lU x : Int) = T x + 2 ^ 64 * j := by
  rw [T_U]
  split
  · exact ⟨1, by omega⟩
  · exact ⟨0, by omega⟩
theorem nar_eq_of {y z : Int64} {w : Bool} {j : Int} (h : T y = T z + 2 ^ 64 * j) : F_X1_narrow y w = F_X1_narrow z w := by
  rw [T_eq h]
theorem sq_eq {a b : Int64} {w : Bool} (ha : lU a < 2 ^ wd w) (hb : lU b < 2 ^ wd w) (hb0 : ¬ b = 0) : F_X1_narrow (F_X7_signedQuotient a b w) w = if lb a (wd w - 1) = lb b (wd w - 1) then lN (lU (ab a w) / lU (ab b w)) else F_X1_narrow (-(lN (lU (ab a w) / lU (ab b w)))) w := by
  obtain ⟨ta, la, -⟩ := ab_spec ha
  obtain ⟨tb, lbn, zb⟩ := ab_spec hb
  have hn0 : lU (ab b w) ≠ 0 := fun q => hb0 (lU_inj (zb.mp q))
  have e : F_X7_signedQuotient a b w = sx a w / sx b w := by
    have hsb : ¬ sx b w = 0 := by
      intro q
      have : T (sx b w) = 0 := by rw [q]; rfl
      rw [tb] at this
      split at this <;> omega
    unfold F_X7_signedQuotient F_X7_signedQuotient_c12 F_X7_signedQuotient_c26
    cases w
    · rw [iff_f, iff_f]
      exact if_neg hsb
    · rw [iff_t, iff_t]
      exact if_neg hsb
  rw [e]
  have hd : lU (ab a w) / lU (ab b w) ≤ lU (ab a w) := Nat.div_le_self _ _
  have td := T_div (sx a w) (sx b w)
  have hw := wd_cases w
  have hpw : 2 ^ (wd w - 1) ≤ 2 ^ 63 := Nat.pow_le_pow_right (by decide) (by have := wd_le w; omega)
  have hsm : F_X1_narrow (lN (lU (ab a w) / lU (ab b w))) w = lN (lU (ab a w) / lU (ab b w)) := by
    apply lU_inj
    rw [lU_narrow, lU_lN, Nat.mod_eq_of_lt (a := lU (ab a w) / lU (ab b w)) (by omega), Nat.mod_eq_of_lt]
    have : 2 ^ (wd w - 1) < 2 ^ wd w := Nat.pow_lt_pow_right (by decide) (by have := wd_ge w; omega)
    omega
  have hd64 : lU (ab a w) / lU (ab b w) < 2 ^ 64 := Nat.lt_of_le_of_lt hd (Nat.lt_of_le_of_lt la (Nat.lt_of_le_of_lt hpw (by decide)))
  obtain ⟨jj, hjj⟩ := U_T (lN (lU (ab a w) / lU (ab b w)))
  rw [lU_lN, Nat.mod_eq_of_lt hd64] at hjj
  have hneg := T_sub 0 (lN (lU (ab a w) / lU (ab b w)))
  rw [ta, tb] at td
  generalize lU (ab a w) = m at *
  generalize lU (ab b w) = n at *
  by_cases hs : lb a (wd w - 1) = lb b (wd w - 1)
  · rw [if_pos hs, ← hsm]
    have td2 : T (sx a w / sx b w) = ((m / n : Nat) : Int).bmod (2 ^ 64) := by
      rw [td, hs]
      cases lb b (wd w - 1)
      · rw [iff_f, iff_f, Int.ofNat_tdiv]
      · rw [iff_t, iff_t, Int.neg_tdiv_neg, Int.ofNat_tdiv]
    obtain ⟨k1, h1⟩ := bm ((m / n : Nat) : Int)
    exact nar_eq_of (j := k1 + jj) (by rw [td2, h1]; generalize m / n = d at *; omega)
  · rw [if_neg hs]
    have td2 : T (sx a w / sx b w) = (-((m / n : Nat) : Int)).bmod (2 ^ 64) := by
      rw [td]
      cases h1 : lb a (wd w - 1) <;> cases h2 : lb b (wd w - 1)
      · rw [h1, h2] at hs; exact absurd rfl hs
      · rw [iff_f, iff_t, Int.tdiv_neg, Int.ofNat_tdiv]
      · rw [iff_f, iff_t, Int.neg_tdiv, Int.ofNat_tdiv]
      · rw [h1, h2] at hs; exact absurd rfl hs
    obtain ⟨k1, h1⟩ := bm (-((m / n : Nat) : Int))
    obtain ⟨k2, h2⟩ := bm (T 0 - T (lN (m / n)))
    have e0 : -(lN (m / n)) = 0 - lN (m / n) := by simp
    have t0 : T 0 = 0 := rfl
    refine nar_eq_of (j := k1 - k2 - jj) ?_
    rw [e0, hneg, td2, h1, h2, t0]
    generalize m / n = d at *
    omega
theorem al_maskG (a : Int64) (z : Nat) : a &&& lN (2 ^ z - 1) = lN (lU a % 2 ^ z) := by
  apply l_ext
  intro i hi
  rw [lb_and, lb_lN, lb_lN, Nat.testBit_two_pow_sub_one, Nat.testBit_mod_two_pow, ← lb_tb]
  cases lb a i <;> simp [hi]
theorem iU_l2i (b : Int64) : iU b.toInt32 = lU b % 2 ^ 32 := by
  apply Nat.eq_of_testBit_eq
  intro i
  rw [Nat.testBit_mod_two_pow]
  by_cases h : i < 32
  · rw [← ib_tb, ib_l2i _ h, lb_tb]
    simp [h]
  · rw [← ib_tb, ib_big _ (by omega)]
    simp [h]
theorem amtM (b : Int64) (w : Bool) : (b &&& ((nI (wd w)).toInt64 - 1)).toInt32 = nI (lU b % wd w) := by
  cases w
  · have e : (nI (wd false)).toInt64 - 1 = lN (2 ^ 5 - 1) := by decide
    rw [e, al_maskG, lN_i]
    rfl
  · have e : (nI (wd true)).toInt64 - 1 = lN (2 ^ 6 - 1) := by decide
    rw [e, al_maskG, lN_i]
    rfl
theorem amtX (b : Int64) (w : Bool) : b.toInt32 &&& (nI (wd w) - 1) = nI (lU b % wd w) := by
  cases w
  · rw [pk_and b.toInt32 5 (m := nI (wd false) - 1) rfl]
    show nI (iU b.toInt32 % 2 ^ 5) = nI (lU b % 2 ^ 5)
    rw [iU_l2i]
    congr 1
    omega
  · rw [pk_and b.toInt32 6 (m := nI (wd true) - 1) rfl]
    show nI (iU b.toInt32 % 2 ^ 6) = nI (lU b % 2 ^ 6)
    rw [iU_l2i]
    congr 1
    omega
theorem i_two {τ : MS} {pc : Int64} (t0 : Int32) (h : Ok τ pc) (h29 : (iU (m_ins τ)).testBit 29 = false) : Res (F_X12_two τ) (F_X7_two (xm τ pc t0) (m_ins τ)) τ pc t0 := by
  have hop := fN_lt (iU (m_ins τ)) 10 6
  have eX : F_X7_two (xm τ pc t0) (m_ins τ) = F_X7_two_c19 (xm τ pc t0) (m_ins τ) (wb τ) (nI (fN (iU (m_ins τ)) 10 6)) := by
    unfold F_X7_two F_X7_two_c9
    rw [gL_10_6]
    exact pos_wb τ (fun b => F_X7_two_c19 (xm τ pc t0) (m_ins τ) b (nI (fN (iU (m_ins τ)) 10 6)))
  unfold F_X12_two F_X12_two_c5 F_X12_two_c30
  rw [eX, width_wd, fL_15_10, Option.bind_some, fL_9_5, Option.bind_some, mreg _ (fN_lt _ _ _), Option.bind_some, fL_20_16, Option.bind_some, mreg _ (fN_lt _ _ _), Option.bind_some, cut_eq, cut_eq]
  unfold F_X7_two_c19 F_X7_two_c53 F_X7_two_c78 F_X7_two_c128
  rw [pL_29, h29, iff_f, xleft, xright, xwidth]
  have ha := nar_lt (rg τ (fN (iU (m_ins τ)) 5 5)) (wb τ)
  have hb := nar_lt (rg τ (fN (iU (m_ins τ)) 16 5)) (wb τ)
  have hah := narrow_hi (rg τ (fN (iU (m_ins τ)) 5 5)) (wb τ)
  generalize F_X1_narrow (rg τ (fN (iU (m_ins τ)) 5 5)) (wb τ) = a at *
  generalize F_X1_narrow (rg τ (fN (iU (m_ins τ)) 16 5)) (wb τ) = b at *
  generalize fN (iU (m_ins τ)) 10 6 = op at *
  have hw1 := wd_ge (wb τ)
  have hw2 := wd_le (wb τ)
  have q2 : nI op = (2 : Int32) ↔ op = 2 := eqN (n := 2) (by omega) (by omega)
  have q3 : nI op = (3 : Int32) ↔ op = 3 := eqN (n := 3) (by omega) (by omega)
  have q8 : nI op < (8 : Int32) ↔ op < 8 := nI_ltI (b := 8) (by omega) (by omega)
  have q11 : nI op ≤ (11 : Int32) ↔ op ≤ 11 := nI_leI (b := 11) (by omega) (by omega)
  have fin : ∀ {v v' : Int64}, F_X1_narrow v (wb τ) = v' → Res (F_X12_two_c206 τ v') ((F_X7_put (xm τ pc t0) (m_ins τ) v).1, (F_X7_put (xm τ pc t0) (m_ins τ) v).2) τ pc t0 := fun e => Res.of (tail7 t0 h.ok' e)
  have hz : ∀ x : Int64, ¬ x = 0 → 1 ≤ lU x := fun x hx => by
    rcases Nat.eq_zero_or_pos (lU x) with h | h
    · exact absurd (lU_inj h) hx
    · exact h
  unfold F_X12_two_c48 F_X12_two_c70 F_X12_two_c75
  by_cases h2 : op = 2
  · have h3 : ¬ nI op = (3 : Int32) := fun x => by have := q3.mp x; omega
    have h8 : nI op < (8 : Int32) := q8.mpr (by omega)
    rw [if_pos (q2.mpr h2), if_pos (q2.mpr h2), if_pos (q2.mpr h2), xquot]
    unfold F_X12_two_c99 F_X12_two_c181
    rw [if_neg h3, if_pos h8]
    by_cases hb0 : b = 0
    · rw [if_pos hb0]
      refine fin ?_
      rw [hb0, show lU 0 = 0 from rfl, Nat.div_zero]
      cases wb τ <;> rfl
    · rw [if_neg hb0, mquot (hz b hb0) hw2 (by omega) ha, Option.bind_some, if_neg h3, if_pos h8]
      refine fin ?_
      apply lU_inj
      have hd : lU a / lU b ≤ lU a := Nat.div_le_self _ _
      rw [lU_narrow, lU_lN, Nat.mod_eq_of_lt (a := lU a / lU b) (Nat.lt_of_le_of_lt hd (lU_lt a)), Nat.mod_eq_of_lt (Nat.lt_of_le_of_lt hd ha)]
  · rw [if_neg (fun x => h2 (q2.mp x)), if_neg (fun x => h2 (q2.mp x)), if_neg (fun x => h2 (q2.mp x))]
    by_cases h3 : op = 3
    · have h8 : nI op < (8 : Int32) := q8.mpr (by omega)
      rw [if_pos (q3.mpr h3), if_pos (q3.mpr h3)]
      unfold F_X12_two_c99 F_X12_two_c120 F_X12_two_c130 F_X12_two_c142 F_X12_two_c156 F_X12_two_c181
      rw [if_pos (q3.mpr h3), if_pos h8]
      by_cases hb0 : b = 0
      · rw [if_pos hb0]
        refine fin ?_
        rw [hb0]
        unfold F_X7_signedQuotient F_X7_signedQuotient_c12 F_X7_signedQuotient_c26
        cases wb τ
        · rw [iff_f, iff_f, if_pos (show (Int64.toInt32 0).toInt64 = 0 from rfl)]
          rfl
        · rw [iff_t, iff_t, if_pos rfl]
          rfl
      · rw [if_neg hb0, pred_nI (by omega), bit_eq _ (by omega), bit_eq _ (by omega)]
        have hsq := sq_eq ha hb hb0
        obtain ⟨-, laa, -⟩ := ab_spec ha
        obtain ⟨-, lab, zb⟩ := ab_spec hb
        have hn1 : 1 ≤ lU (ab b (wb τ)) := by
          rcases Nat.eq_zero_or_pos (lU (ab b (wb τ))) with h | h
          · exact absurd (lU_inj (zb.mp h)) hb0
          · exact h
        have hpw : 2 ^ (wd (wb τ) - 1) < 2 ^ wd (wb τ) := Nat.pow_lt_pow_right (by decide) (by omega)
        have hmq := mquot hn1 hw2 (by omega) (Nat.lt_of_le_of_lt laa hpw)
        have last : Res ((F_X12_quotient (ab a (wb τ)) (ab b (wb τ)) (nI (wd (wb τ)))).bind fun v9 => if lb a (wd (wb τ) - 1) = lb b (wd (wb τ) - 1) then F_X12_two_c206 τ v9 else F_X12_two_c206 τ (F_X12_cut (-v9) (nI (wd (wb τ))))) ((F_X7_put (xm τ pc t0) (m_ins τ) (F_X7_signedQuotient a b (wb τ))).1, (F_X7_put (xm τ pc t0) (m_ins τ) (F_X7_signedQuotient a b (wb τ))).2) τ pc t0 := by
          rw [hmq, Option.bind_some, cut_eq]
          by_cases hs : lb a (wd (wb τ) - 1) = lb b (wd (wb τ) - 1)
          · rw [if_pos hs] at hsq
            rw [if_pos hs]
            exact fin hsq
          · rw [if_neg hs] at hsq
            rw [if_neg hs]
            exact fin hsq
        unfold ab at last
        rw [cut_eq, cut_eq]
        cases ea : lb a (wd (wb τ) - 1) <;> cases eb : lb b (wd (wb τ) - 1) <;> rw [ea, eb] at last
        · rw [iff_f, iff_f] at last ⊢
          simp only [h8, if_true]
          exact last
        · rw [iff_f, iff_t] at last ⊢
          simp only [h8, if_true]
          exact last
        · rw [iff_t, iff_f] at last ⊢
          simp only [h8, if_true]
          exact last
        · rw [iff_t, iff_t] at last ⊢
          simp only [h8, if_true]
          exact last
    · rw [if_neg (fun x => h3 (q3.mp x)), if_neg (fun x => h3 (q3.mp x))]
      by_cases h8 : op < 8
      · rw [if_pos (q8.mpr h8), if_pos (q8.mpr h8)]
        exact Res.none h rfl rfl
      · rw [if_neg (fun x => h8 (q8.mp x)), if_neg (fun x => h8 (q8.mp x))]
        by_cases h11 : op ≤ 11
        · rw [if_pos (q11.mpr h11), if_pos (q11.mpr h11)]
          unfold F_X12_two_c99 F_X12_two_c181
          have hm : lU b % wd (wb τ) < wd (wb τ) := Nat.mod_lt _ (by omega)
          rw [if_neg (fun x => h3 (q3.mp x)), if_neg (fun x => h8 (q8.mp x)), amtM, amtX, show (8 : Int32) = nI 8 from rfl, pk_sub (by omega), mmoved_eq (by omega) hm hah, Option.bind_some]
          exact fin (moved_hi (by omega) hm hah)
        · rw [if_neg (fun x => h11 (q11.mp x)), if_neg (fun x => h11 (q11.mp x))]
          exact Res.none h rfl rfl
