theorem vlow (a1 a2 : Int32) {i : Nat} (hi : i < 32) : lb (j_lshl a1.toInt64 32 ||| (a2.toInt64 &&& 4294967295)) i = ib a2 i := by
  rw [lb_or, show (32 : Int32) = nI 32 from rfl, lb_shl _ _ (by omega), s6_nI (by decide), lb_and_mask (by omega)]
  have h1 : ¬ 32 ≤ i := by omega
  simp [h1, hi]
theorem v15 (a1 a2 : Int32) : (j_lshl a1.toInt64 32 ||| (a2.toInt64 &&& 4294967295)) &&& 15 = (a2 &&& 15).toInt64 := by
  apply l_ext
  intro i hi
  rw [lb_and, show (15 : Int64) = lN (2 ^ 4 - 1) from rfl, lb_lN, Nat.testBit_two_pow_sub_one, lb_i2l _ hi, ib_and, ib_and, show (15 : Int32) = nI (2 ^ 4 - 1) from rfl, ib_nI, ib_nI, Nat.testBit_two_pow_sub_one, Nat.testBit_two_pow_sub_one]
  by_cases h : i < 4
  · have h2 : i < 32 := by omega
    rw [vlow _ _ h2, if_pos h2]
    simp [h, h2, hi]
  · simp [h]
theorem v1 (a1 a2 : Int32) : (j_lshl a1.toInt64 32 ||| (a2.toInt64 &&& 4294967295)) &&& 1 = (a2 &&& 1).toInt64 := by
  apply l_ext
  intro i hi
  rw [lb_and, show (1 : Int64) = lN (2 ^ 1 - 1) from rfl, lb_lN, Nat.testBit_two_pow_sub_one, lb_i2l _ hi, ib_and, ib_and, show (1 : Int32) = nI (2 ^ 1 - 1) from rfl, ib_nI, ib_nI, Nat.testBit_two_pow_sub_one, Nat.testBit_two_pow_sub_one]
  by_cases h : i < 1
  · have h2 : i < 32 := by omega
    rw [vlow _ _ h2, if_pos h2]
    simp [h, h2, hi]
  · simp [h]
theorem and1_zB (a : Int32) : ∃ b : Bool, a &&& 1 = zB b := by
  have e : a &&& (1 : Int32) = nI (iU a % 2) := pk_and a 1 rfl
  have h : iU a % 2 = 0 ∨ iU a % 2 = 1 := by omega
  rcases h with h | h
  · exact ⟨false, by rw [e, h]; rfl⟩
  · exact ⟨true, by rw [e, h]; rfl⟩
theorem c_set {σ : XS} {τ : MS} (h : Rl σ τ) (a0 a1 a2 : Int32) : ∃ (v : Bool) (σ' : XS) (τ' : MS), F_X11_set σ a0 a1 a2 = (v, σ') ∧ F_X12_set τ a0 a1 a2 = some (v, τ') ∧ Rl σ' τ' := by
  obtain ⟨t0, hI, x, o, rfl⟩ := h
  unfold F_X11_set F_X11_set_c20 F_X12_set
  have same : Rl ((cOf (m_mem τ), pOf τ, m_asked τ, x, t0 + m_taken τ, o) : XS) (mu_thrownCode τ 0) := ⟨t0, hI, x, o, rfl⟩
  by_cases h0 : a0 < 0
  · rw [if_pos h0]
    unfold F_X8_putPart
    rw [if_pos h0]
    exact ⟨_, _, _, rfl, rfl, same⟩
  · obtain ⟨k, hk, rfl⟩ := nat_of h0
    rw [if_neg h0]
    have q45 : nI k ≤ (45 : Int32) ↔ k ≤ 45 := nI_leI (b := 45) hk (by decide)
    by_cases h45 : k ≤ 45
    · rw [if_pos (q45.mpr h45), putPart_eq _ (by omega)]
      generalize hw : j_lshl a1.toInt64 32 ||| (a2.toInt64 &&& 4294967295) = w
      have w15 := v15 a1 a2
      have w1 := v1 a1 a2
      rw [hw] at w15 w1
      unfold F_X12_set_c31
      have q31 : (31 : Int32) ≤ nI k ↔ 31 ≤ k := nI_leI (a := 31) (by decide) hk
      have q42 : (42 : Int32) ≤ nI k ↔ 42 ≤ k := nI_leI (a := 42) (by decide) hk
      have e42 : nI k = (42 : Int32) ↔ k = 42 := eqN (n := 42) hk (by decide)
      have e43 : nI k = (43 : Int32) ↔ k = 43 := eqN (n := 43) hk (by decide)
      have e44 : nI k = (44 : Int32) ↔ k = 44 := eqN (n := 44) hk (by decide)
      show ∃ (v : Bool) (σ' : XS) (τ' : MS), ((true, xuP _ (vp_updL (pOf τ) k _)) : Bool × XS) = (v, σ') ∧ _ ∧ _
      by_cases h31 : 31 ≤ k
      · rw [if_pos (q31.mpr h31)]
        by_cases h42 : 42 ≤ k
        · rw [if_pos (q42.mpr h42)]
          by_cases c42 : k = 42
          · subst c42
            rw [if_pos rfl, if_pos (e42.mpr rfl), w15, ← pOf_flags]
            have e15 : a2 &&& (15 : Int32) = nI (iU a2 % 16) := pk_and a2 4 rfl
            refine ⟨true, _, _, rfl, rfl, t0, ⟨⟨iU a2 % 16, by omega, e15⟩, hI.2⟩, x, o, rfl⟩
          · obtain ⟨b, hb⟩ := and1_zB a2
            rw [if_neg c42, if_neg (show ¬ k ≤ 42 by omega), if_neg (fun z => c42 (e42.mp z)), w1]
            by_cases c43 : k = 43
            · subst c43
              rw [if_pos (e43.mpr rfl), ← pOf_level]
              exact ⟨true, _, _, rfl, rfl, t0, ⟨hI.1, ⟨b, hb⟩, hI.2.2⟩, x, o, rfl⟩
            · rw [if_neg (fun z => c43 (e43.mp z))]
              by_cases c44 : k = 44
              · subst c44
                rw [if_pos (e44.mpr rfl), ← pOf_select]
                exact ⟨true, _, _, rfl, rfl, t0, ⟨hI.1, hI.2.1, ⟨b, hb⟩, hI.2.2.2⟩, x, o, rfl⟩
              · have c45 : k = 45 := by omega
                subst c45
                rw [if_neg (fun z => c44 (e44.mp z)), ← pOf_masked]
                exact ⟨true, _, _, rfl, rfl, t0, ⟨hI.1, hI.2.1, hI.2.2.1, ⟨b, hb⟩, hI.2.2.2.2⟩, x, o, rfl⟩
        · obtain ⟨j, rfl⟩ := Nat.exists_eq_add_of_le h31
          rw [if_neg (fun z => h42 (q42.mp z)), show (31 : Int32) = nI 31 from rfl, pk_sub (by omega), if_neg (nI_in (by omega) (by omega)), cl_nI (by omega), show 31 + j - 31 = j from by omega, if_neg (show ¬ 31 + j = 42 by omega), if_pos (show 31 + j ≤ 42 by omega), ← pOf_st τ (by omega)]
          exact ⟨true, _, _, rfl, rfl, t0, hI, x, o, rfl⟩
      · rw [if_neg (fun z => h31 (q31.mp z)), if_neg (nI_in (by omega) (by omega)), cl_nI (by omega), if_neg (show ¬ k = 42 by omega), if_pos (show k ≤ 42 by omega), ← pOf_x τ (by omega)]
        exact ⟨true, _, _, rfl, rfl, t0, hI, x, o, rfl⟩
    · rw [if_neg (fun z => h45 (q45.mp z))]
      unfold F_X8_putPart
      rw [if_neg h0, if_neg (fun z => by have := (nI_ltI (b := 46) hk (by decide)).mp z; omega)]
      exact ⟨_, _, _, rfl, rfl, same⟩
theorem m_part {τ : MS} (i : Bool) (x : Int64) (t o a0 : Int32) : F_X12_part τ a0 = some (F_X8_part ((cOf (m_mem τ), pOf τ, i, x, t, o) : XS) a0) := by
  unfold F_X12_part
  by_cases h0 : a0 < 0
  · unfold F_X8_part
    rw [if_pos h0, if_pos h0]
  · obtain ⟨k, hk, rfl⟩ := nat_of h0
    rw [if_neg h0]
    have q45 : nI k ≤ (45 : Int32) ↔ k ≤ 45 := nI_leI (b := 45) hk (by decide)
    by_cases h45 : k ≤ 45
    · rw [if_pos (q45.mpr h45), part_eq _ (by omega)]
      have q31 : (31 : Int32) ≤ nI k ↔ 31 ≤ k := nI_leI (a := 31) (by decide) hk
      have q42 : (42 : Int32) ≤ nI k ↔ 42 ≤ k := nI_leI (a := 42) (by decide) hk
      have e42 : nI k = (42 : Int32) ↔ k = 42 := eqN (n := 42) hk (by decide)
      have e43 : nI k = (43 : Int32) ↔ k = 43 := eqN (n := 43) hk (by decide)
      have e44 : nI k = (44 : Int32) ↔ k = 44 := eqN (n := 44) hk (by decide)
      show _ = some (pOf τ k)
      by_cases h31 : 31 ≤ k
      · rw [if_pos (q31.mpr h31)]
        by_cases h42 : 42 ≤ k
        · rw [if_pos (q42.mpr h42)]
          by_cases c42 : k = 42
          · subst c42
            rw [if_pos (e42.mpr rfl)]
            rfl
          · rw [if_neg (fun z => c42 (e42.mp z))]
            by_cases c43 : k = 43
            · subst c43
              rw [if_pos (e43.mpr rfl)]
              rfl
            · rw [if_neg (fun z => c43 (e43.mp z))]
              by_cases c44 : k = 44
              · subst c44
                rw [if_pos (e44.mpr rfl)]
                rfl
              · have c45 : k = 45 := by omega
                subst c45
                rw [if_neg (fun z => c44 (e44.mp z))]
                rfl
        · rw [if_neg (fun z => h42 (q42.mp z)), show (31 : Int32) = nI 31 from rfl, pk_sub (by omega), if_neg (nI_in (by omega) (by omega)), cl_nI (by omega)]
          unfold pOf
          rw [if_neg (by omega), if_pos (by omega)]
      · rw [if_neg (fun z => h31 (q31.mp z)), if_neg (nI_in (by omega) (by omega)), cl_nI (by omega)]
        unfold pOf
        rw [if_pos (by omega)]
    · rw [if_neg (fun z => h45 (q45.mp z))]
      unfold F_X8_part
      rw [if_neg h0, if_pos (show (46 : Int32) ≤ nI k from (nI_leI (a := 46) (by decide) hk).mpr (by omega))]
theorem c_low {σ : XS} {τ : MS} (h : Rl σ τ) (a0 : Int32) : ∃ (v : Int32) (τ' : MS), F_X11_low σ a0 = v ∧ F_X12_low τ a0 = some (v, τ') ∧ Rl σ τ' := by
  obtain ⟨t0, hI, x, o, rfl⟩ := h
  unfold F_X11_low F_X12_low
  rw [m_part (τ := mu_thrownCode τ 0) (m_asked τ) x (t0 + m_taken τ) o a0, Option.bind_some]
  exact ⟨_, mu_thrownCode τ 0, rfl, rfl, t0, hI, x, o, rfl⟩
theorem hi_same (v : Int64) : (j_lshr v 32).toInt32 = (j_lushr v 32).toInt32 := by
  apply i_ext
  intro i hi
  rw [ib_l2i _ hi, ib_l2i _ hi, show (32 : Int32) = nI 32 from rfl, lb_sshr _ _ (by omega), lb_ushr, s6_nI (by decide), if_pos (by omega)]
theorem c_high {σ : XS} {τ : MS} (h : Rl σ τ) (a0 : Int32) : ∃ (v : Int32) (τ' : MS), F_X11_high σ a0 = v ∧ F_X12_high τ a0 = some (v, τ') ∧ Rl σ τ' := by
  obtain ⟨t0, hI, x, o, rfl⟩ := h
  unfold F_X11_high F_X12_high
  rw [m_part (τ := mu_thrownCode τ 0) (m_asked τ) x (t0 + m_taken τ) o a0, Option.bind_some, hi_same]
  exact ⟨_, mu_thrownCode τ 0, rfl, rfl, t0, hI, x, o, rfl⟩
theorem c_interrupt {σ : XS} {τ : MS} (h : Rl σ τ) (a0 : Bool) : Rl (F_X11_interrupt σ a0) (F_X12_interrupt τ a0) := by
  obtain ⟨t0, hI, x, o, rfl⟩ := h
  exact ⟨t0, hI, x, o, rfl⟩
theorem c_look {σ : XS} {τ : MS} (h : Rl σ τ) (a0 a1 a2 a3 : Int32) : ∃ (v : Int32) (τ' : MS), F_X11_look σ a0 a1 a2 a3 = some v ∧ F_X12_look τ a0 a1 a2 a3 = some (v, τ') ∧ Rl σ τ' := by
  obtain ⟨t0, hI, x, o, rfl⟩ := h
  unfold F_X11_look F_X12_look
  have same : Rl ((cOf (m_mem τ), pOf τ, m_asked τ, x, t0 + m_taken τ, o) : XS) (mu_thrownCode τ 0) := ⟨t0, hI, x, o, rfl⟩
  by_cases h1 : a2 < 0
  · rw [if_pos h1, if_pos h1]
    exact ⟨_, _, rfl, rfl, same⟩
  · rw [if_neg h1, if_neg h1]
    by_cases h2 : (2 : Int32) < a2
    · rw [if_pos h2, if_pos h2]
      exact ⟨_, _, rfl, rfl, same⟩
    · rw [if_neg h2, if_neg h2]
      by_cases h3 : a3 < 0
      · rw [if_pos h3, if_pos h3]
        exact ⟨_, _, rfl, rfl, same⟩
      · rw [if_neg h3, if_neg h3]
        by_cases h4 : a3 ≤ 1
        · rw [if_pos h4, if_pos h4]
          obtain ⟨what, hw, rfl⟩ := nat_of h1
          obtain ⟨frm, hf, rfl⟩ := nat_of h3
          have hw3 : what < 3 := by
            rcases Nat.lt_or_ge what 3 with q | q
            · exact q
            · exact absurd ((nI_ltI (a := 2) (by decide) hw).mpr (by omega)) h2
          have hf2 : frm < 2 := by
            have := (nI_leI (b := 1) hf (by decide)).mp h4
            omega
          generalize j_lshl a0.toInt64 32 ||| (a1.toInt64 &&& 4294967295) = a
          have hfs := find_spec (τ := mu_thrownCode τ 0) hI (m_state τ 2) t0 a (z := 0) (by decide) hw3 hf2 (by omega)
          have hfx : F_X10_find ((cOf (m_mem τ), pOf τ, m_asked τ, x, t0 + m_taken τ, o) : XS) a (1 : Int32) (nI what) (nI frm) = F_X10_find (xm (mu_thrownCode τ 0) (m_state τ 2) t0) a (nI (2 ^ 0)) (nI what) (nI frm) := by
            have e1 : vp_updL (pOf τ) 33 (m_state τ 2) = pOf τ := upd_self τ rfl
            have e2 : xm (mu_thrownCode τ 0) (m_state τ 2) t0 = (cOf (m_mem τ), vp_updL (pOf τ) 33 (m_state τ 2), m_asked τ, nxt (mu_thrownCode τ 0) (m_state τ 2), t0 + m_taken τ, m_ins τ) := rfl
            rw [e2, e1]
            exact find_cong _ _ _ _ _ _ _ _ _ _ _ _ _ _
          have hm := mfind_m (mu_thrownCode τ 0) a (nI (2 ^ 0)) (nI what) (nI frm) (fun s => some ((m_place s).toInt32, s)) (fun s => F_X12_look_c58 s a0 a1 (nI what) (nI frm))
          rw [hfx, show (1 : Int32) = nI (2 ^ 0) from rfl]
          have hm2 : ∀ y, (mfind (mu_thrownCode τ 0) a (nI (2 ^ 0)) (nI what) (nI frm)).bind (fun v => if v.1 = true then some ((m_place v.2).toInt32, v.2) else F_X12_look_c58 v.2 a0 a1 (nI what) (nI frm)) = y → ((F_X12_leads (mu_thrownCode τ 0) a (nI what) (nI frm)).bind fun v1 => (if v1.1 = true then (if (F_X12_inside v1.2 (nI (2 ^ 0))).1 = true then some (((m_place (F_X12_inside v1.2 (nI (2 ^ 0))).2).toInt32, (F_X12_inside v1.2 (nI (2 ^ 0))).2)) else (F_X12_look_c58 (F_X12_inside v1.2 (nI (2 ^ 0))).2 a0 a1 (nI what) (nI frm))) else (F_X12_look_c58 v1.2 a0 a1 (nI what) (nI frm)))) = y := fun y hy => hm.trans hy
          rcases hfs with ⟨P, g1, g2, ho, hx⟩ | ⟨N, p, hN, ho, hx⟩
          · rw [hx, Option.bind_some]
            refine ⟨nI P, scr (mu_thrownCode τ 0) (m_faultWhat (mu_thrownCode τ 0)) (lN P), rfl, ?_, t0, hI, x, o, rfl⟩
            apply hm2
            rw [ho, Option.bind_some]
            dsimp only
            rw [iff_t]
            show some ((lN P).toInt32, _) = _
            rw [lN_i]
          · rw [hx, Option.bind_some]
            refine ⟨-1 - nI N, scr (mu_thrownCode τ 0) (nI N) p, rfl, ?_, t0, hI, x, o, rfl⟩
            apply hm2
            rw [ho, Option.bind_some]
            rfl
        · rw [if_neg h4, if_neg h4]
          exact ⟨_, _, rfl, rfl, same⟩
theorem rel0 : Rl xS0 mS0 := by
  refine ⟨0, ⟨⟨0, by decide, rfl⟩, ⟨true, rfl⟩, ⟨true, rfl⟩, ⟨true, rfl⟩, fun i => by show iU 0 < 256; decide⟩, 0, 0, ?_⟩
  have e1 : (fun _ => (0 : Int64)) = cOf (m_mem mS0) := by
    funext k
    unfold cOf
    by_cases hk : k < 8192
    · rw [if_pos hk]
      have : cellOf (m_mem mS0) k = 0 := by
        show iU 0 + 2 ^ 8 * iU 0 + 2 ^ 16 * iU 0 + 2 ^ 24 * iU 0 + 2 ^ 32 * iU 0 + 2 ^ 40 * iU 0 + 2 ^ 48 * iU 0 + 2 ^ 56 * iU 0 = 0
        rw [show iU 0 = 0 from rfl]
      rw [this]
      rfl
    · rw [if_neg hk]
  have e2 : vp_updL (vp_updL (vp_updL (fun _ => (0 : Int64)) 43 1) 44 1) 45 1 = pOf mS0 := by
    funext k
    have z : pOf mS0 k = if k < 31 then 0 else if k < 42 then 0 else if k = 42 then 0 else if k = 43 then 1 else if k = 44 then 1 else if k = 45 then 1 else 0 := rfl
    rw [z]
    unfold vp_updL
    by_cases h5 : k = 45
    · subst h5; rfl
    · by_cases h4 : k = 44
      · subst h4; rfl
      · by_cases h3 : k = 43
        · subst h3; rfl
        · rw [if_neg h5, if_neg h4, if_neg h3, if_neg h3, if_neg h4, if_neg h5]
          split
          · rfl
          · split
            · rfl
            · split <;> rfl
  unfold xS0
  rw [e2, e1]
  rfl
