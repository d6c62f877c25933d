theorem wd_l64 {w : Bool} {k : Nat} (h : k < wd w) : k < 64 := by have := wd_le w; omega
/-- the tail of an instruction that writes t to register d -/
def tl (τ : MS) (t : Int64) : Option MS := (F_X12_f τ 4 0).bind fun a => (F_X12_put τ a t).bind fun b => some b
theorem Res.tl {τ : MS} {pc : Int64} {t0 : Int32} (h : Ok τ pc) {o : Option MS} {t : Int64} (ho : o = tl τ t) : Res o (true, F_X8_putRegister (xm τ pc t0) (nI (fN (iU (m_ins τ)) 0 5)) t) τ pc t0 := by
  obtain ⟨τ', a1, a2, a3⟩ := tailR t0 h.ok' t
  rw [a3, ho]
  exact Res.of ⟨τ', a1, a2, rfl⟩
theorem twice_loop (τ : MS) (high low t : Int64) {w l : Nat} (hw : w ≤ 64) (hl : l < w) : ∀ (n k : Nat) (x : Int64), w < n + k → k ≤ w → (∀ i, i < 64 → lb t i = (lb x i || (decide (k ≤ i) && (decide (i < w) && (if i + l < w then lb low (i + l) else lb high (i + l - w)))))) → F_X12_twice_c79 n τ (nI w) (nI l) high low x (nI k) = tl τ t := by
  intro n
  induction n with
  | zero => intro k x h1 h2; omega
  | succ n ih =>
    intro k x h1 h2 h
    rw [F_X12_twice_c79]
    by_cases hk : k = w
    · subst hk
      rw [if_pos (nI_le (Nat.le_refl _) (by omega))]
      have e : x = t := end_bits h (fun i hi _ => by
        have : ¬ i < k := by omega
        simp [this])
      rw [e]
      rfl
    · have hlt : k < w := by omega
      rw [if_neg (nI_ge hlt (by omega)), nI_add]
      by_cases hb : k + l < w
      · rw [if_neg (nI_ge hb (by omega))]
        unfold F_X12_twice_c112 F_X12_twice_c131
        rw [nI_inc]
        exact ih (k + 1) _ (by omega) (by omega) (or_bit_step (P := fun i => decide (i < w) && (if i + l < w then lb low (i + l) else lb high (i + l - w))) (by omega) (by omega) h (by simp [hlt, hb]))
      · rw [if_pos (nI_le (by omega) (by omega)), pk_sub (by omega)]
        unfold F_X12_twice_c131
        rw [nI_inc]
        exact ih (k + 1) _ (by omega) (by omega) (or_bit_step (P := fun i => decide (i < w) && (if i + l < w then lb low (i + l) else lb high (i + l - w))) (by omega) (by omega) h (by simp [hlt, hb]))
theorem i_twice {τ : MS} {pc : Int64} (t0 : Int32) (h : Ok τ pc) (h29 : fN (iU (m_ins τ)) 29 2 = 0) (h21 : (iU (m_ins τ)).testBit 21 = false) : Res (F_X12_twice τ) (F_X5_twice (xm τ pc t0) (m_ins τ)) τ pc t0 := by
  have hc := fN_lt (iU (m_ins τ)) 10 6
  have eX : F_X5_twice (xm τ pc t0) (m_ins τ) = F_X5_twice_c19 (xm τ pc t0) (m_ins τ) (wb τ) (nI (fN (iU (m_ins τ)) 10 6)) := by
    unfold F_X5_twice F_X5_twice_c9
    rw [gL_10_6]
    exact pos_wb τ (fun b => F_X5_twice_c19 (xm τ pc t0) (m_ins τ) b (nI (fN (iU (m_ins τ)) 10 6)))
  unfold F_X12_twice F_X12_twice_c5
  rw [eX, width_wd, fL_15_10, Option.bind_some]
  unfold F_X5_twice_c19
  rw [gL_29_2, h29, if_pos (show nI 0 = (0 : Int32) from rfl), pL_21, h21, iff_f, oL_22, oL_31, pL_22]
  show Res (if _ = wb τ then _ else _) (if _ = wb τ then _ else _) _ _ _
  by_cases hs : (iU (m_ins τ)).testBit 22 = wb τ
  · rw [if_pos hs, if_pos hs, xwidth]
    by_cases h4 : fN (iU (m_ins τ)) 10 6 < wd (wb τ)
    · have q := (lt_wd (by omega) (wb τ)).mpr h4
      rw [if_pos q, if_pos q, fL_9_5, Option.bind_some, mreg _ (fN_lt _ _ _), Option.bind_some, fL_20_16, Option.bind_some, mreg _ (fN_lt _ _ _), Option.bind_some, cut_eq, cut_eq, gL_5_5, xreg _ _ _ (fN_lt _ _ _), gL_16_5, xreg _ _ _ (fN_lt _ _ _)]
      generalize rg τ (fN (iU (m_ins τ)) 5 5) = hi
      generalize hlo : F_X1_narrow (rg τ (fN (iU (m_ins τ)) 16 5)) (wb τ) = lo
      have hlo2 : ∀ i, wd (wb τ) ≤ i → lb lo i = false := by rw [← hlo]; exact narrow_hi _ _
      generalize fN (iU (m_ins τ)) 10 6 = l at h4 hc
      have hw := wd_le (wb τ)
      unfold F_X5_twice_c99 F_X5_twice_c117 F_X5_twice_c136
      rw [gL_0_5, xwidth, pk_sub (by omega)]
      have e : (if nI l ≤ 0 then (true, F_X8_putRegister (xm τ pc t0) (nI (fN (iU (m_ins τ)) 0 5)) (F_X1_narrow (j_lushr lo (nI l)) (wb τ))) else (true, F_X8_putRegister (xm τ pc t0) (nI (fN (iU (m_ins τ)) 0 5)) (F_X1_narrow (j_lushr lo (nI l) ||| j_lshl hi (nI (wd (wb τ) - l))) (wb τ)))) = (true, F_X8_putRegister (xm τ pc t0) (nI (fN (iU (m_ins τ)) 0 5)) (F_X1_narrow (if l = 0 then j_lushr lo (nI l) else j_lushr lo (nI l) ||| j_lshl hi (nI (wd (wb τ) - l))) (wb τ))) := by
        by_cases h0 : l = 0
        · subst h0
          rw [if_pos (by decide), if_pos rfl]
        · rw [if_neg (nI_nle (by omega) (by omega)), if_neg h0]
      rw [e]
      refine Res.tl h ?_
      refine twice_loop τ _ _ _ hw h4 70 0 0 (by omega) (by omega) (fun i hi2 => ?_)
      rw [lb_0, lb_narrow _ _ hi2]
      by_cases hiw : i < wd (wb τ)
      · by_cases h0 : l = 0
        · subst h0
          rw [if_pos rfl, lb_ushr, s6_nI (by decide)]
          simp [hiw]
        · rw [if_neg h0, lb_or, lb_ushr, lb_shl _ _ hi2, s6_nI (by omega), s6_nI (by omega)]
          by_cases h5 : i + l < wd (wb τ)
          · have h6 : ¬ wd (wb τ) - l ≤ i := by omega
            have h7 : l + i < wd (wb τ) := by omega
            rw [Nat.add_comm l i]
            simp [hiw, h5, h6]
          · rw [hlo2 _ (by omega)]
            have h6 : wd (wb τ) - l ≤ i := by omega
            have h7 : i - (wd (wb τ) - l) = i + l - wd (wb τ) := by omega
            have h8 : i + l - wd (wb τ) < wd (wb τ) := by omega
            rw [h7]
            have h9 : lb (F_X1_narrow hi (wb τ)) (i + l - wd (wb τ)) = lb hi (i + l - wd (wb τ)) := by
              rw [lb_narrow _ _ (by omega)]
              simp [h8]
            simp [hiw, h5, h6, h9]
      · simp [hiw]
    · have q := fun q => h4 ((lt_wd (by omega) (wb τ)).mp q)
      rw [if_neg q, if_neg q]
      exact Res.none h rfl rfl
  · rw [if_neg hs, if_neg hs]
    exact Res.none h rfl rfl
theorem ones_bits {c : Nat} (hc : c ≤ 64) {i : Nat} (hi : i < 64) : lb (F_X1_ones (nI c)) i = decide (i < c) := by
  unfold F_X1_ones
  rw [show (64 : Int32) = nI 64 from rfl]
  by_cases h : c < 64
  · rw [if_pos (nI_lt h (by omega))]
    have e : j_lshl 1 (nI c) - 1 = lN (2 ^ c - 1) := by
      have hp : 2 ^ c < 2 ^ 64 := Nat.pow_lt_pow_right (by decide) h
      have hp1 : 1 ≤ 2 ^ c := Nat.pos_of_ne_zero (by simp)
      apply lU_inj
      rw [lU_sub, lU_shlG _ h, lU_lN]
      rw [show lU 1 = 1 from rfl, Nat.one_mul, Nat.mod_eq_of_lt hp, Nat.mod_eq_of_lt (show 2 ^ c - 1 < 2 ^ 64 by omega)]
      omega
    rw [e, lb_lN, Nat.testBit_two_pow_sub_one]
    simp [hi]
  · rw [if_neg (nI_nlt (by omega) (by omega)), lb_m1 hi]
    have : i < c := by omega
    simp [this]
