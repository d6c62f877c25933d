def bfb (o : Nat) (nn had : Int64) (fr to_ many l i : Nat) : Bool := if to_ ≤ i ∧ i < to_ + many then lb nn (fr + i - to_) else if o = 0 ∧ to_ + many ≤ i then lb nn l else if o = 1 then lb had i else false
theorem or_shl_step {x t : Int64} {b : Bool} {k : Nat} {P : Nat → Bool} (hk : k < 64) (h : ∀ i, i < 64 → lb t i = (lb x i || (decide (k ≤ i) && P i))) (hP : P k = b) : ∀ i, i < 64 → lb t i = (lb (x ||| j_lshl (lN b.toNat) (nI k)) i || (decide (k + 1 ≤ i) && P i)) := by
  intro i hi
  rw [h i hi, lb_or, lb_bool_shl _ hk hi]
  by_cases h3 : i = k
  · subst h3
    rw [hP]
    simp
    intro h
    omega
  · have h4 : (k ≤ i) ↔ (k + 1 ≤ i) := by omega
    simp [h3, h4]
theorem bitsOf_loop (τ : MS) (nn had t : Int64) {o w fr to_ many l : Nat} (ho : o < 3) (hw : w ≤ 64) (hfr : fr + many ≤ 64) (hl : l < 64) (htm : to_ + many ≤ 128) : ∀ (n k : Nat) (x : Int64), w < n + k → k ≤ w → (∀ i, i < 64 → lb t i = (lb x i || (decide (k ≤ i) && (decide (i < w) && bfb o nn had fr to_ many l i)))) → F_X12_bitsOf_c137 n τ (nI w) (nI o) (nI l) nn had (nI fr) (nI to_) (nI many) x (nI k) = tl τ t := by
  intro n
  induction n with
  | zero => intro k x h1 h2; omega
  | succ n ih =>
    intro k x h1 h2 h
    rw [F_X12_bitsOf_c137]
    by_cases hk : k = w
    · subst hk
      rw [if_pos (nI_le (Nat.le_refl _) (by omega))]
      have e : x = t := end_bits h (fun i hi _ => by
        have : ¬ i < k := by omega
        simp [this])
      rw [e]
      rfl
    · have hlt : k < w := by omega
      rw [if_neg (nI_ge hlt (by omega))]
      -- from the last cut on, with the bit known
      have go : ∀ b : Bool, bfb o nn had fr to_ many l k = b → F_X12_bitsOf_c215 (F_X12_bitsOf_c137 n) τ (nI w) (nI o) (nI l) nn had (nI fr) (nI to_) (nI many) x (nI k) (lN b.toNat) = tl τ t := by
        intro b hb
        unfold F_X12_bitsOf_c215
        rw [nI_inc]
        exact ih (k + 1) _ (by omega) (by omega) (or_shl_step (P := fun i => decide (i < w) && bfb o nn had fr to_ many l i) (by omega) h (by simp [hlt, hb]))
      have c183 : ∀ b : Bool, (¬ (to_ ≤ k ∧ k < to_ + many) → bfb o nn had fr to_ many l k = b) → F_X12_bitsOf_c183 (F_X12_bitsOf_c137 n) τ (nI w) (nI o) (nI l) nn had (nI fr) (nI to_) (nI many) x (nI k) (lN b.toNat) = tl τ t := by
        intro b hb
        unfold F_X12_bitsOf_c183
        by_cases a1 : k < to_
        · rw [if_pos (nI_lt a1 (by omega))]
          exact go b (hb (by omega))
        · rw [if_neg (nI_nlt (by omega) (by omega)), nI_add]
          by_cases a2 : to_ + many ≤ k
          · rw [if_pos (nI_le a2 (by omega))]
            exact go b (hb (by omega))
          · rw [if_neg (nI_ge (by omega) (by omega)), nI_add, pk_sub (by omega), lU_sshr1 _ (by omega)]
            exact go _ (by
              unfold bfb
              rw [if_pos ⟨by omega, by omega⟩])
      have c160 : ∀ b : Bool, (¬ (to_ ≤ k ∧ k < to_ + many) → ¬ (o = 0 ∧ to_ + many ≤ k) → bfb o nn had fr to_ many l k = b) → F_X12_bitsOf_c160 (F_X12_bitsOf_c137 n) τ (nI w) (nI o) (nI l) nn had (nI fr) (nI to_) (nI many) x (nI k) (lN b.toNat) = tl τ t := by
        intro b hb
        unfold F_X12_bitsOf_c160
        by_cases a0 : o = 0
        · rw [if_pos (by rw [a0]; rfl), nI_add]
          by_cases a1 : k < to_ + many
          · rw [if_pos (nI_lt a1 (by omega))]
            exact c183 b (fun q => hb q (by omega))
          · rw [if_neg (nI_nlt (by omega) (by omega)), lU_sshr1 _ hl]
            exact c183 _ (fun q => by
              unfold bfb
              rw [if_neg q, if_pos ⟨a0, by omega⟩])
        · rw [if_neg (show ¬ nI o = (0 : Int32) from fun q => a0 ((eqN (k := o) (n := 0) (by omega) (by omega)).mp q))]
          exact c183 b (fun q => hb q (by omega))
      by_cases a1 : o = 1
      · rw [if_pos (by rw [a1]; rfl), lU_sshr1 _ (by omega)]
        exact c160 _ (fun q1 q2 => by
          unfold bfb
          rw [if_neg q1, if_neg q2, if_pos a1])
      · rw [if_neg (show ¬ nI o = (1 : Int32) from fun q => a1 ((eqN (k := o) (n := 1) (by omega) (by omega)).mp q))]
        exact c160 false (fun q1 q2 => by
          unfold bfb
          rw [if_neg q1, if_neg q2, if_neg a1])
theorem i_bits {τ : MS} {pc : Int64} (t0 : Int32) (h : Ok τ pc) : Res (F_X12_bitsOf τ) (F_X5_bits (xm τ pc t0) (m_ins τ)) τ pc t0 := by
  have hl := fN_lt (iU (m_ins τ)) 10 6
  have hr := fN_lt (iU (m_ins τ)) 16 6
  have ho := fN_lt (iU (m_ins τ)) 29 2
  have hw := wd_le (wb τ)
  have hw2 := wd_ge (wb τ)
  have eX : F_X5_bits (xm τ pc t0) (m_ins τ) = F_X5_bits_c44 (xm τ pc t0) (m_ins τ) (wb τ) (nI (wd (wb τ))) (nI (fN (iU (m_ins τ)) 29 2)) (nI (fN (iU (m_ins τ)) 16 6)) (nI (fN (iU (m_ins τ)) 10 6)) := by
    unfold F_X5_bits F_X5_bits_c9 F_X5_bits_c15 F_X5_bits_c24 F_X5_bits_c34
    rw [gL_10_6, gL_16_6, gL_29_2, xwidth, xwidth]
    exact pos_wb τ (fun b => F_X5_bits_c44 (xm τ pc t0) (m_ins τ) b (nI (wd b)) (nI (fN (iU (m_ins τ)) 29 2)) (nI (fN (iU (m_ins τ)) 16 6)) (nI (fN (iU (m_ins τ)) 10 6)))
  unfold F_X12_bitsOf F_X12_bitsOf_c5
  rw [eX, width_wd, fL_30_29, Option.bind_some, fL_21_16, Option.bind_some, fL_15_10, Option.bind_some]
  unfold F_X5_bits_c44
  rw [oL_22, oL_31, pL_22]
  show Res (if _ then _ else if _ = wb τ then _ else _) (if _ then _ else if _ = wb τ then _ else _) _ _ _
  by_cases h3 : nI (fN (iU (m_ins τ)) 29 2) = (3 : Int32)
  · rw [if_pos h3, if_pos h3]
    exact Res.none h rfl rfl
  · rw [if_neg h3, if_neg h3]
    by_cases hs : (iU (m_ins τ)).testBit 22 = wb τ
    · rw [if_pos hs, if_pos hs]
      by_cases hrw : wd (wb τ) ≤ fN (iU (m_ins τ)) 16 6
      · rw [if_pos (nI_le hrw (by omega)), if_pos (nI_le hrw (by omega))]
        exact Res.none h rfl rfl
      · rw [if_neg (nI_ge (by omega) (by omega)), if_neg (nI_ge (by omega) (by omega))]
        by_cases hlw : fN (iU (m_ins τ)) 10 6 < wd (wb τ)
        · have q := (lt_wd (by omega) (wb τ)).mpr hlw
          rw [if_pos q, if_pos q, fL_9_5, Option.bind_some, mreg _ (fN_lt _ _ _), Option.bind_some, cut_eq, gL_0_5]
          unfold F_X5_bits_c82 F_X12_bitsOf_c86
          rw [gL_5_5, xreg _ _ _ (fN_lt _ _ _), fL_4_0, Option.bind_some, mreg _ (fN_lt _ _ _), Option.bind_some, cut_eq]
          have hoc : fN (iU (m_ins τ)) 29 2 < 3 := by
            have : fN (iU (m_ins τ)) 29 2 ≠ 3 := fun e => h3 (by rw [e]; rfl)
            omega
          generalize rg τ (fN (iU (m_ins τ)) 5 5) = src
          generalize hd : rg τ (fN (iU (m_ins τ)) 0 5) = had
          generalize fN (iU (m_ins τ)) 10 6 = l at hl hlw
          generalize fN (iU (m_ins τ)) 16 6 = r at hr hrw
          generalize fN (iU (m_ins τ)) 29 2 = o at hoc
          -- both sides in one form
          have fin : ∀ (fr to_ many : Nat), fr + many ≤ wd (wb τ) → 1 ≤ many → to_ + many ≤ wd (wb τ) → l = fr + many - 1 → Res (F_X12_bitsOf_c137 70 τ (nI (wd (wb τ))) (nI o) (nI l) (F_X1_narrow src (wb τ)) (F_X1_narrow had (wb τ)) (nI fr) (nI to_) (nI many) 0 (nI 0)) (F_X5_bits_c160 (xm τ pc t0) (m_ins τ) (wb τ) (nI o) (nI l) (nI (fN (iU (m_ins τ)) 0 5)) src (nI many) (nI to_) src (nI fr)) τ pc t0 := by
            intro fr to_ many f1 f2 f3 f4
            have eR : ∃ t, F_X5_bits_c160 (xm τ pc t0) (m_ins τ) (wb τ) (nI o) (nI l) (nI (fN (iU (m_ins τ)) 0 5)) src (nI many) (nI to_) src (nI fr) = (true, F_X8_putRegister (xm τ pc t0) (nI (fN (iU (m_ins τ)) 0 5)) (F_X1_narrow t (wb τ))) ∧ ∀ i, i < wd (wb τ) → lb t i = bfb o src had fr to_ many l i := by
              have run : ∀ i, i < 64 → lb (j_lshl (j_lushr src (nI fr) &&& F_X1_ones (nI many)) (nI to_)) i = (decide (to_ ≤ i ∧ i < to_ + many) && lb src (fr + i - to_)) := by
                intro i hi
                rw [lb_shl _ _ hi, s6_nI (by omega), lb_and, lb_ushr, s6_nI (by omega), ones_bits (by omega) (by omega)]
                by_cases a : to_ ≤ i
                · by_cases b : i < to_ + many
                  · have c : i - to_ < many := by omega
                    have d : fr + (i - to_) = fr + i - to_ := by omega
                    simp [a, b, c, d]
                  · have c : ¬ i - to_ < many := by omega
                    simp [b, c]
                · simp [a]
              unfold F_X5_bits_c160 F_X5_bits_c176 F_X5_bits_c209 F_X5_bits_c246 F_X5_bits_c261
              generalize j_lshl (j_lushr src (nI fr) &&& F_X1_ones (nI many)) (nI to_) = res at run
              have hoc3 : o = 0 ∨ o = 1 ∨ o = 2 := by omega
              rcases hoc3 with rfl | rfl | rfl
              · rw [if_neg (show ¬ nI 0 = (1 : Int32) by decide), if_pos (show nI 0 = (0 : Int32) from rfl), lU_ushr1 _ (by omega)]
                cases hb : lb src l
                · refine ⟨res, rfl, fun i hi => ?_⟩
                  rw [run i (by omega)]
                  unfold bfb
                  by_cases a : to_ ≤ i ∧ i < to_ + many
                  · rw [if_pos a]; simp [a]
                  · rw [if_neg a]
                    by_cases b : to_ + many ≤ i
                    · rw [if_pos ⟨rfl, b⟩, hb]; simp [a]
                    · rw [if_neg (by omega)]; simp [a]
                · refine ⟨res ||| (F_X1_ones (nI to_ + nI many) ^^^ (-1)), rfl, fun i hi => ?_⟩
                  rw [lb_or, run i (by omega), xor_m1 _ (by omega), nI_add, ones_bits (by omega) (by omega)]
                  unfold bfb
                  by_cases a : to_ ≤ i ∧ i < to_ + many
                  · rw [if_pos a]
                    have c : i < to_ + many := a.2
                    simp [a]
                  · rw [if_neg a]
                    by_cases b : to_ + many ≤ i
                    · rw [if_pos ⟨rfl, b⟩, hb]
                      have c : ¬ i < to_ + many := by omega
                      simp [c]
                    · rw [if_neg (by omega)]
                      have c : i < to_ + many := by omega
                      have d : ¬ to_ ≤ i := by omega
                      simp [c, d]
              · rw [if_pos (show nI 1 = (1 : Int32) from rfl), xreg _ _ _ (fN_lt _ _ _), hd]
                refine ⟨_, rfl, fun i hi => ?_⟩
                rw [lb_or, run i (by omega), lb_and, xor_m1 _ (by omega), lb_shl _ _ (by omega), s6_nI (by omega), ones_bits (by omega) (by omega)]
                unfold bfb
                by_cases a : to_ ≤ i ∧ i < to_ + many
                · rw [if_pos a]
                  have c : i - to_ < many := by omega
                  simp [a, c]
                · rw [if_neg a, if_neg (by omega), if_pos rfl]
                  by_cases b : to_ ≤ i
                  · have c : ¬ i - to_ < many := by omega
                    have d : ¬ i < to_ + many := by omega
                    simp [b, c, d]
                  · simp [b]
              · rw [if_neg (show ¬ nI 2 = (1 : Int32) by decide), if_neg (show ¬ nI 2 = (0 : Int32) by decide)]
                refine ⟨res, rfl, fun i hi => ?_⟩
                rw [run i (by omega)]
                unfold bfb
                by_cases a : to_ ≤ i ∧ i < to_ + many
                · rw [if_pos a]; simp [a]
                · rw [if_neg a, if_neg (by omega), if_neg (by omega)]; simp [a]
            obtain ⟨t, e1, e2⟩ := eR
            rw [e1]
            refine Res.tl h ?_
            refine bitsOf_loop τ _ _ _ hoc hw (by omega) (by omega) (by omega) 70 0 0 (by omega) (by omega) (fun i hi => ?_)
            rw [lb_0, lb_narrow _ _ hi]
            by_cases hiw : i < wd (wb τ)
            · rw [e2 i hiw]
              have nar : ∀ j, j < wd (wb τ) → ∀ y, lb (F_X1_narrow y (wb τ)) j = lb y j := by
                intro j hj y
                rw [lb_narrow _ _ (by omega)]
                simp [hj]
              unfold bfb
              by_cases a : to_ ≤ i ∧ i < to_ + many
              · rw [if_pos a, if_pos a, nar _ (by omega)]; simp [hiw]
              · rw [if_neg a, if_neg a]
                by_cases b : o = 0 ∧ to_ + many ≤ i
                · rw [if_pos b, if_pos b, nar _ (by omega)]; simp [hiw]
                · rw [if_neg b, if_neg b, nar _ hiw]; simp [hiw]
            · simp [hiw]
          unfold F_X5_bits_c97 F_X5_bits_c109 F_X5_bits_c130 F_X5_bits_c145
          by_cases hd2 : l < r
          · rw [if_pos (nI_lt hd2 (by omega)), if_pos (nI_lt hd2 (by omega)), iff_f, iff_f, iff_f]
            unfold F_X12_bitsOf_c122 F_X12_bitsOf_c131
            have e0 : nI l - (0 : Int32) + 1 = nI (l + 1) := by
              rw [show (0 : Int32) = nI 0 from rfl, pk_sub (by omega), nI_inc]; rfl
            rw [e0, nI_inc, pk_sub (by omega)]
            exact fin 0 (wd (wb τ) - r) (l + 1) (by omega) (by omega) (by omega) (by omega)
          · rw [if_neg (nI_nlt (by omega) (by omega)), if_neg (nI_nlt (by omega) (by omega)), iff_t, iff_t, iff_t]
            unfold F_X12_bitsOf_c122 F_X12_bitsOf_c131
            rw [pk_sub (by omega), show nI (l - r) + (1 : Int32) = nI (l - r + 1) from nI_inc _]
            exact fin r 0 (l - r + 1) (by omega) (by omega) (by omega) (by omega)
        · have q := fun q => hlw ((lt_wd (by omega) (wb τ)).mp q)
          rw [if_neg q, if_neg q]
          exact Res.none h rfl rfl
    · rw [if_neg hs, if_neg hs]
      exact Res.none h rfl rfl
