theorem rloop {τ : MS} {w : Nat} (hw : w ≤ 64) (a t : Int64) (op : Int32) : ∀ (n k : Nat) (x : Int64), w < n + k → k ≤ w → (∀ i, i < 64 → lb t i = (lb x i || (decide (i + k < w) && lb a (w - 1 - i)))) → F_X12_one_c61 n τ (nI w) op a x (nI k) = F_X12_one_c91 τ (nI w) op a t := by
  intro n
  induction n with
  | zero => intro k x h1 h2; omega
  | succ n ih =>
    intro k x h1 h2 h
    rw [F_X12_one_c61]
    by_cases hk : k = w
    · subst hk
      rw [if_pos (nI_le (Nat.le_refl _) (by omega))]
      have e : x = t := by
        apply l_ext
        intro i hi
        rw [h i hi]
        have : ¬ i + k < k := by omega
        simp [this]
      rw [e]
    · rw [if_neg (nI_ge (by omega) (by omega))]
      unfold F_X12_one_c85
      rw [nI_inc, pred_nI (by omega), pk_sub (by omega), lU_sshr1 a (by omega)]
      refine ih (k + 1) _ (by omega) (by omega) ?_
      intro i hi
      rw [lb_or, lb_bool_shl _ (by omega) hi, h i hi]
      by_cases h3 : i = w - 1 - k
      · have h4 : i + k < w := by omega
        have h5 : w - 1 - i = k := by omega
        have h6 : ¬ i + (k + 1) < w := by omega
        rw [h5]
        simp [h3.symm, h4, h6]
      · by_cases h4 : i + k < w
        · have h6 : i + (k + 1) < w := by omega
          simp [h3, h4, h6]
        · have h6 : ¬ i + (k + 1) < w := by omega
          simp [h3, h4, h6]
theorem byteb (a : Int64) {k j : Nat} (hk : k < 8) (hj : j < 64) : lb (j_lshr a (nI (8 * k)) &&& 255) j = (decide (j < 8) && lb a (8 * k + j)) := by
  rw [lb_and, lb_sshr _ _ hj, s6_nI (by omega), show (255 : Int64) = lN (2 ^ 8 - 1) from rfl, lb_lN, Nat.testBit_two_pow_sub_one]
  by_cases h : j < 8
  · rw [if_pos (by omega)]
    simp [h, hj]
  · simp [h]
theorem bloop {τ : MS} {w u : Nat} (hu : u = 2 ∨ u = 4 ∨ u = 8) (hw : w = 32 ∨ w = 64) (huw : w = 32 → u ≠ 8) (a t : Int64) (op : Int32) : ∀ (n k : Nat) (x : Int64), w / 8 < n + k → k ≤ w / 8 → (∀ i, i < 64 → lb t i = (lb x i || (decide (k ≤ bp u (i / 8)) && (decide (i < w) && lb a (8 * bp u (i / 8) + i % 8))))) → F_X12_one_c108 n τ (nI w) op a x (nI u) (nI k) = F_X12_one_c166 τ (nI w) op a t := by
  have hlt : ∀ k, k < w / 8 → bp u k < w / 8 := by
    intro k hk
    rcases hw with e | e <;> subst e
    · exact bp_w u (by have := huw rfl; omega) k hk
    · exact (bp_inv u hu k hk).1
  intro n
  induction n with
  | zero => intro k x h1 h2; omega
  | succ n ih =>
    intro k x h1 h2 h
    rw [F_X12_one_c108, show (8 : Int32) = nI 8 from rfl, pk_div (by omega) (by decide) (by decide)]
    by_cases hk : k = w / 8
    · subst hk
      rw [if_pos (nI_le (Nat.le_refl _) (by omega))]
      have e : x = t := by
        apply l_ext
        intro i hi
        rw [h i hi]
        by_cases h3 : i < w
        · have h4 : ¬ w / 8 ≤ bp u (i / 8) := by have := hlt (i / 8) (by omega); omega
          simp [h4]
        · simp [h3]
      rw [e]
    · have hu0 : ¬ nI u = (0 : Int32) := fun q => by have := (eqN (n := 0) (by omega) (by omega)).mp q; omega
      have hmod : k % u < u := Nat.mod_lt _ (by omega)
      have hk8 : k < 8 := by omega
      rw [if_neg (nI_ge (by omega) (by omega)), if_neg hu0, if_neg hu0, pk_rem (by omega) (by omega) (by omega), pk_div (by omega) (by omega) (by omega), pk_mul, pk_mul, nI_add, pred_nI (by omega), pk_sub (by omega), pk_mul, nI_inc]
      show F_X12_one_c108 n τ (nI w) op a (x ||| j_lshl (j_lshr a (nI (8 * k)) &&& 255) (nI (8 * bp u k))) (nI u) (nI (k + 1)) = _
      obtain ⟨hc8, hcc⟩ := bp_inv u hu k hk8
      have hcw := hlt k (by omega)
      refine ih (k + 1) _ (by omega) (by omega) ?_
      intro i hi
      rw [lb_or, lb_shl _ _ hi, s6_nI (by omega), byteb a hk8 (by omega), h i hi]
      by_cases h3 : i / 8 = bp u k
      · rw [h3, hcc]
        have a1 : 8 * bp u k ≤ i := by omega
        have a2 : i - 8 * bp u k < 8 := by omega
        have a3 : i - 8 * bp u k = i % 8 := by omega
        have a4 : i < w := by omega
        have a5 : ¬ k + 1 ≤ k := by omega
        rw [a3]
        have a6 : i % 8 < 8 := by omega
        simp [a1, a4, a5, a6]
      · have hne : bp u (i / 8) ≠ k := by
          intro q
          have := (bp_inv u hu (i / 8) (by omega)).2
          rw [q] at this
          exact h3 this.symm
        have a1 : (decide (8 * bp u k ≤ i) && (decide (i - 8 * bp u k < 8) && lb a (8 * k + (i - 8 * bp u k)))) = false := by
          by_cases b1 : 8 * bp u k ≤ i
          · have b2 : ¬ i - 8 * bp u k < 8 := by omega
            simp [b2]
          · simp [b1]
        have a2 : decide (k ≤ bp u (i / 8)) = decide (k + 1 ≤ bp u (i / 8)) := by
          congr 1
          apply propext
          omega
        rw [a1, a2]
        simp
theorem cl_loop {τ : MS} {w op : Int32} {a : Int64} : ∀ (n k : Nat), k < n → k ≤ 64 → (∀ i, k ≤ i → i < 64 → lb a i = false) → ∃ j, j ≤ k ∧ F_X12_one_c176 n τ w op a (nI k + (-1)) = F_X12_one_c196 τ w op a (nI j + (-1)) ∧ (∀ i, j ≤ i → i < 64 → lb a i = false) ∧ (j = 0 ∨ lb a (j - 1) = true) := by
  intro n
  induction n with
  | zero => intro k h; omega
  | succ n ih =>
    intro k hn hk h
    rw [F_X12_one_c176]
    cases k with
    | zero =>
      rw [if_pos (by decide)]
      exact ⟨0, by omega, rfl, h, Or.inl rfl⟩
    | succ k =>
      rw [pk_m1, if_neg (nI_pos (by omega)), bit_eq _ (by omega)]
      cases hb : lb a k
      · rw [iff_f]
        obtain ⟨j, h1, h2, h3, h4⟩ := ih k (by omega) (by omega) (fun i hi h64 => by
          by_cases e : i = k
          · rw [e]; exact hb
          · exact h i (by omega) h64)
        exact ⟨j, by omega, h2, h3, h4⟩
      · rw [iff_t]
        exact ⟨k + 1, by omega, by rw [pk_m1], h, Or.inr hb⟩
theorem cs_loop {τ : MS} {w : Int32} {a : Int64} {s : Bool} {m : Nat} (hm : m ≤ 63) (hs : F_X12_bit a (w - 1) = s) : ∀ (n k : Nat), k < n → k ≤ m → (∀ i, k ≤ i → i < m → lb a i = s) → ∃ j, j ≤ k ∧ F_X12_one_c215 n τ w a (nI k + (-1)) = F_X12_one_c242 τ w (nI j + (-1)) ∧ (∀ i, j ≤ i → i < m → lb a i = s) ∧ (j = 0 ∨ lb a (j - 1) ≠ s) := by
  intro n
  induction n with
  | zero => intro k h; omega
  | succ n ih =>
    intro k hn hk h
    rw [F_X12_one_c215]
    cases k with
    | zero =>
      rw [if_pos (by decide)]
      exact ⟨0, by omega, rfl, h, Or.inl rfl⟩
    | succ k =>
      rw [pk_m1, if_neg (nI_pos (by omega)), bit_eq _ (by omega), hs]
      by_cases hb : lb a k = s
      · rw [if_pos hb]
        obtain ⟨j, h1, h2, h3, h4⟩ := ih k (by omega) (by omega) (fun i hi h64 => by
          by_cases e : i = k
          · rw [e]; exact hb
          · exact h i (by omega) h64)
        exact ⟨j, by omega, h2, h3, h4⟩
      · rw [if_neg hb]
        exact ⟨k + 1, by omega, by rw [pk_m1], h, Or.inr hb⟩
theorem sub_m {a j : Nat} (h : j ≤ a + 1) : nI a - (nI j + (-1)) = nI (a + 1 - j) := by
  cases j with
  | zero => rw [Int32.sub_eq_add_neg, show -(nI 0 + -1) = 1 from rfl, nI_inc]; rfl
  | succ j =>
    rw [pk_m1, pk_sub (by omega)]
    congr 1
    omega
theorem sx_bits {x : Int64} {w : Bool} (h : ∀ i, wd w ≤ i → lb x i = false) {i : Nat} (hi : i < 64) : lb (sx x w) i = if i < wd w then lb x i else lb x (wd w - 1) := by
  cases w
  · show lb x.toInt32.toInt64 i = if i < 32 then lb x i else lb x 31
    rw [lb_i2l _ hi]
    by_cases h1 : i < 32
    · rw [if_pos h1, if_pos h1, ib_l2i _ h1]
    · rw [if_neg h1, if_neg h1, ib_l2i _ (by decide)]
  · show lb x i = if i < 64 then lb x i else lb x 63
    rw [if_pos hi]
theorem like_bits {x : Int64} {w : Bool} (h : ∀ i, wd w ≤ i → lb x i = false) {i : Nat} (hi : i < 64) : lb (F_X1_narrow (sx x w ^^^ j_lshr (sx x w) 1) w) i = (decide (i < wd w - 1) && (lb x i ^^ lb x (i + 1))) := by
  have hw := wd_le w
  have hw2 := wd_ge w
  rw [lb_narrow _ _ hi, lb_xor, show (1 : Int32) = nI 1 from rfl, lb_sshr _ _ hi, s6_nI (by decide), sx_bits h hi]
  by_cases h1 : i < wd w - 1
  · have h2 : i < wd w := by omega
    have h3 : 1 + i < 64 := by omega
    rw [if_pos h2, if_pos h3, sx_bits h h3, if_pos (by omega), Nat.add_comm 1 i]
    simp [h1, h2]
  · by_cases h2 : i < wd w
    · have h3 : i = wd w - 1 := by omega
      have h4 : (if 1 + i < 64 then lb (sx x w) (1 + i) else lb (sx x w) 63) = lb x (wd w - 1) := by
        by_cases h5 : 1 + i < 64
        · rw [if_pos h5, sx_bits h h5, if_neg (by omega)]
        · rw [if_neg h5, sx_bits h (by decide)]
          by_cases h6 : 63 < wd w
          · rw [if_pos h6]
            congr 1
            omega
          · rw [if_neg h6]
      rw [if_pos h2, h4, h3]
      simp
    · simp [h1, h2]
theorem i_one {τ : MS} {pc : Int64} (t0 : Int32) (h : Ok τ pc) (h29 : (iU (m_ins τ)).testBit 29 = false) (h16 : fN (iU (m_ins τ)) 16 5 = 0) : Res (F_X12_one τ) (F_X7_one (xm τ pc t0) (m_ins τ)) τ pc t0 := by
  have hop := fN_lt (iU (m_ins τ)) 10 6
  have eX : F_X7_one (xm τ pc t0) (m_ins τ) = F_X7_one_c9 (xm τ pc t0) (m_ins τ) (wb τ) := by
    unfold F_X7_one
    exact pos_wb τ (fun b => F_X7_one_c9 (xm τ pc t0) (m_ins τ) b)
  unfold F_X12_one F_X12_one_c5 F_X12_one_c30
  rw [eX, width_wd, fL_15_10, Option.bind_some]
  unfold F_X7_one_c9
  rw [pL_29, h29, iff_f, gL_16_5, h16, if_pos (show nI 0 = (0 : Int32) from rfl), gL_10_6, xleft]
  unfold F_X12_one_c35
  rw [fL_9_5, Option.bind_some, mreg _ (fN_lt _ _ _), Option.bind_some, cut_eq]
  have hah := narrow_hi (rg τ (fN (iU (m_ins τ)) 5 5)) (wb τ)
  generalize F_X1_narrow (rg τ (fN (iU (m_ins τ)) 5 5)) (wb τ) = a at *
  generalize fN (iU (m_ins τ)) 10 6 = op at *
  have hw1 := wd_ge (wb τ)
  have hw2 := wd_le (wb τ)
  have hwc : wd (wb τ) = 32 ∨ wd (wb τ) = 64 := wd_cases (wb τ)
  unfold F_X7_one_c47 F_X7_one_c106 F_X7_one_c143 F_X7_one_c175
  have q5 : (5 : Int32) < nI op ↔ 5 < op := nI_ltI (a := 5) (by omega) (by omega)
  have fin : ∀ {v v' : Int64}, F_X1_narrow v (wb τ) = v' → Res (F_X12_one_c251 τ v') ((F_X7_put (xm τ pc t0) (m_ins τ) v).1, (F_X7_put (xm τ pc t0) (m_ins τ) v).2) τ pc t0 := fun e => Res.of (tail7 t0 h.ok' e)
  by_cases h5 : 5 < op
  · have e0 : ¬ nI op = (0 : Int32) := fun q => by have := (eqN (n := 0) (by omega) (by omega)).mp q; omega
    have e1 : ¬ nI op = (1 : Int32) := fun q => by have := (eqN (n := 1) (by omega) (by omega)).mp q; omega
    have e2 : ¬ nI op = (2 : Int32) := fun q => by have := (eqN (n := 2) (by omega) (by omega)).mp q; omega
    have e3 : ¬ nI op = (3 : Int32) := fun q => by have := (eqN (n := 3) (by omega) (by omega)).mp q; omega
    have e4 : ¬ nI op = (4 : Int32) := fun q => by have := (eqN (n := 4) (by omega) (by omega)).mp q; omega
    have e5 : ¬ nI op = (5 : Int32) := fun q => by have := (eqN (n := 5) (by omega) (by omega)).mp q; omega
    rw [if_pos (q5.mpr h5), if_neg e0, if_neg e1, if_neg e2, if_neg e3, if_neg e4, if_neg e5]
    exact Res.none h rfl rfl
  · rw [if_neg (fun q => h5 (q5.mp q))]
    have hbl : ∀ u, (u = 2 ∨ u = 4 ∨ u = 8) → (wd (wb τ) = 32 → u ≠ 8) → ∀ (t : Int64) (o : Int32), (∀ i, i < 64 → lb t i = (decide (i < wd (wb τ)) && lb a (8 * bp u (i / 8) + i % 8))) → F_X12_one_c105 τ (nI (wd (wb τ))) o a 0 (nI u) = F_X12_one_c166 τ (nI (wd (wb τ))) o a t := by
      intro u hu huw t o ht
      unfold F_X12_one_c105
      refine bloop hu hwc huw a t o 70 0 0 (by omega) (by omega) ?_
      intro i hi
      rw [ht i hi, lb_0]
      simp
    have hops : op = 0 ∨ op = 1 ∨ op = 2 ∨ op = 3 ∨ op = 4 ∨ op = 5 := by omega
    unfold F_X12_one_c51 F_X12_one_c91
    rcases hops with e | e | e | e | e | e <;> subst e
    · rw [if_neg (show ¬ nI 0 = (3 : Int32) by decide), if_pos (show nI 0 = (0 : Int32) from rfl), if_pos (show nI 0 = (0 : Int32) from rfl)]
      have hb : ∀ i, i < 64 → lb (j_lushr (F_J13_reverse_067f4 a) ((64 : Int32) - F_X1_width (wb τ))) i = (decide (i < wd (wb τ)) && lb a (wd (wb τ) - 1 - i)) := by
        intro i hi
        rw [xwidth, show (64 : Int32) = nI 64 from rfl, pk_sub (by omega), lb_ushr, s6_nI (by omega)]
        by_cases h1 : i < wd (wb τ)
        · rw [rev_bits _ (by omega), show 63 - (64 - wd (wb τ) + i) = wd (wb τ) - 1 - i from by omega]
          simp [h1]
        · rw [lb_big _ (by omega)]
          simp [h1]
      rw [show (0 : Int32) = nI 0 from rfl, rloop hw2 a (j_lushr (F_J13_reverse_067f4 a) ((64 : Int32) - F_X1_width (wb τ))) (nI 0) 70 0 0 (by omega) (by omega) (by
        intro i hi
        rw [hb i hi, lb_0]
        simp)]
      refine fin (v := j_lushr (F_J13_reverse_067f4 a) ((64 : Int32) - F_X1_width (wb τ))) ?_
      apply l_ext
      intro i hi
      rw [lb_narrow _ _ hi, hb i hi]
      cases decide (i < wd (wb τ)) <;> simp
    · rw [if_neg (show ¬ nI 1 = (3 : Int32) by decide), if_neg (show ¬ nI 1 = (0 : Int32) by decide), if_neg (show ¬ nI 1 = (0 : Int32) by decide), if_pos (show nI 1 = (1 : Int32) from rfl), if_neg (by decide), if_neg (by decide), show (1 : Int32) <<< (nI 1 &&& 31) = nI 2 from rfl, hbl 2 (by omega) (by omega) (F_X1_narrow (F_X7_bytesOfPairs a) (wb τ)) _ (by
        intro i hi
        rw [lb_narrow _ _ hi, pairs_bits _ hi, bp2 i hi])]
      exact fin rfl
    · rw [if_neg (show ¬ nI 2 = (3 : Int32) by decide), if_neg (show ¬ nI 2 = (0 : Int32) by decide), if_neg (show ¬ nI 2 = (0 : Int32) by decide), if_neg (show ¬ nI 2 = (1 : Int32) by decide), if_pos (show nI 2 = (2 : Int32) from rfl), if_neg (by decide), if_neg (by decide), show (1 : Int32) <<< (nI 2 &&& 31) = nI 4 from rfl, hbl 4 (by omega) (by omega) (F_X1_narrow (F_X7_bytesOfFours a) (wb τ)) _ (by
        intro i hi
        rw [lb_narrow _ _ hi, fours_bits _ hi, bp4 i hi])]
      exact fin rfl
    · rw [if_pos (show nI 3 = (3 : Int32) from rfl), if_neg (show ¬ nI 3 = (0 : Int32) by decide), if_neg (show ¬ nI 3 = (1 : Int32) by decide), if_neg (show ¬ nI 3 = (2 : Int32) by decide), if_pos (show nI 3 = (3 : Int32) from rfl)]
      have q32 : nI (wd (wb τ)) = (32 : Int32) ↔ wb τ = false := by cases wb τ <;> decide
      cases hw : wb τ
      · rw [hw] at q32
        rw [if_pos (q32.mpr rfl), iff_f]
        exact Res.none h rfl rfl
      · rw [hw] at q32 hbl fin
        rw [if_neg (fun z => by cases q32.mp z), iff_t, if_neg (show ¬ nI 3 = (0 : Int32) by decide), if_neg (by decide), if_neg (by decide), show (1 : Int32) <<< (nI 3 &&& 31) = nI 8 from rfl, hbl 8 (by omega) (by decide) (F_X1_narrow (F_J13_reverseBytes_067f4 a) true) _ (by
          intro i hi
          rw [lb_narrow _ _ hi, rb_bits _ hi, bp8 i hi])]
        have hf := fin (v := F_J13_reverseBytes_067f4 a) rfl
        have hp : (F_X7_put (xm τ pc t0) (m_ins τ) (F_J13_reverseBytes_067f4 a)).1 = true := by rw [xput τ pc t0 rfl]
        rw [hp, iff_t]
        rw [hp] at hf
        exact hf
    · rw [if_neg (show ¬ nI 4 = (3 : Int32) by decide), if_neg (show ¬ nI 4 = (0 : Int32) by decide), if_neg (show ¬ nI 4 = (0 : Int32) by decide), if_neg (show ¬ nI 4 = (1 : Int32) by decide), if_neg (show ¬ nI 4 = (2 : Int32) by decide), if_neg (show ¬ nI 4 = (3 : Int32) by decide), if_pos (show nI 4 = (4 : Int32) from rfl), if_neg (by decide), if_pos (by decide)]
      unfold F_X12_one_c166
      rw [if_pos (show nI 4 = (4 : Int32) from rfl)]
      obtain ⟨j, h1, h2, h3, h4⟩ := cl_loop (τ := τ) (w := nI (wd (wb τ))) (op := nI 4) (a := a) 70 (wd (wb τ)) (by omega) (by omega) (fun i hi _ => hah i hi)
      rw [show nI (wd (wb τ)) - (1 : Int32) = nI (wd (wb τ)) + (-1) from by rw [Int32.sub_eq_add_neg], h2]
      unfold F_X12_one_c196 F_X12_one_c205
      rw [if_neg (show ¬ nI 4 = (5 : Int32) by decide), pred_nI (by omega), sub_m (by omega), nI_toL (by omega)]
      obtain ⟨b1, b2⟩ := bl_of (a := a) (j := j) (fun i hi => by
        by_cases h64 : i < 64
        · exact h3 i hi h64
        · exact lb_big _ (by omega)) h4
      rw [xzeros b1 b2 h1]
      refine fin ?_
      rw [narrow_small (by omega), show wd (wb τ) - 1 + 1 - j = wd (wb τ) - j from by omega]
    · rw [if_neg (show ¬ nI 5 = (3 : Int32) by decide), if_neg (show ¬ nI 5 = (0 : Int32) by decide), if_neg (show ¬ nI 5 = (0 : Int32) by decide), if_neg (show ¬ nI 5 = (1 : Int32) by decide), if_neg (show ¬ nI 5 = (2 : Int32) by decide), if_neg (show ¬ nI 5 = (3 : Int32) by decide), if_neg (show ¬ nI 5 = (4 : Int32) by decide), if_pos (show nI 5 = (5 : Int32) from rfl), if_neg (by decide), if_pos (by decide)]
      unfold F_X12_one_c166 F_X12_one_c205
      rw [if_neg (show ¬ nI 5 = (4 : Int32) by decide), if_pos (show nI 5 = (5 : Int32) from rfl)]
      have hbit : F_X12_bit a (nI (wd (wb τ)) - 1) = lb a (wd (wb τ) - 1) := by rw [pred_nI (by omega), bit_eq _ (by omega)]
      obtain ⟨j, h1, h2, h3, h4⟩ := cs_loop (τ := τ) (w := nI (wd (wb τ))) (a := a) (s := lb a (wd (wb τ) - 1)) (m := wd (wb τ) - 1) (by omega) hbit 70 (wd (wb τ) - 1) (by omega) (by omega) (fun i hi h2 => by omega)
      rw [show nI (wd (wb τ)) - (2 : Int32) = nI (wd (wb τ) - 1) + (-1) from by
        rw [show (2 : Int32) = nI 2 from rfl, pk_sub (by omega), show wd (wb τ) - 1 = (wd (wb τ) - 2) + 1 from by omega, pk_m1], h2]
      unfold F_X12_one_c242
      rw [show (2 : Int32) = nI 2 from rfl, pk_sub (by omega), sub_m (by omega), nI_toL (by omega)]
      have eL : F_X7_likeTheHighest a (wb τ) = F_X7_zerosAbove (F_X1_narrow (sx a (wb τ) ^^^ j_lshr (sx a (wb τ)) 1) (wb τ)) (wb τ) - 1 := by
        unfold F_X7_likeTheHighest F_X7_likeTheHighest_c11 sx
        cases wb τ <;> rfl
      obtain ⟨b1, b2⟩ := bl_of (a := F_X1_narrow (sx a (wb τ) ^^^ j_lshr (sx a (wb τ)) 1) (wb τ)) (j := j) (fun i hi => by
        by_cases h64 : i < 64
        · rw [like_bits hah h64]
          by_cases h6 : i < wd (wb τ) - 1
          · rw [h3 i hi h6]
            by_cases h7 : i + 1 < wd (wb τ) - 1
            · rw [h3 (i + 1) (by omega) h7]
              simp
            · rw [show i + 1 = wd (wb τ) - 1 from by omega]
              simp
          · simp [h6]
        · exact lb_big _ (by omega)) (by
        rcases h4 with e | e
        · exact Or.inl e
        · rcases Nat.eq_zero_or_pos j with ej | ej
          · exact Or.inl ej
          · right
            rw [like_bits hah (by omega)]
            have h6 : j - 1 < wd (wb τ) - 1 := by omega
            have h7 : lb a (j - 1 + 1) = lb a (wd (wb τ) - 1) := by
              rw [show j - 1 + 1 = j from by omega]
              by_cases h8 : j < wd (wb τ) - 1
              · exact h3 j (by omega) h8
              · rw [show j = wd (wb τ) - 1 from by omega]
            rw [h7]
            revert e
            cases lb a (j - 1) <;> cases lb a (wd (wb τ) - 1) <;> simp [h6])
      rw [eL, xzeros b1 b2 (by omega), show (1 : Int64) = lN 1 from rfl, lN_sub64 (by omega)]
      refine fin ?_
      rw [narrow_small (by omega), show wd (wb τ) - 2 + 1 - j = wd (wb τ) - j - 1 from by omega]
