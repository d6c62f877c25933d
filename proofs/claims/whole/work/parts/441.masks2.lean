theorem mloop {τ : MS} {w E s r : Nat} (t : Int64) (hw : w ≤ 64) (hE : E = 2 ∨ E = 4 ∨ E = 8 ∨ E = 16 ∨ E = 32 ∨ E = 64) (hs : s < 64) (hr : r < E) : ∀ (n k : Nat) (x : Int64), w < n + k → k ≤ w → (∀ i, i < 64 → lb t i = (lb x i || (decide (k ≤ i) && (decide (i < w) && QM E s r i)))) → F_X12_masks_c132 n τ (nI w) (nI E) (nI s) (nI r) x (nI k) = F_X12_masks_c132 1 τ (nI w) (nI E) (nI s) (nI r) t (nI w) := by
  intro n
  induction n with
  | zero => intro k x h1 h2; omega
  | succ n ih =>
    intro k x h1 h2 h3
    by_cases hk : k = w
    · subst hk
      have hx : x = t := end_bits h3 (by
        intro i h4 h5
        have : ¬ i < k := by omega
        simp [this])
      subst hx
      rw [F_X12_masks_c132, F_X12_masks_c132, if_pos (nI_le (Nat.le_refl _) (by omega)), if_pos (nI_le (Nat.le_refl _) (by omega))]
    · rw [F_X12_masks_c132]
      have hE0 : ¬ nI E = (0 : Int32) := fun q => by have := (eqN (n := 0) (by omega) (by omega)).mp q; omega
      have hmod : k % E < E := Nat.mod_lt _ (by omega)
      rw [if_neg (nI_ge (by omega) (by omega)), if_neg hE0, if_neg hE0, pk_rem (by omega) (by omega) (by omega), nI_add, pk_rem (by omega) (by omega) (by omega)]
      unfold F_X12_masks_c163
      rw [nI_inc]
      have hmod2 : (k % E + r) % E < E := Nat.mod_lt _ (by omega)
      have q : nI s < nI ((k % E + r) % E) ↔ s < (k % E + r) % E := nI_ltI (by omega) (by omega)
      by_cases h4 : s < (k % E + r) % E
      · rw [if_pos (q.mpr h4)]
        refine ih (k + 1) x (by omega) (by omega) (skip_bit_step h3 ?_)
        have hq : QM E s r k = false := decide_eq_false (by omega)
        rw [hq]
        simp
      · rw [if_neg (fun z => h4 (q.mp z))]
        refine ih (k + 1) _ (by omega) (by omega) ?_
        intro i hi
        rw [lb_or, lb_one_shl (by omega) hi, h3 i hi]
        by_cases h5 : i = k
        · subst h5
          have hq : QM E s r i = true := decide_eq_true (by omega)
          have h7 : i < w := by omega
          rw [hq]
          simp [h7]
        · by_cases h6 : k ≤ i
          · have h7 : k + 1 ≤ i := by omega
            simp [h5, h6, h7]
          · have h7 : ¬ k + 1 ≤ i := by omega
            simp [h5, h6, h7]
theorem hscan {τ : MS} (w1 : Int32) {L : Nat} (hL : 1 ≤ L) : ∀ (k n : Nat), k < n → k < 7 → L < 2 ^ (k + 1) → F_X12_masks_c34 n τ w1 (nI L) (nI k) = F_X12_masks_c52 τ w1 (nI L.log2) := by
  intro k
  induction k with
  | zero =>
    intro n h1 h7 h2
    obtain ⟨n, rfl⟩ := Nat.exists_eq_add_of_le' (show 1 ≤ n by omega)
    have : L = 1 := by omega
    subst this
    rw [F_X12_masks_c34, if_neg (by decide), if_neg (by decide)]
    rfl
  | succ k ih =>
    intro n h1 h7 h2
    obtain ⟨n, rfl⟩ := Nat.exists_eq_add_of_le' (show 1 ≤ n by omega)
    have h128 : 2 ^ (k + 1 + 1) ≤ 128 := Nat.pow_le_pow_right (n := 2) (by decide) (show k + 1 + 1 ≤ 7 by omega)
    have hLm : iU (nI L) = L := by rw [iU_nI]; omega
    have hpos : 0 < 2 ^ (k + 1) := Nat.pos_of_ne_zero (by simp)
    have hd : L / 2 ^ (k + 1) < 2 := by
      rw [Nat.div_lt_iff_lt_mul hpos, Nat.mul_comm, ← Nat.pow_succ]
      exact h2
    rw [F_X12_masks_c34, if_neg (nI_pos (by omega)), bit_sshr1 _ (by omega), hLm]
    have q : nI (L / 2 ^ (k + 1) % 2) = (0 : Int32) ↔ L / 2 ^ (k + 1) % 2 = 0 := eqN (n := 0) (by omega) (by omega)
    by_cases h3 : L < 2 ^ (k + 1)
    · rw [if_pos (q.mpr (by rw [Nat.div_eq_of_lt h3])), pk_m1]
      exact ih n (by omega) (by omega) h3
    · have h4 : L / 2 ^ (k + 1) ≠ 0 := by
        intro h0
        rw [Nat.div_eq_zero_iff] at h0
        omega
      have h6 : L / 2 ^ (k + 1) = 1 := by generalize L / 2 ^ (k + 1) = d at hd h4; omega
      rw [if_neg (fun z => by have := q.mp z; rw [h6] at this; cases this)]
      have : L.log2 = k + 1 := by
        rw [Nat.log2_eq_iff (by omega)]
        exact ⟨by omega, h2⟩
      rw [this]
theorem hscan0 {τ : MS} (w1 : Int32) : F_X12_masks_c34 70 τ w1 (nI 0) 6 = F_X12_masks_c52 τ w1 (-1) := rfl
theorem logic_nar (σ : XS) (a b : Int64) (o : Int32) (w : Bool) : F_X9_logic σ a b o w = F_X9_logic σ (F_X1_narrow a w) b o w := by
  unfold F_X9_logic F_X9_logic_c30
  have e1 : F_X1_narrow (a ||| b) w = F_X1_narrow (F_X1_narrow a w ||| b) w := by
    apply l_ext
    intro i hi
    rw [lb_narrow _ _ hi, lb_narrow _ _ hi, lb_or, lb_or, lb_narrow _ _ hi]
    cases decide (i < wd w) <;> simp
  have e2 : F_X1_narrow (a ^^^ b) w = F_X1_narrow (F_X1_narrow a w ^^^ b) w := by
    apply l_ext
    intro i hi
    rw [lb_narrow _ _ hi, lb_narrow _ _ hi, lb_xor, lb_xor, lb_narrow _ _ hi]
    cases decide (i < wd w) <;> simp
  have e3 : F_X1_narrow (a &&& b) w = F_X1_narrow (F_X1_narrow a w &&& b) w := by
    apply l_ext
    intro i hi
    rw [lb_narrow _ _ hi, lb_narrow _ _ hi, lb_and, lb_and, lb_narrow _ _ hi]
    cases decide (i < wd w) <;> simp
  rw [e1, e2, e3]
  rfl
theorem mask_end {τ : MS} {pc : Int64} (t0 : Int32) (h : Ok τ pc) (b a4 a5 a6 : Int32) (m : Int64) : Res (F_X12_masks_c132 1 τ (nI (wd (wb τ))) a4 a5 a6 (F_X1_narrow m (wb τ)) (nI (wd (wb τ)))) (F_X5_masks_c22 (xm τ pc t0) (m_ins τ) m (nI (fN (iU (m_ins τ)) 29 2))) τ pc t0 := by
  have ho := fN_lt (iU (m_ins τ)) 29 2
  have eX : F_X5_masks_c22 (xm τ pc t0) (m_ins τ) m (nI (fN (iU (m_ins τ)) 29 2)) = F_X5_masks_c55 (xm τ pc t0) (m_ins τ) (nI (fN (iU (m_ins τ)) 29 2)) (rg τ (fN (iU (m_ins τ)) 5 5)) m (nI (fN (iU (m_ins τ)) 29 2)) (wb τ) := by
    unfold F_X5_masks_c22
    rw [gL_5_5, xreg _ _ _ (fN_lt _ _ _)]
    exact pos_wb τ (fun b => F_X5_masks_c55 (xm τ pc t0) (m_ins τ) (nI (fN (iU (m_ins τ)) 29 2)) (rg τ (fN (iU (m_ins τ)) 5 5)) m (nI (fN (iU (m_ins τ)) 29 2)) b)
  rw [eX, F_X12_masks_c132, if_pos (nI_le (Nat.le_refl _) (by have := wd_le (wb τ); omega)), fL_30_29, Option.bind_some, fL_9_5, Option.bind_some, mreg _ (fN_lt _ _ _), Option.bind_some, cut_eq]
  unfold F_X5_masks_c55 F_X5_masks_c60 F_X5_masks_c81 F_X5_masks_c99
  rw [logic_nar, xlogic_eq τ pc t0 ho (narrow_idem _ _)]
  generalize hr : F_X12_joined τ (nI (fN (iU (m_ins τ)) 29 2)) (F_X1_narrow (rg τ (fN (iU (m_ins τ)) 5 5)) (wb τ)) (F_X1_narrow m (wb τ)) = r
  unfold F_X12_masks_c200
  rw [fL_30_29, Option.bind_some, show (3 : Int32) = nI 3 from rfl, gL_0_5]
  dsimp only
  by_cases h3 : fN (iU (m_ins τ)) 29 2 = 3
  · rw [if_pos ((eqN (by omega) (by omega)).mpr h3), if_pos ((eqN (by omega) (by omega)).mpr h3), if_pos h3, signs0]
    have hO : Ok' (mu_flags τ (nI (fl4 (lb r (wd (wb τ) - 1)) (decide (r = 0)) false false))) pc := ⟨Inv_flags h.1 (fl4_lt _ _ _ _), fun _ => h.2.2⟩
    obtain ⟨τ', h1, h2, h4⟩ := tailR t0 hO r
    refine Res.of ⟨τ', h1, h2, ?_⟩
    rw [← h4]
    rfl
  · rw [if_neg (fun q => h3 ((eqN (by omega) (by omega)).mp q)), if_neg (fun q => h3 ((eqN (by omega) (by omega)).mp q)), if_neg h3]
    obtain ⟨τ', h1, h2, h4⟩ := tailP t0 h.ok' r
    refine Res.of ⟨τ', h1, h2, ?_⟩
    rw [h4]
theorem mask_ne {m : Int64} {E s r : Nat} (hE : E = 2 ∨ E = 4 ∨ E = 8 ∨ E = 16 ∨ E = 32 ∨ E = 64) (hr : r < E) (h : ∀ i, i < 64 → lb m i = QM E s r i) : ¬ m = 0 := by
  intro h0
  subst h0
  have hm : (E - r) % E < E := Nat.mod_lt _ (by omega)
  have h1 := h ((E - r) % E) (by omega)
  rw [lb_0] at h1
  unfold QM at h1
  have h2 : ((E - r) % E % E + r) % E = 0 := by
    rcases hE with e | e | e | e | e | e <;> subst e <;> omega
  rw [h2] at h1
  simp at h1
theorem i_masks {τ : MS} {pc : Int64} (t0 : Int32) (h : Ok τ pc) : Res (F_X12_masks τ) (F_X5_masks (xm τ pc t0) (m_ins τ)) τ pc t0 := by
  have hN := fN_lt (iU (m_ins τ)) 22 1
  have hs := fN_lt (iU (m_ins τ)) 10 6
  have hr := fN_lt (iU (m_ins τ)) 16 6
  unfold F_X12_masks F_X12_masks_c5 F_X5_masks F_X5_mask
  rw [width_wd, fL_22_22, Option.bind_some, fL_15_10, Option.bind_some, kk _ hN _ hs, kx, pL_22, gL_29_2]
  have hNb : fN (iU (m_ins τ)) 22 1 = ((iU (m_ins τ)).testBit 22).toNat := fN_1 _ _
  generalize hL : 64 * fN (iU (m_ins τ)) 22 1 + (63 - fN (iU (m_ins τ)) 10 6) = L
  have hL128 : L < 128 := by omega
  have q2 : nI L < (2 : Int32) ↔ L < 2 := nI_ltI (b := 2) (by omega) (by omega)
  by_cases h2 : L < 2
  · rw [if_pos (q2.mpr h2), if_pos rfl]
    refine Res.none h ?_ rfl
    have : L = 0 ∨ L = 1 := by omega
    rcases this with e | e <;> subst e
    · rw [hscan0]
      rfl
    · rw [show (6 : Int32) = nI 6 from rfl, hscan _ (by decide) 6 70 (by decide) (by decide) (by decide)]
      rfl
  · obtain ⟨hE, hlog, hlog1, hsh⟩ := log_cases L hL128 (by omega)
    rw [if_neg (fun z => h2 (q2.mp z)), show (6 : Int32) = nI 6 from rfl, hscan _ (by omega) 6 70 (by decide) (by decide) hL128]
    have hlogn : ¬ nI L.log2 < (1 : Int32) := fun z => by
      have := (nI_ltI (b := 1) (by omega) (by omega)).mp z
      omega
    have go : Res (F_X12_masks_c77 τ (nI (wd (wb τ))) (nI L.log2)) (if F_X5_mask_c41 (m_ins τ) (nI L) = 0 then (false, xm τ pc t0) else F_X5_masks_c22 (xm τ pc t0) (m_ins τ) (F_X5_mask_c41 (m_ins τ) (nI L)) (nI (fN (iU (m_ins τ)) 29 2))) τ pc t0 := by
      unfold F_X12_masks_c77 F_X12_masks_c82 F_X12_masks_c97 F_X5_mask_c41
      rw [hsh, fL_15_10, Option.bind_some, fL_21_16, Option.bind_some, hob L hL128 (by omega), gL_10_6, gL_16_6]
      generalize 2 ^ L.log2 = E at hE
      obtain ⟨a1, a2⟩ := andE E hE _ hs
      obtain ⟨b1, b2⟩ := andE E hE _ hr
      rw [a1, b1]
      generalize fN (iU (m_ins τ)) 10 6 % E = s at a2
      generalize fN (iU (m_ins τ)) 16 6 % E = r at b2
      have qs : nI s = nI E - (1 : Int32) ↔ s = E - 1 := by
        rw [pred_nI (by omega)]; exact eqN (by omega) (by omega)
      by_cases h3 : s = E - 1
      · rw [if_pos (qs.mpr h3), if_pos (qs.mpr h3), if_pos rfl]
        exact Res.none h rfl rfl
      · rw [if_neg (fun z => h3 (qs.mp z)), if_neg (fun z => h3 (qs.mp z))]
        have hel := el_bits hE (show s < E - 1 by omega) b2
        have hf := fill_bits (m_ins τ) hE hel
        generalize ((j_lushr (F_X1_ones (nI s + 1)) (nI r) ||| j_lshl (F_X1_ones (nI s + 1)) (nI E - nI r)) &&& F_X1_ones (nI E)) = el at hf
        generalize (if (2 : Int32) < nI E then F_X5_mask_c136_9_2 (m_ins τ) (nI E) el else F_X5_mask_c136_9_2 (m_ins τ) (nI E) (el ||| j_lshl el 2)) = m at hf
        rw [if_neg (mask_ne hE b2 hf)]
        rw [show (0 : Int32) = nI 0 from rfl, mloop (F_X1_narrow m (wb τ)) (wd_le _) hE (by omega) b2 70 0 0 (by have := wd_le (wb τ); omega) (by omega) (by
          intro i hi
          rw [lb_narrow _ _ hi, hf i hi, lb_0]
          simp)]
        exact mask_end t0 h 0 _ _ _ m
    unfold F_X12_masks_c52 F_X12_masks_c72
    rw [if_neg hlogn, oL_22]
    cases h22 : (iU (m_ins τ)).testBit 22
    · rw [iff_f, iff_f]
      exact go
    · rw [iff_t, iff_t]
      have q32 : nI (wd (wb τ)) = (32 : Int32) ↔ wb τ = false := by cases wb τ <;> decide
      cases hw : wb τ
      · rw [hw] at q32
        rw [if_pos (q32.mpr rfl), if_neg (show ¬ m_ins τ < 0 from fun z => by
          have := (neg_iff _).mp z
          unfold wb at hw
          rw [hw] at this
          cases this), if_pos rfl]
        exact Res.none h rfl rfl
      · rw [hw] at q32 go
        rw [if_neg (fun z => by cases q32.mp z), if_pos (show m_ins τ < 0 from (neg_iff _).mpr hw)]
        exact go
