theorem lneg_iff (x : Int64) : x < 0 ↔ lb x 63 = true := by
  rw [Int64.lt_iff_toBitVec_slt]
  show x.toBitVec.slt 0#64 = true ↔ _
  rw [BitVec.slt_zero_eq_msb, BitVec.msb_eq_getLsbD_last]
  rfl
theorem lb_top (x : Int64) : lb x 63 = decide (2 ^ 63 ≤ lU x) := by
  have h := lU_lt x
  rw [lb_tb, Nat.testBit_eq_decide_div_mod_eq]
  congr 1
  apply propext
  omega
theorem holdsA (σ : XS) (a : Int64) {n : Nat} (hn : n ≤ 8) (hn1 : 1 ≤ n) : F_X4_holds σ a (nI n) = decide (lU a + n ≤ 65536) := by
  by_cases h : 2 ^ 63 ≤ lU a
  · unfold F_X4_holds
    rw [if_pos ((lneg_iff a).mpr (by rw [lb_top]; simp [h]))]
    have : ¬ lU a + n ≤ 65536 := by omega
    simp [this]
  · unfold F_X4_holds
    rw [if_neg (fun q => by rw [lneg_iff, lb_top] at q; simp at q; omega), show (65536 : Int32) = nI 65536 from rfl, pk_sub (by omega), nI_toL (by omega)]
    have q := pk_lLT (a := 65536 - n) (b := lU a) (by omega) (by omega)
    rw [lN_lU] at q
    by_cases h2 : lU a + n ≤ 65536
    · rw [if_neg (fun x => by have := q.mp x; omega)]; simp [h2]
    · rw [if_pos (q.mpr (by omega))]; simp [h2]
theorem isBelowA (a : Int64) {L : Nat} (hL : L < 2 ^ 62) : F_X12_isBelow a (lN L) = decide (lU a < L) := by
  by_cases h : 2 ^ 63 ≤ lU a
  · unfold F_X12_isBelow
    rw [if_pos ((lneg_iff a).mpr (by rw [lb_top]; simp [h]))]
    have : ¬ lU a < L := by omega
    simp [this]
  · unfold F_X12_isBelow
    rw [if_neg (fun q => by rw [lneg_iff, lb_top] at q; simp at q; omega)]
    have q := pk_lLT (a := lU a) (b := L) (by omega) (by omega)
    rw [lN_lU] at q
    by_cases h2 : lU a < L
    · rw [if_neg (fun x => by have := Int64.not_le.mpr (q.mpr h2); exact this x)]; simp [h2]
    · rw [if_pos (Int64.not_lt.mp (fun x => h2 (q.mp x)))]; simp [h2]
theorem insideA (τ : MS) {n : Nat} (hn : n ≤ 8) (hn1 : 1 ≤ n) : F_X12_inside τ (nI n) = if lU (m_place τ) + n ≤ 65536 then (true, τ) else (false, mu_faultWhat τ 16) := by
  unfold F_X12_inside F_X12_wrong
  rw [show (65536 : Int32) = nI 65536 from rfl, pk_sub (by omega), nI_toL (by omega), show (1 : Int64) = lN 1 from rfl, lN_add, isBelowA _ (by omega)]
  by_cases h : lU (m_place τ) + n ≤ 65536
  · have h2 : lU (m_place τ) < 65536 - n + 1 := by omega
    rw [if_pos (by simp [h2]), if_pos h]
  · have h2 : ¬ lU (m_place τ) < 65536 - n + 1 := by omega
    rw [if_neg (by simp [h2]), if_neg h]
theorem al_mask (a : Int64) {z : Nat} (hz : z < 4) : a &&& lN (2 ^ z - 1) = lN (lU a % 2 ^ z) := by
  apply l_ext
  intro i hi
  rw [lb_and, lb_lN, lb_lN, Nat.testBit_two_pow_sub_one, Nat.testBit_mod_two_pow, ← lb_tb]
  cases lb a i <;> simp [hi]
theorem al_x : ∀ z, z < 4 → (nI (2 ^ z) - (1 : Int32)).toInt64 = lN (2 ^ z - 1) := by decide
theorem al_m : ∀ z, z < 4 → (nI (2 ^ z)).toInt64 - (1 : Int64) = lN (2 ^ z - 1) := by decide
theorem al_0 (a : Int64) {z : Nat} (hz : z < 4) : a &&& lN (2 ^ z - 1) = 0 ↔ lU a % 2 ^ z = 0 := by
  rw [al_mask a hz]
  have h1 : lU a % 2 ^ z < 2 ^ z := Nat.mod_lt _ (Nat.pos_of_ne_zero (by simp))
  have h2 : 2 ^ z < 2 ^ 63 := Nat.pow_lt_pow_right (by decide) (by omega)
  exact eqL (b := 0) (by omega) (by decide)
theorem negfault : ∀ N, N < 64 → ¬ (0 : Int32) ≤ -1 - nI N ∧ ((-1 - nI N : Int32).toInt64).toInt32 = -1 - nI N ∧ ¬ (0 : Int64) ≤ (-1 - nI N : Int32).toInt64 ∧ (-1 : Int32) - (-1 - nI N) = nI N := by decide
def mfind (τ : MS) (a : Int64) (n w f : Int32) : Option (Bool × MS) := (F_X12_leads τ a w f).bind fun v1 => if v1.1 = true then (if (F_X12_inside v1.2 n).1 = true then some (true, (F_X12_inside v1.2 n).2) else some (false, (F_X12_inside v1.2 n).2)) else some (false, v1.2)
def Found (τ : MS) (n : Nat) (o : Option (Bool × MS)) (x : Option Int32) : Prop :=
  (∃ P, P + n ≤ 65536 ∧ P % n = 0 ∧ o = some (true, scr τ (m_faultWhat τ) (lN P)) ∧ x = some (nI P)) ∨ (∃ N p, N < 64 ∧ o = some (false, scr τ (nI N) p) ∧ x = some (-1 - nI N))
theorem pw_cases {z : Nat} (hz : z < 4) : 2 ^ z = 1 ∨ 2 ^ z = 2 ∨ 2 ^ z = 4 ∨ 2 ^ z = 8 := by
  have : z = 0 ∨ z = 1 ∨ z = 2 ∨ z = 3 := by omega
  rcases this with h | h | h | h <;> subst h <;> decide
theorem Found.tail {τ : MS} {pc : Int64} {t0 : Int32} {n : Nat} (hn : n = 1 ∨ n = 2 ∨ n = 4 ∨ n = 8) {a p : Int64} {w f : Int32} (ha : lU p % n = 0) : Found τ n ((some (true, scr τ (m_faultWhat τ) p)).bind fun v1 => if v1.1 = true then (if (F_X12_inside v1.2 (nI n)).1 = true then some (true, (F_X12_inside v1.2 (nI n)).2) else some (false, (F_X12_inside v1.2 (nI n)).2)) else some (false, v1.2)) (F_X10_find_c55 (xm τ pc t0) a (nI n) w f p) := by
  rw [Option.bind_some]
  dsimp only
  unfold F_X10_find_c55
  have h8 : n ≤ 8 := by omega
  have h1 : 1 ≤ n := by omega
  have hin : F_X12_inside (scr τ (m_faultWhat τ) p) (nI n) = if lU p + n ≤ 65536 then (true, scr τ (m_faultWhat τ) p) else (false, mu_faultWhat (scr τ (m_faultWhat τ) p) 16) := insideA (scr τ (m_faultWhat τ) p) h8 h1
  rw [iff_t, hin, holdsA _ _ h8 h1]
  by_cases h : lU p + n ≤ 65536
  · rw [if_pos h, iff_t, if_pos (show decide (lU p + n ≤ 65536) = true from decide_eq_true h)]
    refine Or.inl ⟨lU p, h, ha, by rw [lN_lU], ?_⟩
    rw [show p.toInt32 = (lN (lU p)).toInt32 from by rw [lN_lU], lN_i]
  · rw [if_neg h, iff_f, if_neg (show ¬ decide (lU p + n ≤ 65536) = true from fun q => h (of_decide_eq_true q))]
    exact Or.inr ⟨16, p, by decide, rfl, rfl⟩
theorem find_spec {τ : MS} (hI : Inv τ) (pc : Int64) (t0 : Int32) (a : Int64) {z what frm : Nat} (hz : z < 4) (hw : what < 3) (hf : frm < 2) (ha : lU a % 2 ^ z = 0) : Found τ (2 ^ z) (mfind τ a (nI (2 ^ z)) (nI what) (nI frm)) (F_X10_find (xm τ pc t0) a (nI (2 ^ z)) (nI what) (nI frm)) := by
  unfold mfind F_X10_find
  rw [al_x z hz, if_pos ((al_0 a hz).mpr ha), show (34 : Int32) = nI (31 + 3) from rfl, part_eq _ (by decide), xP_st _ _ _ (by decide) (by decide), and1_l]
  cases h : lb (m_state τ 3) 0
  · rw [leads_off _ _ _ h, if_pos (by rfl)]
    exact Found.tail (pw_cases hz) ha
  · rw [if_neg (by decide)]
    rcases leads_on hI pc t0 a hw hf h with ⟨P, hP, hP2, ho, hx⟩ | ⟨N, hN, ho, hx⟩
    · rw [ho, hx]
      rw [Option.bind_some (a := lN P), if_pos (Int64.not_lt.mp (l_lt0 (by omega)))]
      refine Found.tail (pw_cases hz) ?_
      rw [lU_lN]
      rcases pw_cases hz with e | e | e | e <;> rw [e] at ha ⊢ <;> omega
    · rw [ho, hx]
      have q := negfault N hN
      rw [Option.bind_some, Option.bind_some]
      dsimp only
      rw [iff_f, if_neg q.2.2.1, q.2.1]
      exact Or.inr ⟨N, a, hN, rfl, rfl⟩
theorem find_crooked (σ : XS) (a : Int64) {z : Nat} (hz : z < 4) (w f : Int32) (ha : ¬ lU a % 2 ^ z = 0) : F_X10_find σ a (nI (2 ^ z)) w f = some (-34) := by
  unfold F_X10_find
  rw [al_x z hz, if_neg (fun q => ha ((al_0 a hz).mp q))]
