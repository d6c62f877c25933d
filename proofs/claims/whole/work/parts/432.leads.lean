theorem and3_l (e : Int64) : e &&& 3 = lN (lU e % 4) := by
  apply l_ext
  intro i hi
  rw [lb_and, show (3 : Int64) = lN (2 ^ 2 - 1) from rfl, lb_lN, lb_lN, Nat.testBit_two_pow_sub_one, show (4 : Nat) = 2 ^ 2 from rfl, Nat.testBit_mod_two_pow, ← lb_tb]
  cases lb e i <;> simp [hi]
theorem lookM {τ : MS} (hm : ∀ i, iU (m_mem τ i) < 256) (k : MS → Int64 → Int32 → Int32 → Int32 → Int64 → Int64 → Bool → Option (Bool × MS)) (a : Int64) (w f d : Int32) (w6 : Int64) (w10 : Bool) {P : Nat} (hP : P < 2 ^ 62) : F_X12_leads_c112 k τ a w f d w6 w10 (lN P) = if P + 8 ≤ 65536 then F_X12_leads_c153 k τ a w f d w6 (lN (byN (m_mem τ) P 8)) w10 (nI (lU (lN (byN (m_mem τ) P 8)) % 4)) else some (false, mu_faultWhat τ (20 + d)) := by
  unfold F_X12_leads_c112 F_X12_wrong
  rw [show (65529 : Int64) = lN 65529 from rfl, isBelowG hP (by decide)]
  by_cases h : P + 8 ≤ 65536
  · have h2 : P < 65529 := by omega
    rw [if_pos (by simp [h2]), if_pos h, lN_i, show (8 : Int32) = nI 8 from rfl, mbytes hm (by decide) (by decide) h, Option.bind_some, and3_l, lN_i]
  · have h2 : ¬ P < 65529 := by omega
    rw [if_neg (by simp [h2]), if_neg h]
theorem eqL {a b : Nat} (ha : a < 2 ^ 63) (hb : b < 2 ^ 63) : lN a = lN b ↔ a = b := pk_lEQ ha hb
def Lead (τ : MS) (pc : Int64) (t0 : Int32) (a : Int64) (what frm : Nat) (o : Option (Bool × MS)) (x : Option Int64) : Prop :=
  (∃ P, P < 2 ^ 48 ∧ P % 4096 = lU a % 4096 ∧ o = some (true, scr τ (m_faultWhat τ) (lN P)) ∧ x = some (lN P)) ∨ (∃ N, N < 64 ∧ o = some (false, scr τ (nI N) a) ∧ x = some ((-1 - nI N : Int32)).toInt64)
theorem negN : ∀ N, N < 64 → ∀ k, k < 64 → N + k < 64 → (-1 : Int32) - (nI N + nI k) = -1 - nI (N + k) := by
  intro N _ k _ _
  rw [nI_add]
theorem Lead.fault {τ : MS} {pc : Int64} {t0 : Int32} {a : Int64} {what frm : Nat} {o : Option (Bool × MS)} {x : Option Int64} {n : Int32} (N : Nat) (hN : N < 64) (hn : n = nI N) (ho : o = some (false, mu_faultWhat (mu_place τ a) n)) (hx : x = some ((-1 - n : Int32)).toInt64) : Lead τ pc t0 a what frm o x := by
  subst hn
  exact Or.inr ⟨N, hN, ho, hx⟩
theorem lead_end {τ : MS} {pc : Int64} {t0 : Int32} {a e : Int64} {what frm : Nat} (hw : what < 3) (hf : frm < 2) {blk : Bool} {d s : Nat} (hd : d < 4) (hs : s = if blk = true then 21 else 12) {x : Option Int64} (hx : x = if F_X10_fault e (nI what) (nI frm) = 0 then some (lN (plc e a s)) else some ((-1 : Int32) - (F_X10_fault e (nI what) (nI frm) + nI d)).toInt64) : Lead τ pc t0 a what frm (F_X12_leads_c214 (mu_place τ a) a (nI what) (nI frm) (nI d) e blk) x := by
  rw [leads_end _ a e hw hf blk hd hs, hx]
  have hs2 : 12 ≤ s ∧ s < 48 := by subst hs; cases blk <;> decide
  rcases fault_cases e (nI what) (nI frm) with h | h | h
  · rw [h, if_pos rfl, if_pos rfl]
    exact Or.inl ⟨plc e a s, plc_lt e a hs2.2, plc_mod e a hs2.1, rfl, rfl⟩
  · rw [h, if_neg (by decide), if_neg (by decide), nI_add]
    exact Lead.fault (8 + d) (by omega) rfl rfl rfl
  · rw [h, if_neg (by decide), if_neg (by decide), nI_add]
    exact Lead.fault (12 + d) (by omega) rfl rfl rfl
theorem lead3 {τ : MS} (hm : ∀ i, iU (m_mem τ i) < 256) {pc : Int64} {t0 : Int32} {a : Int64} {what frm : Nat} (hw : what < 3) (hf : frm < 2) (n : Nat) {T : Nat} (hT : T < 2 ^ 48) (hT8 : T % 4096 = 0) (w8 : Int64) : Lead τ pc t0 a what frm (F_X12_leads_c67 (n + 2) (mu_place τ a) a (nI what) (nI frm) 3 (lN T) w8 false) (F_X10_translated_c50_7_3 (xm τ pc t0) a (nI what) (nI frm) (lN T)) := by
  rw [F_X12_leads_c67, if_neg (by decide), iff_f, if_neg (show ¬ (3 : Int32) = 2 by decide), show F_X12_bits a 20 12 = _ from bits_eq a (h := 20) (l := 12) (by decide) (by decide), Option.bind_some]
  unfold F_X12_leads_c108 F_X10_translated_c50_7_3
  have hi : lU a / 2 ^ 12 % 512 < 512 := Nat.mod_lt _ (by decide)
  have eP : lN T + 8 * lN (lU a / 2 ^ 12 % 512) = lN (T + 8 * (lU a / 2 ^ 12 % 512)) := by
    rw [show (8 : Int64) = lN 8 from rfl, lN_mul, lN_add]
  rw [show (12 : Int32) = nI 12 from rfl, idxX a (by decide), eP]
  generalize hPe : T + 8 * (lU a / 2 ^ 12 % 512) = P
  have hP : P < 2 ^ 62 := by omega
  have hP8 : P % 8 = 0 := by omega
  rw [lookM (τ := mu_place τ a) hm _ a _ _ _ _ _ hP, show (8 : Int32) = nI 8 from rfl, holdsG _ hP (by decide)]
  by_cases h : P + 8 ≤ 65536
  · rw [if_pos h, if_pos (by simp [h]), xread hm pc t0 (by decide) (by decide) h (by omega), Option.bind_some]
    show Lead τ pc t0 a what frm (F_X12_leads_c153 _ (mu_place τ a) a (nI what) (nI frm) 3 (lN T) (lN (byN (m_mem τ) P 8)) false (nI (lU (lN (byN (m_mem τ) P 8)) % 4))) _
    generalize lN (byN (m_mem τ) P 8) = e
    unfold F_X12_leads_c153 F_X12_leads_c171 F_X12_leads_c203 F_X10_translated_c122_7_3_8_12 F_X12_wrong
    rw [and3_l]
    have h4 : lU e % 4 < 4 := Nat.mod_lt _ (by decide)
    rw [if_neg (show ¬ (3 : Int32) = 2 by decide)]
    have q3 : nI (lU e % 4) = (3 : Int32) ↔ lU e % 4 = 3 := eqN (n := 3) (by omega) (by omega)
    have x3 : lN (lU e % 4) = (3 : Int32).toInt64 ↔ lU e % 4 = 3 := eqL (b := 3) (by omega) (by omega)
    rw [show (if nI (lU e % 4) = (1 : Int32) then (if nI (lU e % 4) = (3 : Int32) then (F_X12_bits e 47 12).bind fun v9 => F_X12_leads_c67 (n + 1) (mu_place τ a) a (nI what) (nI frm) (3 + 1) (j_lshl v9 12) e false else some ((false, mu_faultWhat (mu_place τ a) (4 + 3)).1, (false, mu_faultWhat (mu_place τ a) (4 + 3)).2)) else (if nI (lU e % 4) = (3 : Int32) then (F_X12_bits e 47 12).bind fun v9 => F_X12_leads_c67 (n + 1) (mu_place τ a) a (nI what) (nI frm) (3 + 1) (j_lshl v9 12) e false else some ((false, mu_faultWhat (mu_place τ a) (4 + 3)).1, (false, mu_faultWhat (mu_place τ a) (4 + 3)).2))) = (if nI (lU e % 4) = (3 : Int32) then (F_X12_bits e 47 12).bind fun v9 => F_X12_leads_c67 (n + 1) (mu_place τ a) a (nI what) (nI frm) (3 + 1) (j_lshl v9 12) e false else some ((false, mu_faultWhat (mu_place τ a) (4 + 3)).1, (false, mu_faultWhat (mu_place τ a) (4 + 3)).2)) from by split <;> rfl]
    by_cases h3 : lU e % 4 = 3
    · rw [if_pos (q3.mpr h3), if_pos (x3.mpr h3)]
      obtain ⟨v, hv, -⟩ := frameB e
      rw [hv, Option.bind_some, F_X12_leads_c67, if_pos (by decide)]
      unfold F_X12_leads_c206
      rw [iff_f]
      refine lead_end (d := 3) (s := 12) hw hf (by decide) rfl ?_
      rw [show (12 : Int32) = nI 12 from rfl, plcX e a (by decide) (by decide)]
      rfl
    · rw [if_neg (fun q => h3 (q3.mp q)), if_neg (fun q => h3 (x3.mp q))]
      exact Lead.fault 7 (by decide) rfl rfl (by split <;> rfl)
  · rw [if_neg h, if_neg (by simp [h])]
    exact Lead.fault 23 (by decide) rfl rfl rfl
theorem leads_on {τ : MS} (hI : Inv τ) (pc : Int64) (t0 : Int32) (a : Int64) {what frm : Nat} (hw : what < 3) (hf : frm < 2) (hon : lb (m_state τ 3) 0 = true) : Lead τ pc t0 a what frm (F_X12_leads τ a (nI what) (nI frm)) (F_X10_translated (xm τ pc t0) a (nI what) (nI frm)) := by
  have hm := hI.2.2.2.2
  unfold F_X12_leads F_X10_translated
  show Lead τ pc t0 a what frm (if F_X12_bit (m_state τ 3) 0 = true then (F_X12_bits a 63 30).bind fun v1 => if v1 = 0 then (F_X12_bits (m_state τ 4) 47 12).bind fun v2 => F_X12_leads_c67 70 (mu_place τ a) a (nI what) (nI frm) 2 (j_lshl v2 12) 0 false else _ else _) _
  rw [show F_X12_bit (m_state τ 3) 0 = lb (m_state τ 3) 0 from bit_eq _ (k := 0) (by decide), hon, iff_t, top30, Option.bind_some]
  by_cases h30 : j_lushr a 30 = 0
  · rw [if_pos h30, if_pos h30, show (35 : Int32) = nI (31 + 4) from rfl, part_eq _ (by decide), xP_st _ _ _ (by decide) (by decide), frame_eq]
    obtain ⟨v, hv, hv2⟩ := frameB (m_state τ 4)
    rw [hv, Option.bind_some, hv2]
    have hT := FR_lt (m_state τ 4)
    have hT8 : FR (m_state τ 4) % 4096 = 0 := by unfold FR; omega
    generalize FR (m_state τ 4) = T at hT hT8
    rw [F_X12_leads_c67, if_neg (by decide), iff_f, if_pos rfl, show F_X12_bits a 29 21 = _ from bits_eq a (h := 29) (l := 21) (by decide) (by decide), Option.bind_some]
    unfold F_X12_leads_c108 F_X10_translated_c50_7_2
    have hi : lU a / 2 ^ 21 % 512 < 512 := Nat.mod_lt _ (by decide)
    have eP : lN T + 8 * lN (lU a / 2 ^ 21 % 512) = lN (T + 8 * (lU a / 2 ^ 21 % 512)) := by
      rw [show (8 : Int64) = lN 8 from rfl, lN_mul, lN_add]
    rw [show (21 : Int32) = nI 21 from rfl, idxX a (by decide), eP]
    generalize hPe : T + 8 * (lU a / 2 ^ 21 % 512) = P
    have hP : P < 2 ^ 62 := by omega
    have hP8 : P % 8 = 0 := by omega
    rw [lookM (τ := mu_place τ a) hm _ a _ _ _ _ _ hP, show (8 : Int32) = nI 8 from rfl, holdsG _ hP (by decide)]
    by_cases h : P + 8 ≤ 65536
    · rw [if_pos h, if_pos (by simp [h]), xread hm pc t0 (by decide) (by decide) h (by omega), Option.bind_some]
      show Lead τ pc t0 a what frm (F_X12_leads_c153 _ (mu_place τ a) a (nI what) (nI frm) 2 (lN T) (lN (byN (m_mem τ) P 8)) false (nI (lU (lN (byN (m_mem τ) P 8)) % 4))) _
      generalize lN (byN (m_mem τ) P 8) = e
      unfold F_X12_leads_c153 F_X12_leads_c171 F_X12_leads_c203 F_X10_translated_c122_7_2_8_21 F_X12_wrong
      rw [and3_l]
      have h4 : lU e % 4 < 4 := Nat.mod_lt _ (by decide)
      rw [if_pos (show (2 : Int32) = 2 from rfl)]
      have q1 : nI (lU e % 4) = (1 : Int32) ↔ lU e % 4 = 1 := eqN (n := 1) (by omega) (by omega)
      have x1 : lN (lU e % 4) = (1 : Int32).toInt64 ↔ lU e % 4 = 1 := eqL (b := 1) (by omega) (by omega)
      have q3 : nI (lU e % 4) = (3 : Int32) ↔ lU e % 4 = 3 := eqN (n := 3) (by omega) (by omega)
      have x3 : lN (lU e % 4) = (3 : Int64) ↔ lU e % 4 = 3 := eqL (b := 3) (by omega) (by omega)
      by_cases h1 : lU e % 4 = 1
      · rw [if_pos (q1.mpr h1), if_pos (x1.mpr h1), F_X12_leads_c67, if_neg (by decide), iff_t]
        unfold F_X12_leads_c206
        rw [iff_t]
        refine lead_end (d := 2) (s := 21) hw hf (by decide) rfl ?_
        rw [show (21 : Int32) = nI 21 from rfl, plcX e a (by decide) (by decide)]
        rfl
      · rw [if_neg (fun q => h1 (q1.mp q)), if_neg (fun q => h1 (x1.mp q))]
        by_cases h3 : lU e % 4 = 3
        · rw [if_pos (q3.mpr h3), if_pos (x3.mpr h3), frame_eq]
          obtain ⟨v, hv, hv2⟩ := frameB e
          rw [hv, Option.bind_some, hv2]
          exact lead3 hm hw hf 67 (FR_lt e) (by unfold FR; omega) _
        · rw [if_neg (fun q => h3 (q3.mp q)), if_neg (fun q => h3 (x3.mp q))]
          exact Lead.fault 6 (by decide) rfl rfl rfl
    · rw [if_neg h, if_neg (by simp [h])]
      exact Lead.fault 22 (by decide) rfl rfl rfl
  · rw [if_neg h30, if_neg h30]
    exact Lead.fault 6 (by decide) rfl rfl rfl
theorem leads_off {τ : MS} (a : Int64) (w f : Int32) (hoff : lb (m_state τ 3) 0 = false) : F_X12_leads τ a w f = some (true, scr τ (m_faultWhat τ) a) := by
  unfold F_X12_leads
  show (if F_X12_bit (m_state τ 3) 0 = true then _ else some (true, mu_place τ a)) = _
  rw [show F_X12_bit (m_state τ 3) 0 = lb (m_state τ 3) 0 from bit_eq _ (k := 0) (by decide), hoff, iff_f]
  rfl
