theorem fN_lt (w p c : Nat) : fN w p c < 2 ^ c := Nat.mod_lt _ (Nat.pos_of_ne_zero (by simp))
def rg (τ : MS) (k : Nat) : Int64 := if k = 31 then 0 else m_x τ k
def rp (τ : MS) (k : Nat) : Int64 := if k = 31 then m_state τ (ptr τ) else m_x τ k
theorem xreg (τ : MS) (pc : Int64) (t0 : Int32) {k : Nat} (hk : k < 32) : F_X8_register (xm τ pc t0) (nI k) = rg τ k := by
  unfold F_X8_register rg
  by_cases h : k = 31
  · rw [if_pos ((eq31 (by omega)).mpr h), if_pos h]
  · rw [if_neg (fun q => h ((eq31 (by omega)).mp q)), if_neg h, part_eq _ (by omega)]
    simp [xm, xP, vp_updL, pOf]
    have h1 : k < 31 := by omega
    have h2 : k ≠ 33 := by omega
    simp [h1, h2]
theorem mreg (τ : MS) {k : Nat} (hk : k < 32) : F_X12_reg τ (nI k) = some (rg τ k) := by
  rw [reg_eq τ 0 0 hk, xreg τ 0 0 hk]
theorem xregP {τ : MS} (hI : Inv τ) (pc : Int64) (t0 : Int32) {k : Nat} (hk : k < 32) : F_X8_registerOrStack (xm τ pc t0) (nI k) = rp τ k := by
  unfold F_X8_registerOrStack F_X8_registerOrStack_c15 rp
  have hp := ptr_lt τ
  by_cases h : k = 31
  · rw [if_pos ((eq31 (by omega)).mpr h), if_pos h, stack_eq hI, part_eq _ (by omega), xP_st _ _ _ (by omega) (by omega)]
  · rw [if_neg (fun q => h ((eq31 (by omega)).mp q)), if_neg h, part_eq _ (by omega)]
    simp [xm, xP, vp_updL, pOf]
    have h1 : k < 31 := by omega
    have h2 : k ≠ 33 := by omega
    simp [h1, h2]
theorem mregP {τ : MS} (hI : Inv τ) {k : Nat} (hk : k < 32) : F_X12_regOrPointer τ (nI k) = some (rp τ k) := by
  rw [regP_eq hI 0 0 hk, xregP hI 0 0 hk]
def wb (τ : MS) : Bool := (iU (m_ins τ)).testBit 31
theorem width_wd (τ : MS) : F_X12_width τ = nI (wd (wb τ)) := by
  rw [width_eq]
  unfold wb wd
  cases (iU (m_ins τ)).testBit 31 <;> rfl
theorem xwidth (b : Bool) : F_X1_width b = nI (wd b) := by cases b <;> rfl
theorem wd_cases (b : Bool) : wd b = 32 ∨ wd b = 64 := by cases b <;> decide
theorem wd_le (b : Bool) : wd b ≤ 64 := by cases b <;> decide
theorem wd_ge (b : Bool) : 32 ≤ wd b := by cases b <;> decide
theorem cut_eq (v : Int64) (b : Bool) : F_X12_cut v (nI (wd b)) = F_X1_narrow v b := by
  unfold F_X12_cut F_X1_narrow
  cases b
  · rfl
  · rfl
theorem pos_wb {α : Type} (τ : MS) (f : Bool → α) : (if 0 ≤ m_ins τ then f false else f true) = f (wb τ) := by
  unfold wb
  cases h : (iU (m_ins τ)).testBit 31
  · rw [if_pos ((nneg_iff _).mpr h)]
  · rw [if_neg (fun q => by rw [(nneg_iff _).mp q] at h; cases h)]
theorem xleft (τ : MS) (pc : Int64) (t0 : Int32) : F_X7_left (xm τ pc t0) (m_ins τ) = F_X1_narrow (rg τ (fN (iU (m_ins τ)) 5 5)) (wb τ) := by
  unfold F_X7_left F_X7_left_c22
  rw [gL_5_5, xreg _ _ _ (fN_lt _ _ _)]
  exact pos_wb τ (fun b => F_X1_narrow (rg τ (fN (iU (m_ins τ)) 5 5)) b)
theorem xright (τ : MS) (pc : Int64) (t0 : Int32) : F_X7_right (xm τ pc t0) (m_ins τ) = F_X1_narrow (rg τ (fN (iU (m_ins τ)) 16 5)) (wb τ) := by
  unfold F_X7_right F_X7_right_c23
  rw [gL_16_5, xreg _ _ _ (fN_lt _ _ _)]
  exact pos_wb τ (fun b => F_X1_narrow (rg τ (fN (iU (m_ins τ)) 16 5)) b)
theorem xput (τ : MS) (pc : Int64) (t0 : Int32) {i : Int32} (hi : i = m_ins τ) (v : Int64) : F_X7_put (xm τ pc t0) i v = (true, xm (putR τ (fN (iU (m_ins τ)) 0 5) (F_X1_narrow v (wb τ))) pc t0) := by
  subst hi
  unfold F_X7_put F_X7_put_c20 F_X7_put_c26
  rw [gL_0_5, xputR _ _ _ (fN_lt _ _ _), xputR _ _ _ (fN_lt _ _ _)]
  exact pos_wb τ (fun b => (true, xm (putR τ (fN (iU (m_ins τ)) 0 5) (F_X1_narrow v b)) pc t0))
theorem narrow_idem (v : Int64) (b : Bool) : F_X1_narrow (F_X1_narrow v b) b = F_X1_narrow v b := by
  apply l_ext
  intro i hi
  rw [lb_narrow _ _ hi, lb_narrow _ _ hi]
  cases decide (i < wd b) <;> simp
theorem lb_m1 {i : Nat} (hi : i < 64) : lb (-1) i = true := by
  show lb (lN (2 ^ 64 - 1)) i = _
  rw [lb_lN, Nat.testBit_two_pow_sub_one]
  simp [hi]
theorem narrow_not (v : Int64) (b : Bool) : F_X1_narrow (F_X1_narrow v b ^^^ (-1)) b = F_X1_narrow (v ^^^ (-1)) b := by
  apply l_ext
  intro i hi
  rw [lb_narrow _ _ hi, lb_narrow _ _ hi, lb_xor, lb_xor, lb_narrow _ _ hi]
  cases decide (i < wd b) <;> simp
theorem lU_ushr1 (x : Int64) {k : Nat} (hk : k < 64) : (j_lushr x (nI k)) &&& 1 = lN ((lb x k).toNat) := by
  apply l_ext
  intro i hi
  rw [lb_and, lb_ushr, s6_nI hk, lb_lN]
  rw [show (1 : Int64) = lN 1 from rfl, lb_lN]
  by_cases h : i = 0
  · subst h
    simp
    cases lb x k <;> simp
  · have h1 : (1 : Nat).testBit i = false := by
      rw [show (1 : Nat) = 2 ^ 0 from rfl, Nat.testBit_two_pow]
      simp; omega
    have h2 : ((lb x k).toNat).testBit i = false := by
      cases lb x k
      · simp
      · exact h1
    simp [h1, h2]
def fl4 (n z c v : Bool) : Nat := 8 * n.toNat + 4 * z.toNat + 2 * c.toNat + v.toNat
theorem fl4_lt (n z c v : Bool) : fl4 n z c v < 16 := by cases n <;> cases z <;> cases c <;> cases v <;> decide
theorem fl4_x (n z c v : Bool) : ((((j_lshl (lN n.toNat) 3) ||| (if z = true then (4 : Int32).toInt64 else (0 : Int32).toInt64)) ||| j_lshl (lN c.toNat) 1) ||| lN v.toNat) &&& 15 = (nI (fl4 n z c v)).toInt64 := by
  cases n <;> cases z <;> cases c <;> cases v <;> decide
theorem fl4_x0 (n z : Bool) : ((j_lshl (lN n.toNat) 3) ||| (if z = true then (4 : Int32).toInt64 else (0 : Int32).toInt64)) &&& 15 = (nI (fl4 n z false false)).toInt64 := by
  cases n <;> cases z <;> decide
theorem saz_eq (r : Int64) (b : Bool) : F_X9_signAndZero r b = (j_lshl (lN (lb r (wd b - 1)).toNat) 3) ||| (if decide (r = 0) = true then (4 : Int32).toInt64 else (0 : Int32).toInt64) := by
  unfold F_X9_signAndZero
  rw [xwidth, pred_nI (by have := wd_ge b; omega), lU_ushr1 _ (by have := wd_le b; omega)]
  by_cases h : r = 0 <;> simp [h]
theorem signs_eq (τ : MS) (r : Int64) (b c v : Bool) : F_X12_signs τ r (nI (wd b)) (nI c.toNat) (nI v.toNat) = mu_flags τ (nI (fl4 (lb r (wd b - 1)) (decide (r = 0)) c v)) := by
  unfold F_X12_signs F_X12_signs_c17 F_X12_signs_c26
  rw [pred_nI (by have := wd_ge b; omega), bit_eq _ (by have := wd_le b; omega)]
  by_cases h : r = 0
  · simp only [h, if_true, decide_true]
    cases lb 0 (wd b - 1) <;> cases c <;> cases v <;> rfl
  · simp only [h, if_false, decide_false]
    cases lb r (wd b - 1) <;> cases c <;> cases v <;> rfl
theorem xm_flags (τ : MS) (pc : Int64) (t0 : Int32) (v : Int32) : xuP (xm τ pc t0) (vp_updL (xP (xm τ pc t0)) 42 v.toInt64) = xm (mu_flags τ v) pc t0 := by
  show (cOf (m_mem τ), vp_updL (vp_updL (pOf τ) 33 pc) 42 v.toInt64, m_asked τ, nxt τ pc, t0 + m_taken τ, m_ins τ) = _
  rw [updL_comm (by omega), ← pOf_flags τ]
  rfl
theorem xset_flags (τ : MS) (pc : Int64) (t0 : Int32) {e : Int64} {f : Nat} (h : e &&& 15 = (nI f).toInt64) : F_X8_putPart (xm τ pc t0) 42 e = (true, xm (mu_flags τ (nI f)) pc t0) := by
  rw [show (42 : Int32) = nI 42 from rfl, putPart_eq _ (by decide), if_pos rfl, h, xm_flags]
theorem Inv_flags {τ : MS} (hI : Inv τ) {f : Nat} (hf : f < 16) : Inv (mu_flags τ (nI f)) := ⟨⟨f, hf, rfl⟩, hI.2⟩
def flg (a b : Int64) (c wide : Bool) : Nat := fl4 (lb (F_X1_narrow (a + b + lN c.toNat) wide) (wd wide - 1)) (decide (F_X1_narrow (a + b + lN c.toNat) wide = 0)) (cyb a b c (wd wide)) (cyb a b c (wd wide) ^^ cyb a b c (wd wide - 1))
theorem xor_nb (p q : Bool) : nI p.toNat ^^^ nI q.toNat = nI (p ^^ q).toNat := by cases p <;> cases q <;> decide
theorem zB_l (b : Bool) : (zB b).toInt64 = lN b.toNat := by cases b <;> decide
theorem xsum_eq (τ : MS) (pc : Int64) (t0 : Int32) (l r : Int64) (minus wide fl : Bool) : F_X9_sum (xm τ pc t0) l r minus wide fl = (F_X1_narrow (F_X1_narrow l wide + F_X1_narrow (if minus = true then r ^^^ (-1) else r) wide + lN minus.toNat) wide, xm (if fl = true then mu_flags τ (nI (flg (F_X1_narrow l wide) (F_X1_narrow (if minus = true then r ^^^ (-1) else r) wide) minus wide)) else τ) pc t0) := by
  have key : ∀ a b : Int64, F_X9_sum_c53 (xm τ pc t0) l r minus wide fl a b (F_X1_narrow (a + b + lN minus.toNat) wide) = (F_X1_narrow (a + b + lN minus.toNat) wide, xm (if fl = true then mu_flags τ (nI (flg a b minus wide)) else τ) pc t0) := by
    intro a b
    unfold F_X9_sum_c53
    cases fl
    · rfl
    · rw [if_pos rfl]
      unfold F_X9_sum_c67 F_X9_sum_c134
      have h1 := wd_ge wide
      have h2 := wd_le wide
      rw [xwidth, pred_nI (by omega), lU_ushr1 _ (by omega), lU_ushr1 _ (by omega), saz_eq]
      have hr : lb (F_X1_narrow (a + b + lN minus.toNat) wide) (wd wide - 1) = (lb a (wd wide - 1) ^^ (lb b (wd wide - 1) ^^ cyb a b minus (wd wide - 1))) := by
        rw [lb_narrow _ _ (by omega), lb_addc _ _ _ (by omega)]
        have : wd wide - 1 < wd wide := by omega
        simp [this]
      have hc := cyb_s a b minus (wd wide - 1)
      rw [show wd wide - 1 + 1 = wd wide from by omega] at hc
      have hC : lb ((a &&& b) ||| ((a ||| b) &&& (F_X1_narrow (a + b + lN minus.toNat) wide ^^^ (-1)))) (wd wide - 1) = cyb a b minus (wd wide) := by
        rw [lb_or, lb_and, lb_and, lb_or, lb_xor, lb_m1 (by omega), hr, hc]
        cases lb a (wd wide - 1) <;> cases lb b (wd wide - 1) <;> cases cyb a b minus (wd wide - 1) <;> rfl
      have hV : lb ((a ^^^ F_X1_narrow (a + b + lN minus.toNat) wide) &&& (b ^^^ F_X1_narrow (a + b + lN minus.toNat) wide)) (wd wide - 1) = (cyb a b minus (wd wide) ^^ cyb a b minus (wd wide - 1)) := by
        rw [lb_and, lb_xor, lb_xor, hr, hc]
        cases lb a (wd wide - 1) <;> cases lb b (wd wide - 1) <;> cases cyb a b minus (wd wide - 1) <;> rfl
      rw [hC, hV, xset_flags τ pc t0 (fl4_x _ _ _ _)]
      rfl
  unfold F_X9_sum F_X9_sum_c8
  cases minus
  · rw [if_neg (by decide), if_neg (by decide)]
    unfold F_X9_sum_c22 F_X9_sum_c29
    rw [if_neg (by decide)]
    unfold F_X9_sum_c44
    rw [zB_l]
    exact key _ _
  · rw [if_pos rfl, if_pos rfl]
    unfold F_X9_sum_c22 F_X9_sum_c29
    rw [if_pos rfl]
    unfold F_X9_sum_c44
    rw [zB_l]
    exact key _ _
