theorem pOf_flags (τ : MS) (v : Int32) : pOf (mu_flags τ v) = vp_updL (pOf τ) 42 v.toInt64 := by
  funext j
  simp only [pOf, vp_updL, mu_flags, m_x, m_state, m_flags, m_level, m_select, m_masked]
  by_cases h : j = 42
  · subst h; simp
  · simp [h]
theorem pOf_level (τ : MS) (v : Int32) : pOf (mu_level τ v) = vp_updL (pOf τ) 43 v.toInt64 := by
  funext j
  simp only [pOf, vp_updL, mu_level, m_x, m_state, m_flags, m_level, m_select, m_masked]
  by_cases h : j = 43
  · subst h; simp
  · simp [h]
theorem pOf_select (τ : MS) (v : Int32) : pOf (mu_select τ v) = vp_updL (pOf τ) 44 v.toInt64 := by
  funext j
  simp only [pOf, vp_updL, mu_select, m_x, m_state, m_flags, m_level, m_select, m_masked]
  by_cases h : j = 44
  · subst h; simp
  · simp [h]
theorem pOf_masked (τ : MS) (v : Int32) : pOf (mu_masked τ v) = vp_updL (pOf τ) 45 v.toInt64 := by
  funext j
  simp only [pOf, vp_updL, mu_masked, m_x, m_state, m_flags, m_level, m_select, m_masked]
  by_cases h : j = 45
  · subst h; simp
  · simp [h]
theorem spsr_or : ∀ f, f < 16 → ∀ m s : Bool, ((j_lshl (nI f).toInt64 28 ||| j_lshl (zB m).toInt64 7) ||| (4 + (zB s).toInt64)) = (j_lshl (nI f).toInt64 28 ||| j_lshl (zB m).toInt64 7) + (4 + (zB s).toInt64) := by decide
theorem or_zero (x : Int64) : x ||| 0 = x := by
  apply l_ext
  intro i hi
  rw [lb_or, lb_0]; simp
/-- the state that an exception leaves, as one update -/
def spsrOf (τ : MS) : Int64 := if m_level τ = 1 then (j_lshl (m_flags τ).toInt64 28 ||| j_lshl (m_masked τ).toInt64 7) + (4 + (m_select τ).toInt64) else (j_lshl (m_flags τ).toInt64 28 ||| j_lshl (m_masked τ).toInt64 7)
def vec1 (τ : MS) : Int64 := if m_level τ = 0 then (m_state τ 5 &&& (-2048)) + 1024 else if m_select τ = 1 then (m_state τ 5 &&& (-2048)) + 512 else m_state τ 5 &&& (-2048)
def vecOf (τ : MS) (asked : Bool) : Int64 := if asked = true then vec1 τ + 128 else vec1 τ
def ent (τ : MS) (back : Int64) (asked : Bool) : MS :=
  (m_mem τ, m_x τ, vp_updL (vp_updL (vp_updL (m_state τ) 7 (spsrOf τ)) 6 back) 2 (vecOf τ asked), m_flags τ, 1, 1, 1, true, m_faultWhat τ, m_place τ, m_taken τ + 1, m_carry τ, m_over τ, m_ins τ, m_asked τ, m_thrownCode τ)
theorem enters_eq {τ : MS} (hI : Inv τ) (back : Int64) (asked : Bool) : F_X12_enters τ back asked = ent τ back asked := by
  obtain ⟨-, ⟨b1, h1⟩, ⟨b2, h2⟩, -⟩ := hI
  obtain ⟨mem, x, st, fl, lv, se, ma, ca, fw, plc, tk, cr, ov, ins, ask, th⟩ := τ
  dsimp only [m_level, m_select] at h1 h2
  subst h1 h2
  cases b1 <;> cases b2 <;> cases asked <;> rfl
theorem add_0 (x : Int64) : x + 0 = x := by simp
theorem parts_ent (τ : MS) (pc v38 v37 v33 : Int64) : vp_updL (vp_updL (vp_updL (vp_updL (vp_updL (vp_updL (pOf τ) 33 pc) 38 v38) 37 v37) 43 1) 44 1) 45 1 = vp_updL (pOf ((m_mem τ, m_x τ, vp_updL (vp_updL (vp_updL (m_state τ) 7 v38) 6 v37) 2 v33, m_flags τ, 1, 1, 1, true, m_faultWhat τ, m_place τ, m_taken τ + 1, m_carry τ, m_over τ, m_ins τ, m_asked τ, m_thrownCode τ) : MS)) 33 pc := by
  obtain ⟨mem, x, st, fl, lv, se, ma, ca, fw, plc, tk, cr, ov, ins, ask, th⟩ := τ
  funext j
  have e1 : (1 : Int32).toInt64 = 1 := rfl
  dsimp only [vp_updL, pOf, m_x, m_state, m_flags, m_level, m_select, m_masked]
  rw [e1]
  grind (splits := 40)
theorem enter_eq {τ : MS} (hI : Inv τ) (pc : Int64) (t0 : Int32) (back : Int64) (asked : Bool) : F_X8_enter (xm τ pc t0) back (if asked = true then 128 else 0) = xm (ent τ back asked) pc t0 := by
  obtain ⟨⟨f, hf, hf2⟩, ⟨b1, h1⟩, ⟨b2, h2⟩, ⟨b3, h3⟩, -⟩ := hI
  have hp := parts_ent τ pc (spsrOf τ) back (vecOf τ asked)
  obtain ⟨mem, x, st, fl, lv, se, ma, ca, fw, plc, tk, cr, ov, ins, ask, th⟩ := τ
  dsimp only [m_level, m_select, m_flags, m_masked] at h1 h2 h3 hf2
  subst h1 h2 h3 hf2
  have key : ∀ σ' : XS, xC σ' = cOf mem → xP σ' = vp_updL (vp_updL (vp_updL (vp_updL (vp_updL (vp_updL (pOf (mem, x, st, nI f, zB b1, zB b2, zB b3, ca, fw, plc, tk, cr, ov, ins, ask, th)) 33 pc) 38 (spsrOf (mem, x, st, nI f, zB b1, zB b2, zB b3, ca, fw, plc, tk, cr, ov, ins, ask, th))) 37 back) 43 1) 44 1) 45 1 → xI σ' = ask → xN σ' = vecOf (mem, x, st, nI f, zB b1, zB b2, zB b3, ca, fw, plc, tk, cr, ov, ins, ask, th) asked → xT σ' = t0 + (tk + 1) → xO σ' = ins → σ' = xm (ent (mem, x, st, nI f, zB b1, zB b2, zB b3, ca, fw, plc, tk, cr, ov, ins, ask, th) back asked) pc t0 := by
    intro σ' a1 a2 a3 a4 a5 a6
    obtain ⟨s1, s2, s3, s4, s5, s6⟩ := σ'
    dsimp only [xC, xP, xI, xN, xT, xO] at a1 a2 a3 a4 a5 a6
    subst a1 a3 a4 a5 a6
    rw [a2, hp]
    rfl
  apply key
  · cases b1 <;> rfl
  · have e0 := or_zero (j_lshl (nI f).toInt64 28 ||| j_lshl (zB b3).toInt64 7)
    have e1 := spsr_or f hf b3 b2
    cases b1
    · rw [show spsrOf (mem, x, st, nI f, zB false, zB b2, zB b3, ca, fw, plc, tk, cr, ov, ins, ask, th) = (j_lshl (nI f).toInt64 28 ||| j_lshl (zB b3).toInt64 7) from rfl, ← e0]
      rfl
    · rw [show spsrOf (mem, x, st, nI f, zB true, zB b2, zB b3, ca, fw, plc, tk, cr, ov, ins, ask, th) = (j_lshl (nI f).toInt64 28 ||| j_lshl (zB b3).toInt64 7) + (4 + (zB b2).toInt64) from rfl, ← e1]
      rfl
  · cases b1 <;> rfl
  · cases b1 <;> cases b2 <;> cases asked
    · show (st 5 &&& (-2048)) + 1024 + 0 = (st 5 &&& (-2048)) + 1024
      rw [add_0]
    · rfl
    · show (st 5 &&& (-2048)) + 1024 + 0 = (st 5 &&& (-2048)) + 1024
      rw [add_0]
    · rfl
    · show (st 5 &&& (-2048)) + 0 + 0 = (st 5 &&& (-2048))
      rw [add_0, add_0]
    · show (st 5 &&& (-2048)) + 0 + 128 = (st 5 &&& (-2048)) + 128
      rw [add_0]
    · show (st 5 &&& (-2048)) + 512 + 0 = (st 5 &&& (-2048)) + 512
      rw [add_0]
    · rfl
  · cases b1
    · show (t0 + tk) + 1 = t0 + (tk + 1)
      rw [Int32.add_assoc]
    · show (t0 + tk) + 1 = t0 + (tk + 1)
      rw [Int32.add_assoc]
  · cases b1 <;> rfl
theorem Inv_ent {τ : MS} (hI : Inv τ) (back : Int64) (asked : Bool) : Inv (ent τ back asked) := by
  obtain ⟨h1, h2, h3, h4, h5⟩ := hI
  exact ⟨h1, ⟨true, rfl⟩, ⟨true, rfl⟩, ⟨true, rfl⟩, h5⟩
theorem Inv_st {τ : MS} (hI : Inv τ) (f : Nat → Int64) : Inv (mu_state τ f) := hI
theorem Inv_x {τ : MS} (hI : Inv τ) (f : Nat → Int64) : Inv (mu_x τ f) := hI
theorem lU_shl {n a : Nat} (hn : n < 64) (ha : a * 2 ^ n < 2 ^ 64) : j_lshl (lN a) (nI n) = lN (a * 2 ^ n) := by
  apply l_ext
  intro i hi
  rw [lb_shl _ _ hi, s6_nI hn, lb_lN, lb_lN, Nat.mul_comm, Nat.testBit_two_pow_mul]
  have : i - n < 64 := by omega
  simp [this, hi]
theorem lN_or {a b : Nat} : lN a ||| lN b = lN (a ||| b) := by
  apply l_ext
  intro i hi
  rw [lb_or, lb_lN, lb_lN, lb_lN, Nat.testBit_or]
  simp [hi]
theorem nI_toL {n : Nat} (h : n < 2 ^ 31) : (nI n).toInt64 = lN n := nI_l h
theorem esr_eq {k n : Nat} (hk : k < 64) (hn : n < 2 ^ 25) : ((j_lshl (nI k).toInt64 26) + 33554432) + (nI n).toInt64 = ((j_lshl (nI k).toInt64 26) ||| 33554432) ||| lN n := by
  rw [nI_toL (by omega), nI_toL (by omega), show (26 : Int32) = nI 26 from rfl, lU_shl (by omega) (by omega), show (33554432 : Int64) = lN (2 ^ 25) from rfl, lN_add, lN_add, lN_or, lN_or]
  congr 1
  rw [show k * 2 ^ 26 = 2 ^ 26 * k from Nat.mul_comm _ _, ← Nat.two_pow_add_eq_or_of_lt (i := 26) (by omega) k, show 2 ^ 26 * k + 2 ^ 25 = 2 ^ 25 * (2 * k + 1) from by omega, ← Nat.two_pow_add_eq_or_of_lt (i := 25) hn]
def exc (τ : MS) (k n : Nat) (back : Int64) : MS := ent (mu_state τ (vp_updL (m_state τ) 8 (((j_lshl (nI k).toInt64 26) ||| 33554432) ||| lN n))) back false
theorem exception_eq {τ : MS} (hI : Inv τ) (k n : Nat) (back : Int64) : F_X12_exception τ (nI k) (lN n) back = exc τ k n back := by
  unfold F_X12_exception F_X12_exception_c25
  rw [enters_eq (Inv_st hI _)]
  rfl
theorem Inv_exc {τ : MS} (hI : Inv τ) (k n : Nat) (back : Int64) : Inv (exc τ k n back) := Inv_ent (Inv_st hI _) _ _
theorem nxt_st {τ : MS} {k : Nat} (hk : k ≠ 2) (v : Int64) (pc : Int64) : nxt (mu_state τ (vp_updL (m_state τ) k v)) pc = nxt τ pc := by
  unfold nxt
  show (if m_calls τ = true then vp_updL (m_state τ) k v 2 else pc + 4) = _
  have : ¬ 2 = k := fun h => hk h.symm
  simp [vp_updL, this]
theorem xm_st (τ : MS) (pc : Int64) (t0 : Int32) {k : Nat} (hk : k < 11) (h2 : k ≠ 2) (v : Int64) : xuP (xm τ pc t0) (vp_updL (xP (xm τ pc t0)) (31 + k) v) = xm (mu_state τ (vp_updL (m_state τ) k v)) pc t0 := by
  show (cOf (m_mem τ), vp_updL (vp_updL (pOf τ) 33 pc) (31 + k) v, m_asked τ, nxt τ pc, t0 + m_taken τ, m_ins τ) = _
  rw [updL_comm (by omega), ← pOf_st τ hk, ← nxt_st h2 v pc]
  rfl
theorem tell_eq (τ : MS) (pc : Int64) (t0 : Int32) {k n : Nat} (hk : k < 64) (hn : n < 2 ^ 25) : F_X8_tell (xm τ pc t0) (nI k) (nI n) = xm (mu_state τ (vp_updL (m_state τ) 8 (((j_lshl (nI k).toInt64 26) ||| 33554432) ||| lN n))) pc t0 := by
  unfold F_X8_tell
  rw [esr_eq hk hn, show (39 : Int32).toNatClampNeg = 31 + 8 from rfl, xm_st _ _ _ (by decide) (by decide)]
theorem raise_eq {τ : MS} (hI : Inv τ) (pc : Int64) (t0 : Int32) {k n : Nat} (hk : k < 64) (hn : n < 2 ^ 25) : F_X8_raise (xm τ pc t0) (nI k) (nI n) = xm (exc τ k n pc) pc t0 := by
  unfold F_X8_raise F_X8_raise_c18
  rw [tell_eq _ _ _ hk hn, show (33 : Int32).toNatClampNeg = 33 from rfl, xP_33]
  exact enter_eq (Inv_st hI _) pc t0 pc false
theorem raiseBehind_eq {τ : MS} (hI : Inv τ) (pc : Int64) (t0 : Int32) {k n : Nat} (hk : k < 64) (hn : n < 2 ^ 25) : F_X8_raiseBehind (xm τ pc t0) (nI k) (nI n) = xm (exc τ k n (pc + 4)) pc t0 := by
  unfold F_X8_raiseBehind F_X8_raiseBehind_c22
  rw [tell_eq _ _ _ hk hn, show (33 : Int32).toNatClampNeg = 33 from rfl, xP_33]
  exact enter_eq (Inv_st hI _) pc t0 (pc + 4) false
def far (τ : MS) (a : Int64) : MS := mu_state τ (vp_updL (m_state τ) 9 a)
theorem raiseAt_eq {τ : MS} (hI : Inv τ) (pc : Int64) (t0 : Int32) (a : Int64) {k n : Nat} (hk : k < 64) (hn : n < 2 ^ 25) : F_X8_raiseAt (xm τ pc t0) a (nI k) (nI n) = xm (exc (far τ a) k n pc) pc t0 := by
  unfold F_X8_raiseAt F_X8_raiseAt_c15 F_X8_raiseAt_c27
  rw [show (40 : Int32).toNatClampNeg = 31 + 9 from rfl, xm_st _ _ _ (by decide) (by decide), tell_eq _ _ _ hk hn, show (33 : Int32).toNatClampNeg = 33 from rfl, xP_33]
  exact enter_eq (Inv_st (Inv_st hI _) _) pc t0 pc false
theorem takeInt_eq {τ : MS} (hI : Inv τ) (pc : Int64) (t0 : Int32) : F_X8_takeInterrupt (xm τ pc t0) = xm (ent τ pc true) pc t0 := by
  unfold F_X8_takeInterrupt F_X8_takeInterrupt_c14
  rw [show (33 : Int32).toNatClampNeg = 33 from rfl, xP_33]
  exact enter_eq hI pc t0 pc true
