def pOf (τ : MS) : Nat → Int64 := fun k => if k < 31 then m_x τ k else if k < 42 then m_state τ (k - 31) else if k = 42 then (m_flags τ).toInt64 else if k = 43 then (m_level τ).toInt64 else if k = 44 then (m_select τ).toInt64 else if k = 45 then (m_masked τ).toInt64 else 0
def cellOf (m : Nat → Int32) (k : Nat) : Nat := iU (m (8 * k)) + 2 ^ 8 * iU (m (8 * k + 1)) + 2 ^ 16 * iU (m (8 * k + 2)) + 2 ^ 24 * iU (m (8 * k + 3)) + 2 ^ 32 * iU (m (8 * k + 4)) + 2 ^ 40 * iU (m (8 * k + 5)) + 2 ^ 48 * iU (m (8 * k + 6)) + 2 ^ 56 * iU (m (8 * k + 7))
def cOf (m : Nat → Int32) : Nat → Int64 := fun k => if k < 8192 then lN (cellOf m k) else 0
def nxt (τ : MS) (pc : Int64) : Int64 := if m_calls τ = true then m_state τ 2 else pc + 4
def xm (τ : MS) (pc : Int64) (t0 : Int32) : XS := (cOf (m_mem τ), vp_updL (pOf τ) 33 pc, m_asked τ, nxt τ pc, t0 + m_taken τ, m_ins τ)
def Inv (τ : MS) : Prop := (∃ f, f < 16 ∧ m_flags τ = nI f) ∧ (∃ b, m_level τ = zB b) ∧ (∃ b, m_select τ = zB b) ∧ (∃ b, m_masked τ = zB b) ∧ ∀ i, iU (m_mem τ i) < 256
theorem cl_nI {k : Nat} (h : k < 2 ^ 31) : (nI k).toNatClampNeg = k := nI_clamp h
theorem part_eq (σ : XS) {k : Nat} (hk : k < 46) : F_X8_part σ (nI k) = xP σ k := by
  unfold F_X8_part
  rw [if_neg (nI_pos (by omega)), if_neg (by rw [show (46 : Int32) = nI 46 from rfl]; exact nI_ge hk (by omega)), cl_nI (by omega)]
theorem putPart_eq (σ : XS) {k : Nat} (hk : k < 46) (v : Int64) : F_X8_putPart σ (nI k) v = (true, xuP σ (vp_updL (xP σ) k (if k = 42 then v &&& 15 else if k ≤ 42 then v else v &&& 1))) := by
  unfold F_X8_putPart
  rw [if_neg (nI_pos (by omega)), if_pos (by rw [show (46 : Int32) = nI 46 from rfl]; exact nI_lt hk (by omega)), cl_nI (by omega)]
  have h42 : (nI k = (42 : Int32)) ↔ k = 42 := by rw [show (42 : Int32) = nI 42 from rfl]; exact nI_eq (by omega) (by omega)
  have h42' : (nI k ≤ (42 : Int32)) ↔ k ≤ 42 := by rw [show (42 : Int32) = nI 42 from rfl]; exact nI_leI (by omega) (by omega)
  by_cases h : k = 42
  · rw [if_pos (h42.mpr h), if_pos h]
  · rw [if_neg (fun q => h (h42.mp q)), if_neg h]
    by_cases h2 : k ≤ 42
    · rw [if_pos (h42'.mpr h2), if_pos h2]
    · rw [if_neg (fun q => h2 (h42'.mp q)), if_neg h2]
theorem eq31 {k : Nat} (hk : k < 2 ^ 31) : nI k = (31 : Int32) ↔ k = 31 := by
  rw [show (31 : Int32) = nI 31 from rfl]; exact nI_eq hk (by omega)
theorem reg_eq (τ : MS) (pc : Int64) (t0 : Int32) {k : Nat} (hk : k < 32) : F_X12_reg τ (nI k) = some (F_X8_register (xm τ pc t0) (nI k)) := by
  unfold F_X12_reg F_X8_register
  by_cases h : k = 31
  · rw [if_pos ((eq31 (by omega)).mpr h), if_pos ((eq31 (by omega)).mpr h)]
  · rw [if_neg (fun q => h ((eq31 (by omega)).mp q)), if_neg (fun q => h ((eq31 (by omega)).mp q)), if_neg (nI_in (by omega) (by omega)), part_eq _ (by omega), cl_nI (by omega)]
    simp [xm, xP, vp_updL, pOf]
    have h1 : k < 31 := by omega
    have h2 : k ≠ 33 := by omega
    simp [h1, h2]
def ptr (τ : MS) : Nat := if m_level τ = 0 then 0 else if m_select τ = 0 then 0 else 1
theorem pointer_eq (τ : MS) : F_X12_pointer τ = nI (ptr τ) := by
  unfold F_X12_pointer ptr
  split
  · rfl
  · split <;> rfl
theorem ptr_lt (τ : MS) : ptr τ < 2 := by
  unfold ptr
  split
  · decide
  · split <;> decide
theorem xP_43 (τ : MS) (pc : Int64) (t0 : Int32) : xP (xm τ pc t0) 43 = (m_level τ).toInt64 := by simp [xm, xP, vp_updL, pOf]
theorem xP_44 (τ : MS) (pc : Int64) (t0 : Int32) : xP (xm τ pc t0) 44 = (m_select τ).toInt64 := by simp [xm, xP, vp_updL, pOf]
theorem xP_45 (τ : MS) (pc : Int64) (t0 : Int32) : xP (xm τ pc t0) 45 = (m_masked τ).toInt64 := by simp [xm, xP, vp_updL, pOf]
theorem xP_42 (τ : MS) (pc : Int64) (t0 : Int32) : xP (xm τ pc t0) 42 = (m_flags τ).toInt64 := by simp [xm, xP, vp_updL, pOf]
theorem xP_33 (τ : MS) (pc : Int64) (t0 : Int32) : xP (xm τ pc t0) 33 = pc := by simp [xm, xP, vp_updL]
theorem xP_st (τ : MS) (pc : Int64) (t0 : Int32) {k : Nat} (hk : k < 11) (h2 : k ≠ 2) : xP (xm τ pc t0) (31 + k) = m_state τ k := by
  simp [xm, xP, vp_updL, pOf]
  have h1 : 31 + k ≠ 33 := by omega
  have h3 : ¬ 31 + k < 31 := by omega
  have h4 : 31 + k < 42 := by omega
  have h5 : 31 + k - 31 = k := by omega
  simp [h1, h4]
  intro h
  omega
theorem stack_eq {τ : MS} (hI : Inv τ) (pc : Int64) (t0 : Int32) : F_X8_stack (xm τ pc t0) = nI (31 + ptr τ) := by
  obtain ⟨-, ⟨b1, h1⟩, ⟨b2, h2⟩, -⟩ := hI
  unfold F_X8_stack ptr
  rw [show (43 : Int32).toNatClampNeg = 43 from rfl, show (44 : Int32).toNatClampNeg = 44 from rfl, xP_43, xP_44, h1, h2]
  cases b1 <;> cases b2 <;> decide
theorem regP_eq {τ : MS} (hI : Inv τ) (pc : Int64) (t0 : Int32) {k : Nat} (hk : k < 32) : F_X12_regOrPointer τ (nI k) = some (F_X8_registerOrStack (xm τ pc t0) (nI k)) := by
  unfold F_X12_regOrPointer F_X8_registerOrStack F_X8_registerOrStack_c15
  have hp := ptr_lt τ
  by_cases h : k = 31
  · rw [if_pos ((eq31 (by omega)).mpr h), if_pos ((eq31 (by omega)).mpr h), pointer_eq, if_neg (nI_in (by omega) (by omega)), stack_eq hI, part_eq _ (by omega), cl_nI (by omega), xP_st _ _ _ (by omega) (by omega)]
  · rw [if_neg (fun q => h ((eq31 (by omega)).mp q)), if_neg (fun q => h ((eq31 (by omega)).mp q)), if_neg (nI_in (by omega) (by omega)), part_eq _ (by omega), cl_nI (by omega)]
    simp [xm, xP, vp_updL, pOf]
    have h1 : k < 31 := by omega
    have h2 : k ≠ 33 := by omega
    simp [h1, h2]
def putR (τ : MS) (k : Nat) (v : Int64) : MS := if k = 31 then τ else mu_x τ (vp_updL (m_x τ) k v)
def putP (τ : MS) (k : Nat) (v : Int64) : MS := if k = 31 then mu_state τ (vp_updL (m_state τ) (ptr τ) v) else mu_x τ (vp_updL (m_x τ) k v)
theorem put_eq (τ : MS) {k : Nat} (hk : k < 32) (v : Int64) : F_X12_put τ (nI k) v = some (putR τ k v) := by
  unfold F_X12_put putR
  by_cases h : k = 31
  · rw [if_pos ((eq31 (by omega)).mpr h), if_pos h]
  · rw [if_neg (fun q => h ((eq31 (by omega)).mp q)), if_neg h, if_neg (nI_in (by omega) (by omega)), cl_nI (by omega)]
theorem putOP_eq (τ : MS) {k : Nat} (hk : k < 32) (v : Int64) : F_X12_putOrPointer τ (nI k) v = some (putP τ k v) := by
  unfold F_X12_putOrPointer putP
  have hp := ptr_lt τ
  by_cases h : k = 31
  · rw [if_pos ((eq31 (by omega)).mpr h), if_pos h, pointer_eq, if_neg (nI_in (by omega) (by omega)), cl_nI (by omega)]
  · rw [if_neg (fun q => h ((eq31 (by omega)).mp q)), if_neg h, if_neg (nI_in (by omega) (by omega)), cl_nI (by omega)]
theorem pOf_x (τ : MS) {k : Nat} (hk : k < 31) (v : Int64) : pOf (mu_x τ (vp_updL (m_x τ) k v)) = vp_updL (pOf τ) k v := by
  funext j
  simp only [pOf, vp_updL, mu_x, m_x, m_state, m_flags, m_level, m_select, m_masked]
  by_cases h : j = k
  · subst h; simp [hk]
  · simp [h]
theorem pOf_st (τ : MS) {k : Nat} (hk : k < 11) (v : Int64) : pOf (mu_state τ (vp_updL (m_state τ) k v)) = vp_updL (pOf τ) (31 + k) v := by
  funext j
  simp only [pOf, vp_updL, mu_state, m_x, m_state, m_flags, m_level, m_select, m_masked]
  by_cases h : j = 31 + k
  · subst h
    have h1 : ¬ 31 + k < 31 := by omega
    have h2 : 31 + k < 42 := by omega
    have h3 : 31 + k - 31 = k := by omega
    simp [h2]
    intro h
    omega
  · by_cases h1 : j < 31
    · simp [h, h1]
    · have h2 : ¬ j - 31 = k := by omega
      simp [h, h1, h2]
theorem updL_comm {f : Nat → Int64} {a b : Nat} {x y : Int64} (h : a ≠ b) : vp_updL (vp_updL f a x) b y = vp_updL (vp_updL f b y) a x := by
  funext j
  simp only [vp_updL]
  by_cases h1 : j = b
  · have h2 : j ≠ a := by omega
    simp [h1]
    omega
  · simp [h1]
theorem updL_over {f : Nat → Int64} {a : Nat} {x y : Int64} : vp_updL (vp_updL f a x) a y = vp_updL f a y := by
  funext j
  simp only [vp_updL]
  by_cases h1 : j = a <;> simp [h1]
theorem xputR (τ : MS) (pc : Int64) (t0 : Int32) {k : Nat} (hk : k < 32) (v : Int64) : F_X8_putRegister (xm τ pc t0) (nI k) v = xm (putR τ k v) pc t0 := by
  unfold F_X8_putRegister putR
  by_cases h : k = 31
  · rw [if_pos ((eq31 (by omega)).mpr h), if_pos h]
  · rw [if_neg (fun q => h ((eq31 (by omega)).mp q)), if_neg h, putPart_eq _ (by omega), if_neg (by omega), if_pos (by omega)]
    show xuP (xm τ pc t0) (vp_updL (vp_updL (pOf τ) 33 pc) k v) = _
    rw [updL_comm (by omega), ← pOf_x τ (by omega)]
    rfl
theorem xputP {τ : MS} (hI : Inv τ) (pc : Int64) (t0 : Int32) {k : Nat} (hk : k < 32) (v : Int64) : F_X8_putRegisterOrStack (xm τ pc t0) (nI k) v = xm (putP τ k v) pc t0 := by
  unfold F_X8_putRegisterOrStack F_X8_putRegisterOrStack_c15 putP
  have hp := ptr_lt τ
  by_cases h : k = 31
  · rw [if_pos ((eq31 (by omega)).mpr h), if_pos h, stack_eq hI, putPart_eq _ (by omega), if_neg (by omega), if_pos (by omega)]
    show xuP (xm τ pc t0) (vp_updL (vp_updL (pOf τ) 33 pc) (31 + ptr τ) v) = _
    rw [updL_comm (by omega), ← pOf_st τ (by omega)]
    have e : nxt (mu_state τ (vp_updL (m_state τ) (ptr τ) v)) pc = nxt τ pc := by
      unfold nxt
      show (if m_calls τ = true then vp_updL (m_state τ) (ptr τ) v 2 else pc + 4) = _
      have : ¬ 2 = ptr τ := by omega
      simp [vp_updL, this]
    simp only [xm, xuP, e]
    rfl
  · rw [if_neg (fun q => h ((eq31 (by omega)).mp q)), if_neg h, putPart_eq _ (by omega), if_neg (by omega), if_pos (by omega)]
    show xuP (xm τ pc t0) (vp_updL (vp_updL (pOf τ) 33 pc) k v) = _
    rw [updL_comm (by omega), ← pOf_x τ (by omega)]
    rfl
