def Ok (τ : MS) (pc : Int64) : Prop := Inv τ ∧ m_calls τ = false ∧ m_state τ 2 = pc
def Ok' (τ : MS) (pc : Int64) : Prop := Inv τ ∧ (m_calls τ = false → m_state τ 2 = pc)
def Res (o : Option MS) (x : Bool × XS) (τ : MS) (pc : Int64) (t0 : Int32) : Prop := ∃ τ', o = some τ' ∧ Ok' τ' pc ∧ (x = (true, xm τ' pc t0) ∨ (x = (false, xm τ pc t0) ∧ τ' = exc τ 0 0 pc))
theorem none_eq {τ : MS} {pc : Int64} (h : Ok τ pc) : F_X12_none τ = exc τ 0 0 pc := by
  unfold F_X12_none F_X12_none_c12
  rw [show (2 : Int32).toNatClampNeg = 2 from rfl, h.2.2]
  exact exception_eq h.1 0 0 pc
theorem Ok'_exc {τ : MS} (hI : Inv τ) (k n : Nat) (back pc : Int64) : Ok' (exc τ k n back) pc := ⟨Inv_exc hI k n back, fun h => by cases h⟩
theorem Res.none {τ : MS} {pc : Int64} {t0 : Int32} (h : Ok τ pc) {o : Option MS} (ho : o = some (F_X12_none τ)) {x : Bool × XS} (hx : x = (false, xm τ pc t0)) : Res o x τ pc t0 :=
  ⟨exc τ 0 0 pc, by rw [ho, none_eq h], Ok'_exc h.1 _ _ _ _, Or.inr ⟨hx, rfl⟩⟩
theorem Inv_putR {τ : MS} (hI : Inv τ) (k : Nat) (v : Int64) : Inv (putR τ k v) := by
  unfold putR
  split
  · exact hI
  · exact hI
theorem Inv_putP {τ : MS} (hI : Inv τ) (k : Nat) (v : Int64) : Inv (putP τ k v) := by
  unfold putP
  split
  · exact hI
  · exact hI
theorem Ok_putR {τ : MS} {pc : Int64} (h : Inv τ ∧ (m_calls τ = false → m_state τ 2 = pc)) (k : Nat) (v : Int64) : Ok' (putR τ k v) pc := by
  refine ⟨Inv_putR h.1 k v, ?_⟩
  unfold putR
  split
  · exact h.2
  · exact h.2
theorem Ok_putP {τ : MS} {pc : Int64} (h : Inv τ ∧ (m_calls τ = false → m_state τ 2 = pc)) (k : Nat) (v : Int64) : Ok' (putP τ k v) pc := by
  refine ⟨Inv_putP h.1 k v, ?_⟩
  have hp := ptr_lt τ
  unfold putP
  split
  · intro hc
    show vp_updL (m_state τ) (ptr τ) v 2 = pc
    have : ¬ 2 = ptr τ := by omega
    simp only [vp_updL, this, if_false]
    exact h.2 hc
  · exact h.2
theorem lt_wd {k : Nat} (hk : k < 2 ^ 31) (b : Bool) : nI k < nI (wd b) ↔ k < wd b := nI_ltI hk (by have := wd_le b; omega)
theorem tail7 {τ : MS} {pc : Int64} (t0 : Int32) (h : Ok' τ pc) {v v' : Int64} (hv : F_X1_narrow v (wb τ) = v') : ∃ τ', ((F_X12_f τ 4 0).bind fun a => (F_X12_put τ a v').bind fun b => some b) = some τ' ∧ Ok' τ' pc ∧ F_X7_put (xm τ pc t0) (m_ins τ) v = (true, xm τ' pc t0) := by
  refine ⟨putR τ (fN (iU (m_ins τ)) 0 5) v', ?_, Ok_putR h _ _, ?_⟩
  · rw [fL_4_0]
    simp only [Option.bind_some]
    rw [put_eq _ (fN_lt _ _ _)]
    rfl
  · rw [xput τ pc t0 rfl, hv]
theorem tailR {τ : MS} {pc : Int64} (t0 : Int32) (h : Ok' τ pc) (v : Int64) : ∃ τ', ((F_X12_f τ 4 0).bind fun a => (F_X12_put τ a v).bind fun b => some b) = some τ' ∧ Ok' τ' pc ∧ F_X8_putRegister (xm τ pc t0) (nI (fN (iU (m_ins τ)) 0 5)) v = xm τ' pc t0 := by
  refine ⟨putR τ (fN (iU (m_ins τ)) 0 5) v, ?_, Ok_putR h _ _, ?_⟩
  · rw [fL_4_0]
    simp only [Option.bind_some]
    rw [put_eq _ (fN_lt _ _ _)]
    rfl
  · exact xputR τ pc t0 (fN_lt _ _ _) v
theorem tailP {τ : MS} {pc : Int64} (t0 : Int32) (h : Ok' τ pc) (v : Int64) : ∃ τ', ((F_X12_f τ 4 0).bind fun a => (F_X12_putOrPointer τ a v).bind fun b => some b) = some τ' ∧ Ok' τ' pc ∧ F_X8_putRegisterOrStack (xm τ pc t0) (nI (fN (iU (m_ins τ)) 0 5)) v = xm τ' pc t0 := by
  refine ⟨putP τ (fN (iU (m_ins τ)) 0 5) v, ?_, Ok_putP h _ _, ?_⟩
  · rw [fL_4_0]
    simp only [Option.bind_some]
    rw [putOP_eq _ (fN_lt _ _ _)]
    rfl
  · exact xputP h.1 pc t0 (fN_lt _ _ _) v
theorem Ok.ok' {τ : MS} {pc : Int64} (h : Ok τ pc) : Ok' τ pc := ⟨h.1, fun _ => h.2.2⟩
theorem Res.of {τ : MS} {pc : Int64} {t0 : Int32} {o : Option MS} {x : Bool × XS} (h : ∃ τ', o = some τ' ∧ Ok' τ' pc ∧ x = (true, xm τ' pc t0)) : Res o x τ pc t0 := by
  obtain ⟨τ', h1, h2, h3⟩ := h
  exact ⟨τ', h1, h2, Or.inl h3⟩
/-- a sum with or without flags, then what follows it -/
def sc (τ : MS) (c v : Int32) : MS := mu_over (mu_carry τ c) v
theorem flagged {τ : MS} {pc : Int64} (h : Ok τ pc) (a b : Int64) (c fl : Bool) : ∃ τ1, (if fl = true then F_X12_signs (sc τ (nI (cyb a b c (wd (wb τ))).toNat) (nI (cyb a b c (wd (wb τ))).toNat ^^^ nI (cyb a b c (wd (wb τ) - 1)).toNat)) (F_X1_narrow (a + b + lN c.toNat) (wb τ)) (nI (wd (wb τ))) (nI (cyb a b c (wd (wb τ))).toNat) (nI (cyb a b c (wd (wb τ))).toNat ^^^ nI (cyb a b c (wd (wb τ) - 1)).toNat) else sc τ (nI (cyb a b c (wd (wb τ))).toNat) (nI (cyb a b c (wd (wb τ))).toNat ^^^ nI (cyb a b c (wd (wb τ) - 1)).toNat)) = τ1 ∧ Ok' τ1 pc ∧ (∀ t0, xm (if fl = true then mu_flags τ (nI (flg a b c (wb τ))) else τ) pc t0 = xm τ1 pc t0) ∧ m_ins τ1 = m_ins τ := by
  cases fl
  · exact ⟨_, rfl, ⟨h.1, fun _ => h.2.2⟩, fun _ => rfl, rfl⟩
  · refine ⟨_, rfl, ?_⟩
    rw [if_pos rfl, if_pos rfl, xor_nb, signs_eq]
    exact ⟨⟨Inv_flags (τ := sc τ _ _) h.1 (fl4_lt _ _ _ _), fun _ => h.2.2⟩, fun _ => rfl, rfl⟩
