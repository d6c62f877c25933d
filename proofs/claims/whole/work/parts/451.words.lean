theorem fN_sub (W p c q d : Nat) (h : q + d ≤ c) : fN (fN W p c) q d = fN W (p + q) d := by
  apply Nat.eq_of_testBit_eq
  intro i
  rw [fN_tb, fN_tb, fN_tb]
  by_cases h1 : i < d
  · have h2 : q + i < c := by omega
    simp [h1, h2, Nat.add_assoc]
  · simp [h1]
theorem imp {W p c k : Nat} (e : fN W p c = k) (q d : Nat) (h : q + d ≤ c) : fN W (p + q) d = fN k q d := by
  rw [← e, fN_sub _ _ _ _ _ h]
theorem imp_ne {W p c k : Nat} (q d : Nat) (h : q + d ≤ c) (hn : fN W (p + q) d ≠ fN k q d) : fN W p c ≠ k := fun e => hn (imp e q d h)
theorem bit_of {W p : Nat} {b : Bool} (h : W.testBit p = b) : fN W p 1 = b.toNat := by rw [fN_1, h]
theorem tail_none {τ : MS} (h : fN (iU (m_ins τ)) 24 5 ≠ 20 ∧ fN (iU (m_ins τ)) 24 5 ≠ 21 ∧ fN (iU (m_ins τ)) 24 5 ≠ 22 ∨ fN (iU (m_ins τ)) 29 2 ≠ 2) : F_X12_does_c599 τ = some (F_X12_none τ) := by
  have a1 : fN (iU (m_ins τ)) 21 11 ≠ 1696 := by
    rcases h with h | h
    · exact imp_ne 3 5 (by decide) h.1
    · exact imp_ne 8 2 (by decide) h
  have a2 : fN (iU (m_ins τ)) 21 11 ≠ 1697 := by
    rcases h with h | h
    · exact imp_ne 3 5 (by decide) h.1
    · exact imp_ne 8 2 (by decide) h
  have a3 : fN (iU (m_ins τ)) 13 19 ≠ 436249 := by
    rcases h with h | h
    · exact imp_ne 11 5 (by decide) h.2.1
    · exact imp_ne 16 2 (by decide) h
  have a4 : fN (iU (m_ins τ)) 16 16 ≠ 54943 := by
    rcases h with h | h
    · exact imp_ne 8 5 (by decide) h.2.2
    · exact imp_ne 13 2 (by decide) h
  have a5 : fN (iU (m_ins τ)) 22 10 ≠ 852 := by
    rcases h with h | h
    · exact imp_ne 2 5 (by decide) h.2.1
    · exact imp_ne 7 2 (by decide) h
  have a6 : fN (iU (m_ins τ)) 19 13 ≠ 6816 := by
    rcases h with h | h
    · exact imp_ne 5 5 (by decide) h.2.1
    · exact imp_ne 10 2 (by decide) h
  rw [sk599 (Or.inl a1), sk650 (Or.inl a2), sk696 (Or.inl a3), sk729 (Or.inl a4), sk763 (Or.inl a5), sk796 (Or.inl a6)]
theorem none_517 {τ : MS} (h : fN (iU (m_ins τ)) 24 5 ≠ 20 ∧ fN (iU (m_ins τ)) 24 5 ≠ 21 ∧ fN (iU (m_ins τ)) 24 5 ≠ 22 ∨ fN (iU (m_ins τ)) 29 2 ≠ 2) (h1 : fN (iU (m_ins τ)) 24 6 ≠ 57) (h2 : fN (iU (m_ins τ)) 24 6 ≠ 56) (h3 : fN (iU (m_ins τ)) 25 5 ≠ 20) (h4 : fN (iU (m_ins τ)) 24 6 ≠ 24 ∨ (iU (m_ins τ)).testBit 31 = true) : F_X12_does_c517 τ = some (F_X12_none τ) := by
  rw [sk517 h1 h2 h3 h4, tail_none h]
/-- from c178 to c517, for groups that hold none of these -/
theorem to_517 {τ : MS} (h26 : fN (iU (m_ins τ)) 24 5 ≠ 26) (h27 : fN (iU (m_ins τ)) 24 5 ≠ 27) (hb : fN (iU (m_ins τ)) 26 3 ≠ 5) : F_X12_does_c178 τ = F_X12_does_c517 τ := by
  have g20 : fN (iU (m_ins τ)) 24 5 ≠ 20 := imp_ne 2 3 (by decide) hb
  have g22 : fN (iU (m_ins τ)) 24 5 ≠ 22 := imp_ne 2 3 (by decide) hb
  rw [sk178 (Or.inl (imp_ne 3 5 (by decide) h26)), sk208 (Or.inl (imp_ne 3 5 (by decide) h26)), sk246 (imp_ne 3 5 (by decide) h27) (Or.inl (imp_ne 0 5 (by decide) h27)), sk313 (imp_ne 3 5 (by decide) h26) (imp_ne 8 5 (by decide) h26) (imp_ne 0 3 (by decide) hb) (Or.inl (imp_ne 0 5 (by decide) g20)), sk433 (imp_ne 1 3 (by decide) hb) (imp_ne 1 3 (by decide) hb) (Or.inl (imp_ne 1 5 (by decide) g22))]
theorem to_178 {τ : MS} (h10 : fN (iU (m_ins τ)) 24 5 ≠ 10) (h11 : fN (iU (m_ins τ)) 24 5 ≠ 11) (h : fN (iU (m_ins τ)) 26 3 ≠ 4) : F_X12_does τ = F_X12_does_c178 τ := by
  have g16 : fN (iU (m_ins τ)) 24 5 ≠ 16 := imp_ne 2 3 (by decide) h
  rw [sk0 (imp_ne 3 3 (by decide) h) (Or.inl h11), sk49 h10 (imp_ne 3 3 (by decide) h) (imp_ne 3 3 (by decide) h) g16 (imp_ne 3 3 (by decide) h) (Or.inl (imp_ne 3 3 (by decide) h))]
theorem sel24 (x : Int32) : (j_iushr x 24) &&& (31 : Int32) = nI (fN (iU x) 24 5) := by
  have h := iU_field x (p := 24) (c := 5) (by decide) (by decide)
  exact h
theorem sel29 (x : Int32) : (j_iushr x 29) &&& (3 : Int32) = nI (fN (iU x) 29 2) := by
  have h := iU_field x (p := 29) (c := 2) (by decide) (by decide)
  exact h
theorem sel21 (x : Int32) : (j_iushr x 21) &&& (255 : Int32) = nI (fN (iU x) 21 8) := by
  have h := iU_field x (p := 21) (c := 8) (by decide) (by decide)
  exact h
theorem xO_xm (τ : MS) (pc : Int64) (t0 : Int32) : xO (xm τ pc t0) = m_ins τ := rfl
def Perf (τ : MS) (pc : Int64) (t0 : Int32) : Prop := ∃ x, F_X6_performs (xm τ pc t0) = some x ∧ Res (F_X12_does τ) x τ pc t0
theorem Perf.of {τ : MS} {pc : Int64} {t0 : Int32} {x : Bool × XS} (h1 : F_X6_performs (xm τ pc t0) = some (x.1, x.2)) (h2 : Res (F_X12_does τ) x τ pc t0) : Perf τ pc t0 := ⟨x, h1, h2⟩
