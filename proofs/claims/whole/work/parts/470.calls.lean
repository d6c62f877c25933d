theorem loop_step {t0 : Int32} {A : Nat} (hA : A ≤ 2000) : ∀ (m n k : Nat) (σ : XS) (τ : MS), k + m = A → m < n → RelT t0 σ τ → ∃ (σ' : XS) (τ' : MS), F_X11_step_c23 n σ (nI A) t0 (nI k) = some (m_taken τ', σ') ∧ F_X12_step_c25 n τ (nI A) (nI k) = some (m_taken τ', τ') ∧ RelT t0 σ' τ' := by
  intro m
  induction m with
  | zero =>
    intro n k σ τ hk hn h
    obtain ⟨n, rfl⟩ := Nat.exists_eq_add_of_le' (show 1 ≤ n by omega)
    have hk2 : k = A := by omega
    subst hk2
    rw [F_X11_step_c23, F_X12_step_c25, if_pos (nI_le (Nat.le_refl _) (by omega)), if_pos (nI_le (Nat.le_refl _) (by omega))]
    refine ⟨σ, τ, ?_, rfl, h⟩
    obtain ⟨hI, x, o, rfl⟩ := h
    show some ((t0 + m_taken τ) - t0, _) = _
    rw [Int32.add_comm, Int32.add_sub_cancel]
  | succ m ih =>
    intro n k σ τ hk hn h
    obtain ⟨n, rfl⟩ := Nat.exists_eq_add_of_le' (show 1 ≤ n by omega)
    obtain ⟨σ1, τ1, hx, hm, hr⟩ := one_step h
    have e : F_X11_step_c23 (n + 1) σ (nI A) t0 (nI k) = (stepX (F_X8_begin σ)).bind fun s => F_X11_step_c23 n s (nI A) t0 (nI k + 1) := by
      rw [F_X11_step_c23, if_neg (nI_ge (by omega) (by omega))]
      unfold stepX F_X11_step_c64
      cases F_X6_fetches (F_X8_begin σ) with
      | none => rfl
      | some v =>
        rw [Option.bind_some, Option.bind_some]
        cases v.1
        · rfl
        · rw [iff_t, iff_t]
          cases F_X6_performs v.2 with
          | none => rfl
          | some u =>
            rw [Option.bind_some, Option.bind_some]
            cases u.1 <;> rfl
    rw [e, hx, Option.bind_some, F_X12_step_c25, if_neg (nI_ge (by omega) (by omega)), hm, Option.bind_some, nI_inc]
    exact ih n (k + 1) σ1 τ1 (by omega) (by omega) hr
theorem nat_of {a : Int32} (h : ¬ a < 0) : ∃ m, m < 2 ^ 31 ∧ a = nI m := by
  have h1 : (iU a).testBit 31 = false := by
    cases hb : (iU a).testBit 31
    · rfl
    · exact absurd ((neg_iff a).mpr hb) h
  have h2 := iU_lt a
  refine ⟨iU a, ?_, (nI_iU a).symm⟩
  rw [Nat.testBit_eq_decide_div_mod_eq] at h1
  have := of_decide_eq_false h1
  omega
def Rl (σ : XS) (τ : MS) : Prop := ∃ t0, RelT t0 σ τ
theorem c_step {σ : XS} {τ : MS} (h : Rl σ τ) (a0 : Int32) : ∃ (v : Int32) (σ' : XS) (τ' : MS), F_X11_step σ a0 = some (v, σ') ∧ F_X12_step τ a0 = some (v, τ') ∧ Rl σ' τ' := by
  unfold F_X11_step F_X12_step
  obtain ⟨t0, hI, x, o, rfl⟩ := h
  have same : Rl ((cOf (m_mem τ), pOf τ, m_asked τ, x, t0 + m_taken τ, o) : XS) (mu_thrownCode τ 0) := ⟨t0, hI, x, o, rfl⟩
  by_cases h0 : a0 < 0
  · rw [if_pos h0, if_pos h0]
    exact ⟨_, _, _, rfl, rfl, same⟩
  · rw [if_neg h0, if_neg h0]
    by_cases h1 : a0 ≤ 2000
    · rw [if_pos h1, if_pos h1]
      obtain ⟨m, hm, rfl⟩ := nat_of h0
      have hm2 : m ≤ 2000 := (nI_leI (b := 2000) hm (by omega)).mp h1
      have hr : RelT (t0 + m_taken τ) ((cOf (m_mem τ), pOf τ, m_asked τ, x, t0 + m_taken τ, o) : XS) (mu_taken (mu_thrownCode τ 0) 0) := by
        refine ⟨hI, x, o, ?_⟩
        show _ = (cOf (m_mem τ), pOf τ, m_asked τ, x, t0 + m_taken τ + 0, o)
        rw [Int32.add_zero]
      obtain ⟨σ', τ', a1, a2, a3⟩ := loop_step hm2 m 2001 0 _ _ (by omega) (by omega) hr
      exact ⟨_, σ', τ', a1, a2, _, a3⟩
    · rw [if_neg h1, if_neg h1]
      exact ⟨_, _, _, rfl, rfl, same⟩
theorem xreadG {m : Nat → Int32} (hm : ∀ i, iU (m i) < 256) {σ : XS} (hc : xC σ = cOf m) {p n : Nat} (hn : n ≤ 8) (hn1 : 1 ≤ n) (hp : p + n ≤ 65536) (hoff : p % 8 + n ≤ 8) : F_X4_read σ (lN p) (nI n) = some (lN (byN m p n)) := by
  unfold F_X4_read
  rw [holds_place _ (by omega) hn, if_pos (by simp [hp]), cell_ix (by omega), if_neg (nI_in (by omega) (by omega)), cl_nI (by omega), off_ix (by omega), mul8, hc]
  congr 1
  apply l_ext
  intro i hi
  rw [lb_and, lb_ushr, s6_nI (by omega), ones_bits (by omega) hi, lb_lN, byN_tb hm]
  by_cases h : i < 8 * n
  · rw [lb_cOf hm (by omega) (by omega)]
    have h1 : 8 * (p / 8) + (8 * (p % 8) + i) / 8 = p + i / 8 := by omega
    have h2 : (8 * (p % 8) + i) % 8 = i % 8 := by omega
    rw [h1, h2]
    simp [h, hi]
  · simp [h]
theorem xwriteG {m : Nat → Int32} (hm : ∀ i, iU (m i) < 256) {σ : XS} (hc : xC σ = cOf m) {p n : Nat} (hn : n ≤ 8) (hn1 : 1 ≤ n) (hp : p + n ≤ 65536) (hoff : p % 8 + n ≤ 8) (v : Int64) : F_X4_write σ (lN p) (nI n) v = some (xuC σ (cOf (wrM m p n v))) := by
  unfold F_X4_write F_X4_write_c16 F_X4_write_c27
  rw [holds_place _ (by omega) hn, if_pos (by simp [hp]), cell_ix (by omega), if_neg (nI_in (by omega) (by omega)), if_neg (nI_in (by omega) (by omega)), cl_nI (by omega), off_ix (by omega), mul8, hc, cOf_wr hm hn hp hn1 hoff]
theorem neg_i2l {a : Int32} (h : a < 0) : a.toInt64 < 0 := by
  rw [lneg_iff, lb_i2l _ (by decide), if_neg (by decide), ib_tb]
  exact (neg_iff a).mp h
theorem word_place (σ : XS) (a0 : Int32) : (F_X11_isWordPlace σ a0 = false ∧ (a0 < 0 ∨ (65532 : Int32) < a0 ∨ ¬ a0 &&& 3 = 0)) ∨ (F_X11_isWordPlace σ a0 = true ∧ ∃ p, p + 4 ≤ 65536 ∧ p % 4 = 0 ∧ a0 = nI p) := by
  unfold F_X11_isWordPlace
  by_cases h0 : a0 < 0
  · left
    have hh : F_X4_holds σ a0.toInt64 4 = false := by
      unfold F_X4_holds
      rw [if_pos (neg_i2l h0)]
    rw [hh, iff_f]
    exact ⟨by split <;> rfl, Or.inl h0⟩
  · obtain ⟨p, hp, rfl⟩ := nat_of h0
    have e3 : nI p &&& (3 : Int32) = nI (p % 4) := pk_andN (by omega) 2 rfl
    have q3 : nI p &&& (3 : Int32) = 0 ↔ p % 4 = 0 := by
      rw [e3]
      exact eqN (n := 0) (by omega) (by decide)
    rw [nI_toL hp, show (4 : Int32) = nI 4 from rfl, holds_place σ hp (by decide)]
    by_cases h3 : p % 4 = 0
    · rw [if_pos (q3.mpr h3)]
      by_cases h4 : p + 4 ≤ 65536
      · right
        rw [decide_eq_true h4, iff_t]
        exact ⟨rfl, p, h4, h3, rfl⟩
      · left
        rw [decide_eq_false h4, iff_f]
        exact ⟨rfl, Or.inr (Or.inl ((nI_ltI (a := 65532) (by omega) hp).mpr (by omega)))⟩
    · left
      rw [if_neg (fun z => h3 (q3.mp z))]
      exact ⟨rfl, Or.inr (Or.inr (fun z => h3 (q3.mp z)))⟩
theorem pokebyte (a1 : Int32) {k : Nat} (hk : k < 4) : (a1 >>> (((8 : Int32) * nI k) &&& 31)) &&& 255 = nI (lU a1.toInt64 / 2 ^ (8 * k) % 256) := by
  rw [show (8 : Int32) * nI k = nI (8 * k) from by rw [show (8 : Int32) = nI 8 from rfl, pk_mul]]
  apply i_ext
  intro i hi
  rw [ib_and, ib_sshr _ _ hi, s5_nI (by omega), show (255 : Int32) = nI (2 ^ 8 - 1) from rfl, ib_nI, ib_nI, Nat.testBit_two_pow_sub_one, show (256 : Nat) = 2 ^ 8 from rfl, Nat.testBit_mod_two_pow, Nat.testBit_div_two_pow]
  by_cases h : i < 8
  · have h2 : 8 * k + i < 32 := by omega
    rw [if_pos h2, ← lb_tb, lb_i2l _ (by omega), if_pos (by omega), Nat.add_comm i]
    simp [h, hi]
  · simp [h]
theorem poke_loop {τ : MS} {p : Nat} (a1 : Int32) (hpn : p + 4 ≤ 65536) : ∀ (f k : Nat), 4 < f + k → k ≤ 4 → F_X12_poke_c25 f (mu_mem τ (wrM (m_mem τ) p k a1.toInt64)) (nI p) a1 (nI k) = some (true, mu_mem τ (wrM (m_mem τ) p 4 a1.toInt64)) := by
  intro f
  induction f with
  | zero => intro k h1 h2; omega
  | succ f ih =>
    intro k h1 h2
    rw [F_X12_poke_c25, show (4 : Int32) = nI 4 from rfl]
    by_cases hk : k = 4
    · subst hk
      rw [if_pos (nI_le (Nat.le_refl _) (by omega))]
    · rw [if_neg (nI_ge (by omega) (by omega)), nI_add, if_neg (nI_in (by omega) (by omega)), cl_nI (by omega), pokebyte a1 (by omega), nI_inc]
      have e2 : mu_mem (mu_mem τ (wrM (m_mem τ) p k a1.toInt64)) (upd (m_mem (mu_mem τ (wrM (m_mem τ) p k a1.toInt64))) (p + k) (nI (lU a1.toInt64 / 2 ^ (8 * k) % 256))) = mu_mem τ (wrM (m_mem τ) p (k + 1) a1.toInt64) := by
        rw [← wrM_s]
        rfl
      rw [e2]
      exact ih (k + 1) (by omega) (by omega)
theorem c_poke {σ : XS} {τ : MS} (h : Rl σ τ) (a0 a1 : Int32) : ∃ (v : Bool) (σ' : XS) (τ' : MS), F_X11_poke σ a0 a1 = some (v, σ') ∧ F_X12_poke τ a0 a1 = some (v, τ') ∧ Rl σ' τ' := by
  obtain ⟨t0, hI, x, o, rfl⟩ := h
  unfold F_X11_poke F_X12_poke
  rcases word_place ((cOf (m_mem τ), pOf τ, m_asked τ, x, t0 + m_taken τ, o) : XS) a0 with ⟨hw, hc⟩ | ⟨hw, p, hp, hp4, rfl⟩
  · rw [hw, iff_f]
    refine ⟨false, _, mu_thrownCode τ 0, rfl, ?_, t0, hI, x, o, rfl⟩
    by_cases h1 : a0 < 0
    · rw [if_pos h1]
    · rw [if_neg h1]
      by_cases h2 : (65532 : Int32) < a0
      · rw [if_pos h2]
      · rw [if_neg h2, if_neg ((hc.resolve_left h1).resolve_left h2)]
  · have e3 : nI p &&& (3 : Int32) = 0 := by
      have : nI p &&& (3 : Int32) = nI (p % 4) := pk_andN (by omega) 2 rfl
      rw [this, hp4]
      rfl
    have hm := hI.2.2.2.2
    have hl := poke_loop (τ := mu_thrownCode τ 0) a1 hp 70 0 (by decide) (by decide)
    rw [wrM_0, mu_mem_self, show nI 0 = (0 : Int32) from rfl] at hl
    rw [hw, iff_t, if_neg (nI_pos (by omega)), if_neg (fun z => by have := (nI_ltI (a := 65532) (by omega) (by omega)).mp z; omega), if_pos e3, nI_toL (by omega), show (4 : Int32) = nI 4 from rfl, xwriteG hm rfl (by decide) (by decide) hp (by omega), Option.bind_some, hl]
    exact ⟨true, _, _, rfl, rfl, t0, ⟨hI.1, hI.2.1, hI.2.2.1, hI.2.2.2.1, wrM_lt hm _ _ _⟩, x, o, rfl⟩
theorem c_peek {σ : XS} {τ : MS} (h : Rl σ τ) (a0 : Int32) : ∃ (v : Int32) (τ' : MS), F_X11_peek σ a0 = some v ∧ F_X12_peek τ a0 = some (v, τ') ∧ Rl σ τ' := by
  obtain ⟨t0, hI, x, o, rfl⟩ := h
  unfold F_X11_peek F_X12_peek
  rcases word_place ((cOf (m_mem τ), pOf τ, m_asked τ, x, t0 + m_taken τ, o) : XS) a0 with ⟨hw, hc⟩ | ⟨hw, p, hp, hp4, rfl⟩
  · rw [hw, iff_f]
    refine ⟨0, mu_thrownCode τ 0, rfl, ?_, t0, hI, x, o, rfl⟩
    by_cases h1 : a0 < 0
    · rw [if_pos h1]
    · rw [if_neg h1]
      by_cases h2 : (65532 : Int32) < a0
      · rw [if_pos h2]
      · rw [if_neg h2, if_neg ((hc.resolve_left h1).resolve_left h2)]
  · have e3 : nI p &&& (3 : Int32) = 0 := by
      have : nI p &&& (3 : Int32) = nI (p % 4) := pk_andN (by omega) 2 rfl
      rw [this, hp4]
      rfl
    have hm := hI.2.2.2.2
    rw [hw, iff_t, if_neg (nI_pos (by omega)), if_neg (fun z => by have := (nI_ltI (a := 65532) (by omega) (by omega)).mp z; omega), if_pos e3, nI_toL (by omega), show (4 : Int32) = nI 4 from rfl, xreadG hm rfl (by decide) (by decide) hp (by omega), Option.bind_some, mbytes (τ := mu_thrownCode τ 0) hm (by decide) (by decide) hp, Option.bind_some]
    exact ⟨_, mu_thrownCode τ 0, rfl, rfl, t0, hI, x, o, rfl⟩
