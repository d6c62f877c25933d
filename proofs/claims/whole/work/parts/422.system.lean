def swh (k t : Nat) (b : Bool) : Nat := 3 * 2 ^ 20 + (k % 8) * 2 ^ 17 + (k / 2048) * 2 ^ 14 + (k / 128 % 16) * 1024 + t * 32 + (k / 8 % 16) * 2 + b.toNat
def sysM (w1 w3 : Int32) : Int64 := (((((3145728 : Int64) ||| (j_lshl (w1 - w1 / (8 : Int32) * (8 : Int32)).toInt64 (17 : Int32))) ||| (j_lshl (w1 / (2048 : Int32)).toInt64 (14 : Int32))) ||| (j_lshl ((w1 / (128 : Int32)) - (w1 / (128 : Int32)) / (16 : Int32) * (16 : Int32)).toInt64 (10 : Int32))) ||| (j_lshl w3.toInt64 (5 : Int32))) ||| (j_lshl ((w1 / (8 : Int32)) - (w1 / (8 : Int32)) / (16 : Int32) * (16 : Int32)).toInt64 (1 : Int32))
theorem swhX : ∀ k ∈ [128, 256, 512, 513, 520, 528, 530, 656, 768, 1536, 6672, 6673, 7810], ∀ t, t < 32 → ∀ b : Bool, F_X3_systemWhat (nI k) (nI t) b = nI (swh k t b) := by decide +kernel
theorem swhM : ∀ k ∈ [128, 256, 512, 513, 520, 528, 530, 656, 768, 1536, 6672, 6673, 7810], ∀ t, t < 32 → (sysM (nI k) (nI t) = lN (swh k t false) ∧ sysM (nI k) (nI t) ||| 1 = lN (swh k t true)) := by decide +kernel
theorem swh_lt : ∀ k ∈ [128, 256, 512, 513, 520, 528, 530, 656, 768, 1536, 6672, 6673, 7810], ∀ t, t < 32 → ∀ b : Bool, swh k t b < 2 ^ 25 := by decide +kernel
theorem sys_exc {τ : MS} {pc : Int64} (t0 : Int32) (h : Ok τ pc) {k t : Nat} (hk : k ∈ [128, 256, 512, 513, 520, 528, 530, 656, 768, 1536, 6672, 6673, 7810]) (ht : t < 32) (b : Bool) : Res (F_X12_system_c144 τ b (sysM (nI k) (nI t))) (F_X3_system_c109 (F_X8_raise (xm τ pc t0) 24 (F_X3_systemWhat (nI k) (nI t) b)) (m_ins τ)) τ pc t0 := by
  unfold F_X12_system_c144 F_X12_system_c154 F_X3_system_c109
  rw [swhX k hk t ht b, show (24 : Int32) = nI 24 from rfl, raise_eq h.1 pc t0 (by decide) (swh_lt k hk t ht b), st2 h]
  cases b
  · rw [iff_f, (swhM k hk t ht).1, exception_eq h.1]
    exact Res.of ⟨_, rfl, Ok'_exc h.1 _ _ _ _, rfl⟩
  · rw [iff_t, (swhM k hk t ht).2, exception_eq h.1]
    exact Res.of ⟨_, rfl, Ok'_exc h.1 _ _ _ _, rfl⟩
theorem tailT {τ : MS} {pc : Int64} (t0 : Int32) (h : Ok' τ pc) {t : Nat} (ht : t < 32) (v : Int64) : ∃ τ', F_X12_system_c256 τ (nI t) v = some τ' ∧ Ok' τ' pc ∧ F_X8_putRegister (xm τ pc t0) (nI t) v = xm τ' pc t0 := by
  unfold F_X12_system_c256
  refine ⟨putR τ t v, ?_, Ok_putR h _ _, xputR τ pc t0 ht v⟩
  rw [put_eq _ ht]
  rfl
theorem sys_read {τ : MS} {pc : Int64} (t0 : Int32) (h : Ok τ pc) {t : Nat} (ht : t < 32) {o : Option MS} {v : Int64} (ho : o = F_X12_system_c256 τ (nI t) v) {x : Int64} (hx : x = v) : Res o (F_X3_system_c140 (F_X8_putRegister (xm τ pc t0) (nI t) x) (m_ins τ)) τ pc t0 := by
  subst hx
  obtain ⟨τ', a1, a2, a3⟩ := tailT t0 h.ok' ht x
  unfold F_X3_system_c140
  rw [ho, a3]
  exact Res.of ⟨τ', a1, a2, rfl⟩
theorem ushr0 (x : Int64) : j_lushr x 0 = x := by
  apply l_ext
  intro i hi
  rw [lb_ushr, show (0 : Int32) = nI 0 from rfl, s6_nI (by decide), Nat.zero_add]
theorem shl2_level (b : Bool) : j_lshl (zB b).toInt64 2 = 4 * (zB b).toInt64 := by cases b <;> decide
theorem sys_128 {τ : MS} {pc : Int64} (t0 : Int32) (h : Ok τ pc) {t : Nat} (ht : t < 32) (b : Bool) : Res (F_X12_system_c70 τ 128 b (nI t) (F_X12_slot 128)) (F_X3_system_c69 (xm τ pc t0) (m_ins τ) b 128 34 (nI t)) τ pc t0 := by
  have main : Res (F_X12_system_c169 τ 128 b (nI t) (F_X12_slot 128)) (F_X3_system_c112 (xm τ pc t0) (m_ins τ) b 34 (nI t)) τ pc t0 := by
    unfold F_X12_system_c169 F_X3_system_c112
    rw [show F_X3_placeOf 34 = 0 from rfl, show F_X12_slot 128 = 3 from rfl]
    cases b
    · rw [iff_f, iff_f, mreg _ ht, Option.bind_some, xreg _ _ _ ht]
      unfold F_X3_system_c167
      rw [if_neg (show ¬ (3 : Int32) < 0 by decide), if_neg (show ¬ ((3 : Int32) < 0 ∨ 11 ≤ (3 : Int32).toNatClampNeg) by decide), show (3 : Int32).toNatClampNeg = 3 from rfl, ushr0, show (34 : Int32) = nI (31 + 3) from rfl, xset_st τ pc t0 (by decide) (by decide)]
      refine Res.of ⟨mu_state τ (vp_updL (m_state τ) 3 (rg τ t)), rfl, ⟨h.1, fun _ => ?_⟩, rfl⟩
      exact h.2.2
    · rw [iff_t, iff_t]
      rw [if_neg (show ¬ (3 : Int32) < 0 by decide), if_neg (show ¬ ((3 : Int32) < 0 ∨ 11 ≤ (3 : Int32).toNatClampNeg) by decide), show (3 : Int32).toNatClampNeg = 3 from rfl, shl_zero, show (34 : Int32) = nI (31 + 3) from rfl, part_eq _ (by decide), xP_st _ _ _ (by decide) (by decide)]
      exact sys_read t0 h ht rfl rfl
  unfold F_X12_system_c70 F_X3_system_c69
  rw [xlevel h.1]
  by_cases hz : m_level τ = 0
  · rw [if_pos hz, if_pos hz]
    exact sys_exc t0 h (k := 128) (by decide) ht b
  · rw [if_neg hz, if_neg hz]
    exact main
theorem sys_256 {τ : MS} {pc : Int64} (t0 : Int32) (h : Ok τ pc) {t : Nat} (ht : t < 32) (b : Bool) : Res (F_X12_system_c70 τ 256 b (nI t) (F_X12_slot 256)) (F_X3_system_c69 (xm τ pc t0) (m_ins τ) b 256 35 (nI t)) τ pc t0 := by
  have main : Res (F_X12_system_c169 τ 256 b (nI t) (F_X12_slot 256)) (F_X3_system_c112 (xm τ pc t0) (m_ins τ) b 35 (nI t)) τ pc t0 := by
    unfold F_X12_system_c169 F_X3_system_c112
    rw [show F_X3_placeOf 35 = 0 from rfl, show F_X12_slot 256 = 4 from rfl]
    cases b
    · rw [iff_f, iff_f, mreg _ ht, Option.bind_some, xreg _ _ _ ht]
      unfold F_X3_system_c167
      rw [if_neg (show ¬ (4 : Int32) < 0 by decide), if_neg (show ¬ ((4 : Int32) < 0 ∨ 11 ≤ (4 : Int32).toNatClampNeg) by decide), show (4 : Int32).toNatClampNeg = 4 from rfl, ushr0, show (35 : Int32) = nI (31 + 4) from rfl, xset_st τ pc t0 (by decide) (by decide)]
      refine Res.of ⟨mu_state τ (vp_updL (m_state τ) 4 (rg τ t)), rfl, ⟨h.1, fun _ => ?_⟩, rfl⟩
      exact h.2.2
    · rw [iff_t, iff_t]
      rw [if_neg (show ¬ (4 : Int32) < 0 by decide), if_neg (show ¬ ((4 : Int32) < 0 ∨ 11 ≤ (4 : Int32).toNatClampNeg) by decide), show (4 : Int32).toNatClampNeg = 4 from rfl, shl_zero, show (35 : Int32) = nI (31 + 4) from rfl, part_eq _ (by decide), xP_st _ _ _ (by decide) (by decide)]
      exact sys_read t0 h ht rfl rfl
  unfold F_X12_system_c70 F_X3_system_c69
  rw [xlevel h.1]
  by_cases hz : m_level τ = 0
  · rw [if_pos hz, if_pos hz]
    exact sys_exc t0 h (k := 256) (by decide) ht b
  · rw [if_neg hz, if_neg hz]
    exact main
theorem sys_520 {τ : MS} {pc : Int64} (t0 : Int32) (h : Ok τ pc) {t : Nat} (ht : t < 32) (b : Bool) : Res (F_X12_system_c70 τ 520 b (nI t) (F_X12_slot 520)) (F_X3_system_c69 (xm τ pc t0) (m_ins τ) b 520 31 (nI t)) τ pc t0 := by
  have main : Res (F_X12_system_c169 τ 520 b (nI t) (F_X12_slot 520)) (F_X3_system_c112 (xm τ pc t0) (m_ins τ) b 31 (nI t)) τ pc t0 := by
    unfold F_X12_system_c169 F_X3_system_c112
    rw [show F_X3_placeOf 31 = 0 from rfl, show F_X12_slot 520 = 0 from rfl]
    cases b
    · rw [iff_f, iff_f, mreg _ ht, Option.bind_some, xreg _ _ _ ht]
      unfold F_X3_system_c167
      rw [if_neg (show ¬ (0 : Int32) < 0 by decide), if_neg (show ¬ ((0 : Int32) < 0 ∨ 11 ≤ (0 : Int32).toNatClampNeg) by decide), show (0 : Int32).toNatClampNeg = 0 from rfl, ushr0, show (31 : Int32) = nI (31 + 0) from rfl, xset_st τ pc t0 (by decide) (by decide)]
      refine Res.of ⟨mu_state τ (vp_updL (m_state τ) 0 (rg τ t)), rfl, ⟨h.1, fun _ => ?_⟩, rfl⟩
      exact h.2.2
    · rw [iff_t, iff_t]
      rw [if_neg (show ¬ (0 : Int32) < 0 by decide), if_neg (show ¬ ((0 : Int32) < 0 ∨ 11 ≤ (0 : Int32).toNatClampNeg) by decide), show (0 : Int32).toNatClampNeg = 0 from rfl, shl_zero, show (31 : Int32) = nI (31 + 0) from rfl, part_eq _ (by decide), xP_st _ _ _ (by decide) (by decide)]
      exact sys_read t0 h ht rfl rfl
  unfold F_X12_system_c70 F_X3_system_c69
  rw [xlevel h.1]
  by_cases hz : m_level τ = 0
  · rw [if_pos hz, if_pos hz]
    exact sys_exc t0 h (k := 520) (by decide) ht b
  · rw [if_neg hz, if_neg hz]
    exact main
theorem sys_512 {τ : MS} {pc : Int64} (t0 : Int32) (h : Ok τ pc) {t : Nat} (ht : t < 32) (b : Bool) : Res (F_X12_system_c70 τ 512 b (nI t) (F_X12_slot 512)) (F_X3_system_c69 (xm τ pc t0) (m_ins τ) b 512 38 (nI t)) τ pc t0 := by
  have main : Res (F_X12_system_c169 τ 512 b (nI t) (F_X12_slot 512)) (F_X3_system_c112 (xm τ pc t0) (m_ins τ) b 38 (nI t)) τ pc t0 := by
    unfold F_X12_system_c169 F_X3_system_c112
    rw [show F_X3_placeOf 38 = 0 from rfl, show F_X12_slot 512 = 7 from rfl]
    cases b
    · rw [iff_f, iff_f, mreg _ ht, Option.bind_some, xreg _ _ _ ht]
      unfold F_X3_system_c167
      rw [if_neg (show ¬ (7 : Int32) < 0 by decide), if_neg (show ¬ ((7 : Int32) < 0 ∨ 11 ≤ (7 : Int32).toNatClampNeg) by decide), show (7 : Int32).toNatClampNeg = 7 from rfl, ushr0, show (38 : Int32) = nI (31 + 7) from rfl, xset_st τ pc t0 (by decide) (by decide)]
      refine Res.of ⟨mu_state τ (vp_updL (m_state τ) 7 (rg τ t)), rfl, ⟨h.1, fun _ => ?_⟩, rfl⟩
      exact h.2.2
    · rw [iff_t, iff_t]
      rw [if_neg (show ¬ (7 : Int32) < 0 by decide), if_neg (show ¬ ((7 : Int32) < 0 ∨ 11 ≤ (7 : Int32).toNatClampNeg) by decide), show (7 : Int32).toNatClampNeg = 7 from rfl, shl_zero, show (38 : Int32) = nI (31 + 7) from rfl, part_eq _ (by decide), xP_st _ _ _ (by decide) (by decide)]
      exact sys_read t0 h ht rfl rfl
  unfold F_X12_system_c70 F_X3_system_c69
  rw [xlevel h.1]
  by_cases hz : m_level τ = 0
  · rw [if_pos hz, if_pos hz]
    exact sys_exc t0 h (k := 512) (by decide) ht b
  · rw [if_neg hz, if_neg hz]
    exact main
theorem sys_513 {τ : MS} {pc : Int64} (t0 : Int32) (h : Ok τ pc) {t : Nat} (ht : t < 32) (b : Bool) : Res (F_X12_system_c70 τ 513 b (nI t) (F_X12_slot 513)) (F_X3_system_c69 (xm τ pc t0) (m_ins τ) b 513 37 (nI t)) τ pc t0 := by
  have main : Res (F_X12_system_c169 τ 513 b (nI t) (F_X12_slot 513)) (F_X3_system_c112 (xm τ pc t0) (m_ins τ) b 37 (nI t)) τ pc t0 := by
    unfold F_X12_system_c169 F_X3_system_c112
    rw [show F_X3_placeOf 37 = 0 from rfl, show F_X12_slot 513 = 6 from rfl]
    cases b
    · rw [iff_f, iff_f, mreg _ ht, Option.bind_some, xreg _ _ _ ht]
      unfold F_X3_system_c167
      rw [if_neg (show ¬ (6 : Int32) < 0 by decide), if_neg (show ¬ ((6 : Int32) < 0 ∨ 11 ≤ (6 : Int32).toNatClampNeg) by decide), show (6 : Int32).toNatClampNeg = 6 from rfl, ushr0, show (37 : Int32) = nI (31 + 6) from rfl, xset_st τ pc t0 (by decide) (by decide)]
      refine Res.of ⟨mu_state τ (vp_updL (m_state τ) 6 (rg τ t)), rfl, ⟨h.1, fun _ => ?_⟩, rfl⟩
      exact h.2.2
    · rw [iff_t, iff_t]
      rw [if_neg (show ¬ (6 : Int32) < 0 by decide), if_neg (show ¬ ((6 : Int32) < 0 ∨ 11 ≤ (6 : Int32).toNatClampNeg) by decide), show (6 : Int32).toNatClampNeg = 6 from rfl, shl_zero, show (37 : Int32) = nI (31 + 6) from rfl, part_eq _ (by decide), xP_st _ _ _ (by decide) (by decide)]
      exact sys_read t0 h ht rfl rfl
  unfold F_X12_system_c70 F_X3_system_c69
  rw [xlevel h.1]
  by_cases hz : m_level τ = 0
  · rw [if_pos hz, if_pos hz]
    exact sys_exc t0 h (k := 513) (by decide) ht b
  · rw [if_neg hz, if_neg hz]
    exact main
theorem sys_656 {τ : MS} {pc : Int64} (t0 : Int32) (h : Ok τ pc) {t : Nat} (ht : t < 32) (b : Bool) : Res (F_X12_system_c70 τ 656 b (nI t) (F_X12_slot 656)) (F_X3_system_c69 (xm τ pc t0) (m_ins τ) b 656 39 (nI t)) τ pc t0 := by
  have main : Res (F_X12_system_c169 τ 656 b (nI t) (F_X12_slot 656)) (F_X3_system_c112 (xm τ pc t0) (m_ins τ) b 39 (nI t)) τ pc t0 := by
    unfold F_X12_system_c169 F_X3_system_c112
    rw [show F_X3_placeOf 39 = 0 from rfl, show F_X12_slot 656 = 8 from rfl]
    cases b
    · rw [iff_f, iff_f, mreg _ ht, Option.bind_some, xreg _ _ _ ht]
      unfold F_X3_system_c167
      rw [if_neg (show ¬ (8 : Int32) < 0 by decide), if_neg (show ¬ ((8 : Int32) < 0 ∨ 11 ≤ (8 : Int32).toNatClampNeg) by decide), show (8 : Int32).toNatClampNeg = 8 from rfl, ushr0, show (39 : Int32) = nI (31 + 8) from rfl, xset_st τ pc t0 (by decide) (by decide)]
      refine Res.of ⟨mu_state τ (vp_updL (m_state τ) 8 (rg τ t)), rfl, ⟨h.1, fun _ => ?_⟩, rfl⟩
      exact h.2.2
    · rw [iff_t, iff_t]
      rw [if_neg (show ¬ (8 : Int32) < 0 by decide), if_neg (show ¬ ((8 : Int32) < 0 ∨ 11 ≤ (8 : Int32).toNatClampNeg) by decide), show (8 : Int32).toNatClampNeg = 8 from rfl, shl_zero, show (39 : Int32) = nI (31 + 8) from rfl, part_eq _ (by decide), xP_st _ _ _ (by decide) (by decide)]
      exact sys_read t0 h ht rfl rfl
  unfold F_X12_system_c70 F_X3_system_c69
  rw [xlevel h.1]
  by_cases hz : m_level τ = 0
  · rw [if_pos hz, if_pos hz]
    exact sys_exc t0 h (k := 656) (by decide) ht b
  · rw [if_neg hz, if_neg hz]
    exact main
theorem sys_768 {τ : MS} {pc : Int64} (t0 : Int32) (h : Ok τ pc) {t : Nat} (ht : t < 32) (b : Bool) : Res (F_X12_system_c70 τ 768 b (nI t) (F_X12_slot 768)) (F_X3_system_c69 (xm τ pc t0) (m_ins τ) b 768 40 (nI t)) τ pc t0 := by
  have main : Res (F_X12_system_c169 τ 768 b (nI t) (F_X12_slot 768)) (F_X3_system_c112 (xm τ pc t0) (m_ins τ) b 40 (nI t)) τ pc t0 := by
    unfold F_X12_system_c169 F_X3_system_c112
    rw [show F_X3_placeOf 40 = 0 from rfl, show F_X12_slot 768 = 9 from rfl]
    cases b
    · rw [iff_f, iff_f, mreg _ ht, Option.bind_some, xreg _ _ _ ht]
      unfold F_X3_system_c167
      rw [if_neg (show ¬ (9 : Int32) < 0 by decide), if_neg (show ¬ ((9 : Int32) < 0 ∨ 11 ≤ (9 : Int32).toNatClampNeg) by decide), show (9 : Int32).toNatClampNeg = 9 from rfl, ushr0, show (40 : Int32) = nI (31 + 9) from rfl, xset_st τ pc t0 (by decide) (by decide)]
      refine Res.of ⟨mu_state τ (vp_updL (m_state τ) 9 (rg τ t)), rfl, ⟨h.1, fun _ => ?_⟩, rfl⟩
      exact h.2.2
    · rw [iff_t, iff_t]
      rw [if_neg (show ¬ (9 : Int32) < 0 by decide), if_neg (show ¬ ((9 : Int32) < 0 ∨ 11 ≤ (9 : Int32).toNatClampNeg) by decide), show (9 : Int32).toNatClampNeg = 9 from rfl, shl_zero, show (40 : Int32) = nI (31 + 9) from rfl, part_eq _ (by decide), xP_st _ _ _ (by decide) (by decide)]
      exact sys_read t0 h ht rfl rfl
  unfold F_X12_system_c70 F_X3_system_c69
  rw [xlevel h.1]
  by_cases hz : m_level τ = 0
  · rw [if_pos hz, if_pos hz]
    exact sys_exc t0 h (k := 768) (by decide) ht b
  · rw [if_neg hz, if_neg hz]
    exact main
theorem sys_1536 {τ : MS} {pc : Int64} (t0 : Int32) (h : Ok τ pc) {t : Nat} (ht : t < 32) (b : Bool) : Res (F_X12_system_c70 τ 1536 b (nI t) (F_X12_slot 1536)) (F_X3_system_c69 (xm τ pc t0) (m_ins τ) b 1536 36 (nI t)) τ pc t0 := by
  have main : Res (F_X12_system_c169 τ 1536 b (nI t) (F_X12_slot 1536)) (F_X3_system_c112 (xm τ pc t0) (m_ins τ) b 36 (nI t)) τ pc t0 := by
    unfold F_X12_system_c169 F_X3_system_c112
    rw [show F_X3_placeOf 36 = 0 from rfl, show F_X12_slot 1536 = 5 from rfl]
    cases b
    · rw [iff_f, iff_f, mreg _ ht, Option.bind_some, xreg _ _ _ ht]
      unfold F_X3_system_c167
      rw [if_neg (show ¬ (5 : Int32) < 0 by decide), if_neg (show ¬ ((5 : Int32) < 0 ∨ 11 ≤ (5 : Int32).toNatClampNeg) by decide), show (5 : Int32).toNatClampNeg = 5 from rfl, ushr0, show (36 : Int32) = nI (31 + 5) from rfl, xset_st τ pc t0 (by decide) (by decide)]
      refine Res.of ⟨mu_state τ (vp_updL (m_state τ) 5 (rg τ t)), rfl, ⟨h.1, fun _ => ?_⟩, rfl⟩
      exact h.2.2
    · rw [iff_t, iff_t]
      rw [if_neg (show ¬ (5 : Int32) < 0 by decide), if_neg (show ¬ ((5 : Int32) < 0 ∨ 11 ≤ (5 : Int32).toNatClampNeg) by decide), show (5 : Int32).toNatClampNeg = 5 from rfl, shl_zero, show (36 : Int32) = nI (31 + 5) from rfl, part_eq _ (by decide), xP_st _ _ _ (by decide) (by decide)]
      exact sys_read t0 h ht rfl rfl
  unfold F_X12_system_c70 F_X3_system_c69
  rw [xlevel h.1]
  by_cases hz : m_level τ = 0
  · rw [if_pos hz, if_pos hz]
    exact sys_exc t0 h (k := 1536) (by decide) ht b
  · rw [if_neg hz, if_neg hz]
    exact main
theorem sys_7810 {τ : MS} {pc : Int64} (t0 : Int32) (h : Ok τ pc) {t : Nat} (ht : t < 32) (b : Bool) : Res (F_X12_system_c70 τ 7810 b (nI t) (F_X12_slot 7810)) (F_X3_system_c69 (xm τ pc t0) (m_ins τ) b 7810 41 (nI t)) τ pc t0 := by
  have main : Res (F_X12_system_c169 τ 7810 b (nI t) (F_X12_slot 7810)) (F_X3_system_c112 (xm τ pc t0) (m_ins τ) b 41 (nI t)) τ pc t0 := by
    unfold F_X12_system_c169 F_X3_system_c112
    rw [show F_X3_placeOf 41 = 0 from rfl, show F_X12_slot 7810 = 10 from rfl]
    cases b
    · rw [iff_f, iff_f, mreg _ ht, Option.bind_some, xreg _ _ _ ht]
      unfold F_X3_system_c167
      rw [if_neg (show ¬ (10 : Int32) < 0 by decide), if_neg (show ¬ ((10 : Int32) < 0 ∨ 11 ≤ (10 : Int32).toNatClampNeg) by decide), show (10 : Int32).toNatClampNeg = 10 from rfl, ushr0, show (41 : Int32) = nI (31 + 10) from rfl, xset_st τ pc t0 (by decide) (by decide)]
      refine Res.of ⟨mu_state τ (vp_updL (m_state τ) 10 (rg τ t)), rfl, ⟨h.1, fun _ => ?_⟩, rfl⟩
      exact h.2.2
    · rw [iff_t, iff_t]
      rw [if_neg (show ¬ (10 : Int32) < 0 by decide), if_neg (show ¬ ((10 : Int32) < 0 ∨ 11 ≤ (10 : Int32).toNatClampNeg) by decide), show (10 : Int32).toNatClampNeg = 10 from rfl, shl_zero, show (41 : Int32) = nI (31 + 10) from rfl, part_eq _ (by decide), xP_st _ _ _ (by decide) (by decide)]
      exact sys_read t0 h ht rfl rfl
  unfold F_X12_system_c70 F_X3_system_c69
  rw [xlevel h.1]
  by_cases hz : m_level τ = 0
  · rw [if_pos hz, if_pos hz]
    exact main
  · rw [if_neg hz, if_neg hz]
    exact main
theorem sys_528 {τ : MS} {pc : Int64} (t0 : Int32) (h : Ok τ pc) {t : Nat} (ht : t < 32) (b : Bool) : Res (F_X12_system_c70 τ 528 b (nI t) (F_X12_slot 528)) (F_X3_system_c69 (xm τ pc t0) (m_ins τ) b 528 44 (nI t)) τ pc t0 := by
  have main : Res (F_X12_system_c169 τ 528 b (nI t) (F_X12_slot 528)) (F_X3_system_c112 (xm τ pc t0) (m_ins τ) b 44 (nI t)) τ pc t0 := by
    unfold F_X12_system_c169 F_X3_system_c112
    rw [show F_X3_placeOf 44 = 0 from rfl, show F_X12_slot 528 = -1 from rfl]
    cases b
    · rw [iff_f, iff_f, mreg _ ht, Option.bind_some, xreg _ _ _ ht]
      unfold F_X3_system_c167
      rw [if_pos (show ((-1 : Int32) < 0) by decide), ushr0, xset_select τ pc t0 (v := zB (lb (rg τ t) 0)) (by rw [and1_l, zB_l])]
      refine Res.of ⟨mu_select τ (zB (lb (rg τ t) 0)), ?_, ⟨Inv_select h.1 _, fun _ => h.2.2⟩, rfl⟩
      show some (mu_select τ (rg τ t &&& 1).toInt32) = _
      rw [and1_l, lN_i, ← zB_n]
    · rw [iff_t, iff_t]
      rw [if_pos (show ((-1 : Int32) < 0) by decide), show (44 : Int32) = nI 44 from rfl, part_eq _ (by decide), xP_44]
      exact sys_read t0 h ht (v := (m_select τ).toInt64) rfl (shl_zero _)
  unfold F_X12_system_c70 F_X3_system_c69
  rw [xlevel h.1]
  by_cases hz : m_level τ = 0
  · rw [if_pos hz, if_pos hz]
    exact sys_exc t0 h (k := 528) (by decide) ht b
  · rw [if_neg hz, if_neg hz]
    exact main
theorem sys_530 {τ : MS} {pc : Int64} (t0 : Int32) (h : Ok τ pc) {t : Nat} (ht : t < 32) (b : Bool) (hb : b = true) : Res (F_X12_system_c70 τ 530 b (nI t) (F_X12_slot 530)) (F_X3_system_c69 (xm τ pc t0) (m_ins τ) b 530 43 (nI t)) τ pc t0 := by
  have main : Res (F_X12_system_c169 τ 530 b (nI t) (F_X12_slot 530)) (F_X3_system_c112 (xm τ pc t0) (m_ins τ) b 43 (nI t)) τ pc t0 := by
    unfold F_X12_system_c169 F_X3_system_c112
    rw [show F_X3_placeOf 43 = 2 from rfl, show F_X12_slot 530 = -1 from rfl]
    cases b
    · cases hb
    · rw [iff_t, iff_t]
      rw [if_pos (show ((-1 : Int32) < 0) by decide), show (43 : Int32) = nI 43 from rfl, part_eq _ (by decide), xP_43]
      obtain ⟨bl, hbl⟩ := h.1.2.1
      exact sys_read t0 h ht (v := 4 * (m_level τ).toInt64) rfl (by rw [hbl, shl2_level])
  unfold F_X12_system_c70 F_X3_system_c69
  rw [xlevel h.1]
  by_cases hz : m_level τ = 0
  · rw [if_pos hz, if_pos hz]
    exact sys_exc t0 h (k := 530) (by decide) ht b
  · rw [if_neg hz, if_neg hz]
    exact main
theorem sys_6672 {τ : MS} {pc : Int64} (t0 : Int32) (h : Ok τ pc) {t : Nat} (ht : t < 32) (b : Bool) : Res (F_X12_system_c70 τ 6672 b (nI t) (F_X12_slot 6672)) (F_X3_system_c69 (xm τ pc t0) (m_ins τ) b 6672 42 (nI t)) τ pc t0 := by
  have main : Res (F_X12_system_c169 τ 6672 b (nI t) (F_X12_slot 6672)) (F_X3_system_c112 (xm τ pc t0) (m_ins τ) b 42 (nI t)) τ pc t0 := by
    unfold F_X12_system_c169 F_X3_system_c112
    rw [show F_X3_placeOf 42 = 28 from rfl, show F_X12_slot 6672 = -1 from rfl]
    cases b
    · rw [iff_f, iff_f, mreg _ ht, Option.bind_some, xreg _ _ _ ht]
      unfold F_X3_system_c167
      rw [if_pos (show ((-1 : Int32) < 0) by decide), xset_flags τ pc t0 (ushr28 _)]
      refine Res.of ⟨mu_flags τ (nI (lU (rg τ t) / 2 ^ 28 % 16)), ?_, ⟨Inv_flags h.1 (Nat.mod_lt _ (by decide)), fun _ => h.2.2⟩, rfl⟩
      show ((F_X12_bits (rg τ t) 31 28).bind fun v5 => F_X12_system_c322 (mu_flags τ v5.toInt32) 6672 (rg τ t)) = _
      rw [bits3128, Option.bind_some, lN_i]
      rfl
    · rw [iff_t, iff_t]
      rw [if_pos (show ((-1 : Int32) < 0) by decide), show (42 : Int32) = nI 42 from rfl, part_eq _ (by decide), xP_42]
      exact sys_read t0 h ht (v := j_lshl (m_flags τ).toInt64 28) rfl rfl
  unfold F_X12_system_c70 F_X3_system_c69
  rw [xlevel h.1]
  by_cases hz : m_level τ = 0
  · rw [if_pos hz, if_pos hz]
    exact main
  · rw [if_neg hz, if_neg hz]
    exact main
theorem sys_6673 {τ : MS} {pc : Int64} (t0 : Int32) (h : Ok τ pc) {t : Nat} (ht : t < 32) (b : Bool) : Res (F_X12_system_c70 τ 6673 b (nI t) (F_X12_slot 6673)) (F_X3_system_c69 (xm τ pc t0) (m_ins τ) b 6673 45 (nI t)) τ pc t0 := by
  have main : Res (F_X12_system_c169 τ 6673 b (nI t) (F_X12_slot 6673)) (F_X3_system_c112 (xm τ pc t0) (m_ins τ) b 45 (nI t)) τ pc t0 := by
    unfold F_X12_system_c169 F_X3_system_c112
    rw [show F_X3_placeOf 45 = 7 from rfl, show F_X12_slot 6673 = -1 from rfl]
    cases b
    · rw [iff_f, iff_f, mreg _ ht, Option.bind_some, xreg _ _ _ ht]
      unfold F_X3_system_c167
      rw [if_pos (show ((-1 : Int32) < 0) by decide), xset_masked τ pc t0 (ushr7 _)]
      refine Res.of ⟨mu_masked τ (zB (lb (rg τ t) 7)), ?_, ⟨Inv_masked h.1 _, fun _ => h.2.2⟩, rfl⟩
      show ((F_X12_bits (rg τ t) 7 7).bind fun v4 => some (mu_masked τ v4.toInt32)) = _
      rw [bits77, Option.bind_some, lN_i, ← zB_n]
    · rw [iff_t, iff_t]
      rw [if_pos (show ((-1 : Int32) < 0) by decide), show (45 : Int32) = nI 45 from rfl, part_eq _ (by decide), xP_45]
      exact sys_read t0 h ht (v := j_lshl (m_masked τ).toInt64 7) rfl rfl
  unfold F_X12_system_c70 F_X3_system_c69
  rw [xlevel h.1]
  by_cases hz : m_level τ = 0
  · rw [if_pos hz, if_pos hz]
    exact sys_exc t0 h (k := 6673) (by decide) ht b
  · rw [if_neg hz, if_neg hz]
    exact main
theorem i_system {τ : MS} {pc : Int64} (t0 : Int32) (h : Ok τ pc) (h1 : fN (iU (m_ins τ)) 22 10 = 852) (h2 : fN (iU (m_ins τ)) 19 2 = 3) : Res (F_X12_system τ) (F_X3_system (xm τ pc t0) (m_ins τ)) τ pc t0 := by
  have hk := fN_lt (iU (m_ins τ)) 5 14
  have ht := fN_lt (iU (m_ins τ)) 0 5
  unfold F_X12_system F_X3_system F_X3_system_c7 F_X3_system_c15 F_X12_system_c15 F_X3_system_c21 F_X3_system_c61
  rw [fL_18_5, Option.bind_some, oL_21, fL_4_0, Option.bind_some, pL_21, gL_5_14, show (22 : Int32) = nI 22 from rfl, top23 (c := 852) h1 (by decide), if_pos (show nI 852 = (852 : Int32) from rfl), gL_19_2, h2, if_pos (show nI 3 = (3 : Int32) from rfl), gL_0_5]
  generalize (iU (m_ins τ)).testBit 21 = b
  generalize fN (iU (m_ins τ)) 0 5 = t at ht
  generalize fN (iU (m_ins τ)) 5 14 = k at hk
  unfold F_X12_system_c28
  by_cases e128 : k = 128
  · subst e128
    rw [show F_X3_partOf (nI 128) = 34 from rfl, if_neg (show ¬ (34 : Int32) = -1 by decide)]
    rw [if_neg (show ¬ (34 : Int32) = 43 by decide)]
    rw [if_pos (show (0 ≤ F_X12_slot (nI 128)) by decide)]
    exact sys_128 t0 h ht b
  by_cases e256 : k = 256
  · subst e256
    rw [show F_X3_partOf (nI 256) = 35 from rfl, if_neg (show ¬ (35 : Int32) = -1 by decide)]
    rw [if_neg (show ¬ (35 : Int32) = 43 by decide)]
    rw [if_pos (show (0 ≤ F_X12_slot (nI 256)) by decide)]
    exact sys_256 t0 h ht b
  by_cases e512 : k = 512
  · subst e512
    rw [show F_X3_partOf (nI 512) = 38 from rfl, if_neg (show ¬ (38 : Int32) = -1 by decide)]
    rw [if_neg (show ¬ (38 : Int32) = 43 by decide)]
    rw [if_pos (show (0 ≤ F_X12_slot (nI 512)) by decide)]
    exact sys_512 t0 h ht b
  by_cases e513 : k = 513
  · subst e513
    rw [show F_X3_partOf (nI 513) = 37 from rfl, if_neg (show ¬ (37 : Int32) = -1 by decide)]
    rw [if_neg (show ¬ (37 : Int32) = 43 by decide)]
    rw [if_pos (show (0 ≤ F_X12_slot (nI 513)) by decide)]
    exact sys_513 t0 h ht b
  by_cases e520 : k = 520
  · subst e520
    rw [show F_X3_partOf (nI 520) = 31 from rfl, if_neg (show ¬ (31 : Int32) = -1 by decide)]
    rw [if_neg (show ¬ (31 : Int32) = 43 by decide)]
    rw [if_pos (show (0 ≤ F_X12_slot (nI 520)) by decide)]
    exact sys_520 t0 h ht b
  by_cases e528 : k = 528
  · subst e528
    rw [show F_X3_partOf (nI 528) = 44 from rfl, if_neg (show ¬ (44 : Int32) = -1 by decide)]
    rw [if_neg (show ¬ (44 : Int32) = 43 by decide)]
    rw [if_neg (show ¬ (0 ≤ F_X12_slot (nI 528)) by decide), if_pos (show nI 528 = (528 : Int32) from rfl)]
    exact sys_528 t0 h ht b
  by_cases e530 : k = 530
  · subst e530
    rw [show F_X3_partOf (nI 530) = 43 from rfl, if_neg (show ¬ (43 : Int32) = -1 by decide)]
    rw [if_pos (show (43 : Int32) = 43 from rfl), if_neg (show ¬ (0 ≤ F_X12_slot (nI 530)) by decide), if_neg (show ¬ nI 530 = (528 : Int32) by decide), if_neg (show ¬ nI 530 = (6672 : Int32) by decide), if_neg (show ¬ nI 530 = (6673 : Int32) by decide), if_pos (show nI 530 = (530 : Int32) from rfl)]
    cases b
    · rw [iff_f, iff_f]
      exact Res.none h rfl rfl
    · rw [iff_t, iff_t]
      exact sys_530 t0 h ht true rfl
  by_cases e656 : k = 656
  · subst e656
    rw [show F_X3_partOf (nI 656) = 39 from rfl, if_neg (show ¬ (39 : Int32) = -1 by decide)]
    rw [if_neg (show ¬ (39 : Int32) = 43 by decide)]
    rw [if_pos (show (0 ≤ F_X12_slot (nI 656)) by decide)]
    exact sys_656 t0 h ht b
  by_cases e768 : k = 768
  · subst e768
    rw [show F_X3_partOf (nI 768) = 40 from rfl, if_neg (show ¬ (40 : Int32) = -1 by decide)]
    rw [if_neg (show ¬ (40 : Int32) = 43 by decide)]
    rw [if_pos (show (0 ≤ F_X12_slot (nI 768)) by decide)]
    exact sys_768 t0 h ht b
  by_cases e1536 : k = 1536
  · subst e1536
    rw [show F_X3_partOf (nI 1536) = 36 from rfl, if_neg (show ¬ (36 : Int32) = -1 by decide)]
    rw [if_neg (show ¬ (36 : Int32) = 43 by decide)]
    rw [if_pos (show (0 ≤ F_X12_slot (nI 1536)) by decide)]
    exact sys_1536 t0 h ht b
  by_cases e6672 : k = 6672
  · subst e6672
    rw [show F_X3_partOf (nI 6672) = 42 from rfl, if_neg (show ¬ (42 : Int32) = -1 by decide)]
    rw [if_neg (show ¬ (42 : Int32) = 43 by decide)]
    rw [if_neg (show ¬ (0 ≤ F_X12_slot (nI 6672)) by decide), if_neg (show ¬ nI 6672 = (528 : Int32) by decide), if_pos (show nI 6672 = (6672 : Int32) from rfl)]
    exact sys_6672 t0 h ht b
  by_cases e6673 : k = 6673
  · subst e6673
    rw [show F_X3_partOf (nI 6673) = 45 from rfl, if_neg (show ¬ (45 : Int32) = -1 by decide)]
    rw [if_neg (show ¬ (45 : Int32) = 43 by decide)]
    rw [if_neg (show ¬ (0 ≤ F_X12_slot (nI 6673)) by decide), if_neg (show ¬ nI 6673 = (528 : Int32) by decide), if_neg (show ¬ nI 6673 = (6672 : Int32) by decide), if_pos (show nI 6673 = (6673 : Int32) from rfl)]
    exact sys_6673 t0 h ht b
  by_cases e7810 : k = 7810
  · subst e7810
    rw [show F_X3_partOf (nI 7810) = 41 from rfl, if_neg (show ¬ (41 : Int32) = -1 by decide)]
    rw [if_neg (show ¬ (41 : Int32) = 43 by decide)]
    rw [if_pos (show (0 ≤ F_X12_slot (nI 7810)) by decide)]
    exact sys_7810 t0 h ht b
  have n128 : ¬ nI k = (128 : Int32) := fun q => e128 ((eqN (n := 128) (by omega) (by omega)).mp q)
  have n256 : ¬ nI k = (256 : Int32) := fun q => e256 ((eqN (n := 256) (by omega) (by omega)).mp q)
  have n512 : ¬ nI k = (512 : Int32) := fun q => e512 ((eqN (n := 512) (by omega) (by omega)).mp q)
  have n513 : ¬ nI k = (513 : Int32) := fun q => e513 ((eqN (n := 513) (by omega) (by omega)).mp q)
  have n520 : ¬ nI k = (520 : Int32) := fun q => e520 ((eqN (n := 520) (by omega) (by omega)).mp q)
  have n528 : ¬ nI k = (528 : Int32) := fun q => e528 ((eqN (n := 528) (by omega) (by omega)).mp q)
  have n530 : ¬ nI k = (530 : Int32) := fun q => e530 ((eqN (n := 530) (by omega) (by omega)).mp q)
  have n656 : ¬ nI k = (656 : Int32) := fun q => e656 ((eqN (n := 656) (by omega) (by omega)).mp q)
  have n768 : ¬ nI k = (768 : Int32) := fun q => e768 ((eqN (n := 768) (by omega) (by omega)).mp q)
  have n1536 : ¬ nI k = (1536 : Int32) := fun q => e1536 ((eqN (n := 1536) (by omega) (by omega)).mp q)
  have n6672 : ¬ nI k = (6672 : Int32) := fun q => e6672 ((eqN (n := 6672) (by omega) (by omega)).mp q)
  have n6673 : ¬ nI k = (6673 : Int32) := fun q => e6673 ((eqN (n := 6673) (by omega) (by omega)).mp q)
  have n7810 : ¬ nI k = (7810 : Int32) := fun q => e7810 ((eqN (n := 7810) (by omega) (by omega)).mp q)
  have eP : F_X3_partOf (nI k) = -1 := by
    unfold F_X3_partOf
    rw [if_neg n128, if_neg n256, if_neg n512, if_neg n513, if_neg n520, if_neg n528, if_neg n530, if_neg n656, if_neg n768, if_neg n1536, if_neg n6672, if_neg n6673, if_neg n7810]
  have eS : F_X12_slot (nI k) = -1 := by
    unfold F_X12_slot
    rw [if_neg n128, if_neg n256, if_neg n520, if_neg n512, if_neg n513, if_neg n656, if_neg n768, if_neg n1536, if_neg n7810]
  rw [eP, if_pos rfl, eS, if_neg (show ¬ ((0 : Int32) ≤ -1) by decide), if_neg n528, if_neg n6672, if_neg n6673, if_neg n530]
  exact Res.none h rfl rfl
