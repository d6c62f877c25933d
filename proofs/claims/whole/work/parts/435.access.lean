theorem off_of {P n : Nat} (hn : n = 1 ∨ n = 2 ∨ n = 4 ∨ n = 8) (h : P % n = 0) : P % 8 + n ≤ 8 := by
  rcases hn with e | e | e | e <;> subst e <;> omega
def Rch (τ : MS) (pc : Int64) (t0 : Int32) (n : Nat) (o : Option (Bool × MS)) (x : Option (Int32 × XS)) : Prop :=
  (∃ P τ1, P + n ≤ 65536 ∧ P % 8 + n ≤ 8 ∧ Ok τ1 pc ∧ m_ins τ1 = m_ins τ ∧ m_place τ1 = lN P ∧ o = some (true, τ1) ∧ x = some (nI P, xm τ1 pc t0)) ∨ (∃ τ' v, o = some (false, τ') ∧ Ok' τ' pc ∧ x = some (v, xm τ' pc t0) ∧ ¬ (0 : Int32) ≤ v)
theorem rch {τ : MS} {pc : Int64} (t0 : Int32) (h : Ok τ pc) (a : Int64) {z : Nat} (hz : z < 4) (wr rd : Bool) (hr : rd = !wr) : Rch τ pc t0 (2 ^ z) (F_X12_reaches τ a (nI (2 ^ z)) wr) (F_X0_find (xm τ pc t0) a (nI (2 ^ z)) rd) := by
  subst hr
  rcases reach_spec t0 h a hz wr with ⟨P, h1, h2, h3, h4⟩ | h1
  · exact Or.inl ⟨P, scr τ (m_faultWhat τ) (lN P), h1, off_of (pw_cases hz) h2, h, rfl, rfl, h3, h4⟩
  · exact Or.inr h1
theorem near_go {τ : MS} {pc : Int64} (t0 : Int32) (h : Ok τ pc) {z : Nat} (hz : z < 4) : ∃ x, F_X0_near_c21 (xm τ pc t0) (m_ins τ) (nI (2 ^ z)) = some x ∧ Res (F_X12_near_c14 τ (nI (2 ^ z))) x τ pc t0 := by
  unfold F_X0_near_c21 F_X12_near_c14 F_X8_pc
  rw [sL_23_5, Option.bind_some, st2 h, show (33 : Int32).toNatClampNeg = 33 from rfl, xP_33]
  have hn := pw_cases hz
  rcases rch t0 h (pc + 4 * F_X1_signedField (m_ins τ) 5 19) hz false true rfl with ⟨P, τ1, h1, h2, h3, h4, h5, ho, hx⟩ | ⟨τ', v, ho, h2, hx, h3⟩
  · rw [ho, hx, Option.bind_some, Option.bind_some]
    dsimp only
    rw [iff_t, if_neg (nI_pos (by omega)), h5, lN_i, nI_toL (by omega), xread h3.1.2.2.2.2 pc t0 (by omega) (by omega) h1 h2, Option.bind_some, fL_4_0, Option.bind_some, mbytes h3.1.2.2.2.2 (by omega) (by omega) h1, Option.bind_some, put_eq _ (fN_lt _ _ _), Option.bind_some, gL_0_5, ← h4, xputR _ _ _ (fN_lt _ _ _)]
    exact ⟨_, rfl, Res.of ⟨_, rfl, Ok_putR ⟨h3.1, fun _ => h3.2.2⟩ _ _, rfl⟩⟩
  · rw [ho, hx, Option.bind_some, Option.bind_some]
    dsimp only
    rw [iff_f, if_pos (Int32.not_le.mp h3)]
    exact ⟨_, rfl, Res.of ⟨_, rfl, h2, rfl⟩⟩
theorem i_near {τ : MS} {pc : Int64} (t0 : Int32) (h : Ok τ pc) (h31 : (iU (m_ins τ)).testBit 31 = false) : ∃ x, F_X0_near (xm τ pc t0) (m_ins τ) = some x ∧ Res (F_X12_near τ) x τ pc t0 := by
  unfold F_X0_near F_X12_near
  rw [if_pos ((nneg_iff _).mpr h31), oL_30, pL_30]
  cases (iU (m_ins τ)).testBit 30
  · rw [iff_f, iff_f]
    exact near_go t0 h (z := 2) (by decide)
  · rw [iff_t, iff_t]
    exact near_go t0 h (z := 3) (by decide)
theorem shl1 : ∀ z, z < 4 → (1 : Int32) <<< (nI z &&& 31) = nI (2 ^ z) := by decide
theorem s64m : ∀ n, 1 ≤ n → n ≤ 8 → s6 ((64 : Int32) - (8 : Int32) * nI n) = (64 - 8 * n) % 64 := by
  intro n h1 h2
  have : n = 1 ∨ n = 2 ∨ n = 3 ∨ n = 4 ∨ n = 5 ∨ n = 6 ∨ n = 7 ∨ n = 8 := by omega
  rcases this with e | e | e | e | e | e | e | e <;> subst e <;> decide
theorem ext_x {v : Int64} {n : Nat} (hn1 : 1 ≤ n) (hn : n ≤ 8) (hv : ∀ i, 8 * n ≤ i → lb v i = false) : F_X12_extend v ((8 : Int32) * nI n) = some (j_lshr (j_lshl v ((64 : Int32) - (8 : Int32) * nI n)) ((64 : Int32) - (8 : Int32) * nI n)) := by
  rw [show (8 : Int32) * nI n = nI (8 * n) from by rw [show (8 : Int32) = nI 8 from rfl, pk_mul]]
  apply ext_eq (by omega) (by omega)
  intro i hi
  have hs := s64m n hn1 hn
  rw [show (8 : Int32) * nI n = nI (8 * n) from by rw [show (8 : Int32) = nI 8 from rfl, pk_mul]] at hs
  rw [lb_sshr _ _ hi, hs]
  by_cases h1 : i < 8 * n
  · have h3 : (64 - 8 * n) % 64 + i < 64 := by omega
    rw [if_pos h3, lb_shl _ _ h3, hs]
    have h4 : (64 - 8 * n) % 64 + i - (64 - 8 * n) % 64 = i := by omega
    have h5 : (64 - 8 * n) % 64 ≤ (64 - 8 * n) % 64 + i := by omega
    have h6 : ¬ 8 * n ≤ i := by omega
    rw [h4]
    simp [h6]
  · have h3 : ¬ (64 - 8 * n) % 64 + i < 64 := by omega
    rw [if_neg h3, lb_shl _ _ (by omega), hs, hv i (by omega)]
    have h4 : 63 - (64 - 8 * n) % 64 = 8 * n - 1 := by omega
    have h5 : (64 - 8 * n) % 64 ≤ 63 := by omega
    have h6 : 8 * n ≤ i := by omega
    rw [h4]
    simp [h5, h6]
theorem by_hi {m : Nat → Int32} (hm : ∀ i, iU (m i) < 256) (p n : Nat) : ∀ i, 8 * n ≤ i → lb (lN (byN m p n)) i = false := by
  intro i hi
  have h2 : ¬ i < 8 * n := by omega
  rw [lb_lN, byN_tb hm]
  simp [h2]
theorem single_last {τ : MS} {pc : Int64} (t0 : Int32) (h : Ok' τ pc) {n P kind rt : Nat} (hn1 : 1 ≤ n) (hn : n ≤ 8) (hP : P + n ≤ 65536) (hoff : P % 8 + n ≤ 8) (hk : kind < 4) (hrt : rt < 32) (i0 : Int32) (a0 : Int32) (a2 : Int64) (a3 : Bool) (a4 : Int64) : ∃ τ', F_X12_single_c82 τ a0 (nI kind) a2 a3 a4 (nI rt) (nI n) (nI P) = some τ' ∧ Ok' τ' pc ∧ F_X0_single_c180 (xm τ pc t0) i0 (nI kind) (nI rt) (nI n) (nI P) = some (true, xm τ' pc t0) := by
  unfold F_X12_single_c82 F_X0_single_c180
  have hm := h.1.2.2.2.2
  have hv := by_hi hm P n
  have hk4 : kind = 0 ∨ kind = 1 ∨ kind = 2 ∨ kind = 3 := by omega
  rcases hk4 with e | e | e | e <;> subst e
  · rw [if_pos (by rfl), if_pos (by rfl)]
    exact ⟨τ, rfl, h, rfl⟩
  · rw [if_neg (by decide), if_neg (by decide), nI_toL (by omega), xread hm pc t0 hn hn1 hP hoff, Option.bind_some, mbytes hm hn hn1 hP, Option.bind_some, if_pos (by decide)]
    unfold F_X12_single_c114 F_X12_single_c128 F_X0_extended
    rw [if_neg (by decide), if_pos (by rfl), put_eq _ hrt, Option.bind_some, xputR _ _ _ hrt]
    exact ⟨_, rfl, Ok_putR h _ _, rfl⟩
  · rw [if_neg (by decide), if_neg (by decide), nI_toL (by omega), xread hm pc t0 hn hn1 hP hoff, Option.bind_some, mbytes hm hn hn1 hP, Option.bind_some, if_neg (by decide), ext_x hn1 hn hv, Option.bind_some]
    unfold F_X12_single_c114 F_X12_single_c128 F_X0_extended F_X0_extended_c16 F_X0_extended_c33
    rw [if_neg (by decide), if_neg (by decide), if_pos (by rfl), put_eq _ hrt, Option.bind_some, xputR _ _ _ hrt]
    exact ⟨_, rfl, Ok_putR h _ _, rfl⟩
  · rw [if_neg (by decide), if_neg (by decide), nI_toL (by omega), xread hm pc t0 hn hn1 hP hoff, Option.bind_some, mbytes hm hn hn1 hP, Option.bind_some, if_neg (by decide), ext_x hn1 hn hv, Option.bind_some]
    unfold F_X12_single_c114 F_X12_single_c128 F_X0_extended F_X0_extended_c16 F_X0_extended_c33
    rw [if_pos (by rfl), if_neg (by decide), if_neg (by decide), put_eq _ hrt, Option.bind_some, xputR _ _ _ hrt, show (32 : Int32) = nI (wd false) from rfl, cut_eq]
    exact ⟨_, rfl, Ok_putR h _ _, rfl⟩
theorem single_end {τ : MS} {pc : Int64} (t0 : Int32) (h : Ok' τ pc) {n P kind rt base chg : Nat} (hn1 : 1 ≤ n) (hn : n ≤ 8) (hP : P + n ≤ 65536) (hoff : P % 8 + n ≤ 8) (hk : kind < 4) (hrt : rt < 32) (hb : base < 32) (hc : chg < 4) {upd : Bool} (hu : upd = decide (chg ≠ 0)) {nb nb' : Int64} (hnb : upd = true → nb' = nb) (i0 : Int32) (a0 : Int32) (a2 : Int64) : ∃ τ', F_X12_single_c69 τ a0 (nI kind) a2 upd nb' (nI base) (nI rt) (nI n) (nI P) = some τ' ∧ Ok' τ' pc ∧ F_X0_single_c164 (xm τ pc t0) i0 (nI kind) (nI base) (nI chg) nb (nI rt) (nI n) (nI P) = some (true, xm τ' pc t0) := by
  unfold F_X12_single_c69 F_X0_single_c164
  have q : nI chg = (0 : Int32) ↔ chg = 0 := eqN (n := 0) (by omega) (by omega)
  by_cases h0 : chg = 0
  · have hu2 : upd = false := by rw [hu]; simp [h0]
    rw [hu2, iff_f, if_pos (q.mpr h0)]
    exact single_last t0 h hn1 hn hP hoff hk hrt i0 a0 a2 _ _
  · have hu2 : upd = true := by rw [hu]; simp [h0]
    rw [hnb hu2, hu2, iff_t, if_neg (fun x => h0 (q.mp x)), putOP_eq _ hb, Option.bind_some, xputP h.1 _ _ hb]
    exact single_last t0 (Ok_putP h _ _) hn1 hn hP hoff hk hrt i0 a0 a2 _ _
theorem single_go {τ : MS} {pc : Int64} (t0 : Int32) (h : Ok τ pc) {z kind chg : Nat} (hz : z < 4) (hk : kind < 4) (hc : chg < 4) {upd : Bool} (hu : upd = decide (chg ≠ 0)) {nb nb' : Int64} (hnb : upd = true → nb' = nb) (a : Int64) : ∃ x, F_X0_single_c108 (xm τ pc t0) (m_ins τ) (nI z) (nI kind) (nI (fN (iU (m_ins τ)) 5 5)) (nI chg) nb a (nI (fN (iU (m_ins τ)) 0 5)) = some x ∧ Res (F_X12_single τ (nI z) (nI kind) a upd nb') x τ pc t0 := by
  unfold F_X12_single F_X0_single_c108
  rw [fL_9_5, Option.bind_some, fL_4_0, Option.bind_some, shl1 z hz]
  have hn := pw_cases hz
  have hn1 : 1 ≤ 2 ^ z := by omega
  have hn8 : 2 ^ z ≤ 8 := by omega
  have hrt := fN_lt (iU (m_ins τ)) 0 5
  have hb := fN_lt (iU (m_ins τ)) 5 5
  generalize fN (iU (m_ins τ)) 0 5 = rt at hrt
  generalize fN (iU (m_ins τ)) 5 5 = base at hb
  unfold F_X12_single_c22 F_X12_single_c35 F_X0_single_c113 F_X0_single_c127
  have q : nI kind = (0 : Int32) ↔ kind = 0 := eqN (n := 0) (by omega) (by omega)
  by_cases h0 : kind = 0
  · subst h0
    rw [if_pos (by rfl), if_pos (by rfl)]
    rcases rch t0 h a hz true false rfl with ⟨P, τ1, h1, h2, h3, h4, h5, ho, hx⟩ | ⟨τ', v, ho, h2, hx, h3⟩
    · rw [ho, hx, Option.bind_some, Option.bind_some]
      dsimp only
      rw [iff_t, if_pos (show (0 : Int32) ≤ nI P from nI_le (a := 0) (by omega) (by omega)), if_pos (by rfl), mreg _ hrt, Option.bind_some, if_pos (by rfl), mkeep h5 _ hn8 h1, Option.bind_some, nI_toL (by omega), xreg _ _ _ hrt, xwrite h3.1.2.2.2.2 pc t0 hn8 hn1 h1 h2, Option.bind_some, h5, lN_i]
      have hOk : Ok' (mu_mem τ1 (wrM (m_mem τ1) P (2 ^ z) (rg τ1 rt))) pc := ⟨⟨h3.1.1, h3.1.2.1, h3.1.2.2.1, h3.1.2.2.2.1, wrM_lt h3.1.2.2.2.2 _ _ _⟩, fun _ => h3.2.2⟩
      obtain ⟨τ', a1, a2, a3⟩ := single_end t0 hOk (kind := 0) hn1 hn8 h1 h2 hk hrt hb hc hu hnb (m_ins τ) (nI z) a
      exact ⟨_, a3, Res.of ⟨τ', a1, a2, rfl⟩⟩
    · rw [ho, hx, Option.bind_some, Option.bind_some]
      dsimp only
      rw [iff_f, if_neg h3]
      exact ⟨_, rfl, Res.of ⟨_, rfl, h2, rfl⟩⟩
  · have q0 : ¬ nI kind = (0 : Int32) := fun x => h0 (q.mp x)
    rw [if_neg q0, if_neg q0]
    rcases rch t0 h a hz false true rfl with ⟨P, τ1, h1, h2, h3, h4, h5, ho, hx⟩ | ⟨τ', v, ho, h2, hx, h3⟩
    · rw [ho, hx, Option.bind_some, Option.bind_some]
      dsimp only
      rw [iff_t, if_pos (show (0 : Int32) ≤ nI P from nI_le (a := 0) (by omega) (by omega)), if_neg q0, mreg _ hrt, Option.bind_some, if_neg q0, h5, lN_i]
      obtain ⟨τ', a1, a2, a3⟩ := single_end t0 h3.ok' (kind := kind) hn1 hn8 h1 h2 hk hrt hb hc hu hnb (m_ins τ) (nI z) a
      exact ⟨_, a3, Res.of ⟨τ', a1, a2, rfl⟩⟩
    · rw [ho, hx, Option.bind_some, Option.bind_some]
      dsimp only
      rw [iff_f, if_neg h3]
      exact ⟨_, rfl, Res.of ⟨_, rfl, h2, rfl⟩⟩
