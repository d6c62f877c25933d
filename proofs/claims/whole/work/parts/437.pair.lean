theorem ins_putR (τ : MS) (k : Nat) (v : Int64) : m_ins (putR τ k v) = m_ins τ := by
  unfold putR; split <;> rfl
theorem mem_putR (τ : MS) (k : Nat) (v : Int64) : m_mem (putR τ k v) = m_mem τ := by
  unfold putR; split <;> rfl
theorem ins_putP (τ : MS) (k : Nat) (v : Int64) : m_ins (putP τ k v) = m_ins τ := by
  unfold putP; split <;> rfl
theorem mem_putP (τ : MS) (k : Nat) (v : Int64) : m_mem (putP τ k v) = m_mem τ := by
  unfold putP; split <;> rfl
theorem pair_two {τ : MS} {pc : Int64} (t0 : Int32) (h : Ok' τ pc) {n P1 P2 : Nat} (hn1 : 1 ≤ n) (hn : n ≤ 8) (hP1 : P1 + n ≤ 65536) (hoff1 : P1 % 8 + n ≤ 8) (hP2 : P2 + n ≤ 65536) (hoff2 : P2 % 8 + n ≤ 8) {s0 : Int32} {v1 v2 : Int64} (e1 : F_X0_extended (lN (byN (m_mem τ) P1 n)) (nI n) s0 = v1) (e2 : F_X0_extended (lN (byN (m_mem τ) P2 n)) (nI n) s0 = v2) : ∃ τ', F_X12_pair_c308 τ v1 v2 = some τ' ∧ Ok' τ' pc ∧ F_X0_pair_c269 (xm τ pc t0) (m_ins τ) (nI n) (nI P1) (nI P2) s0 = some (true, xm τ' pc t0) := by
  unfold F_X12_pair_c308 F_X0_pair_c269
  have hm := h.1.2.2.2.2
  rw [fL_4_0, Option.bind_some, put_eq _ (fN_lt _ _ _), Option.bind_some, fL_14_10, Option.bind_some, ins_putR, put_eq _ (fN_lt _ _ _), Option.bind_some, nI_toL (by omega), nI_toL (by omega), xread hm pc t0 hn hn1 hP1 hoff1, Option.bind_some, e1, gL_0_5, xputR _ _ _ (fN_lt _ _ _)]
  have h2 := Ok_putR h (fN (iU (m_ins τ)) 0 5) v1
  rw [xread h2.1.2.2.2.2 pc t0 hn hn1 hP2 hoff2, Option.bind_some, mem_putR, e2, gL_10_5, xputR _ _ _ (fN_lt _ _ _)]
  exact ⟨_, rfl, Ok_putR h2 _ _, rfl⟩
theorem pair_last {τ : MS} {pc : Int64} (t0 : Int32) (h : Ok' τ pc) {n P1 P2 z : Nat} (hn1 : 1 ≤ n) (hn : n ≤ 8) (hP1 : P1 + n ≤ 65536) (hoff1 : P1 % 8 + n ≤ 8) (hP2 : P2 + n ≤ 65536) (hoff2 : P2 % 8 + n ≤ 8) (hz : z < 4) (hz1 : z = 1 → n = 4) {ld : Bool} {v1 v2 : Int64} (e1 : ld = true → v1 = lN (byN (m_mem τ) P1 n)) (e2 : ld = true → v2 = lN (byN (m_mem τ) P2 n)) : ∃ τ', F_X12_pair_c280 τ (nI z) ld v1 v2 = some τ' ∧ Ok' τ' pc ∧ F_X0_pair_c254 (xm τ pc t0) (m_ins τ) (nI z) ld (nI n) (nI P1) (nI P2) = some (true, xm τ' pc t0) := by
  unfold F_X12_pair_c280 F_X0_pair_c254
  have hm := h.1.2.2.2.2
  have q1 : nI z = (1 : Int32) ↔ z = 1 := eqN (n := 1) (by omega) (by omega)
  cases ld
  · rw [iff_f, iff_f]
    exact ⟨_, rfl, h, rfl⟩
  · rw [iff_t, iff_t, e1 rfl, e2 rfl]
    by_cases hz' : z = 1
    · have hn4 := hz1 hz'
      subst hn4
      rw [if_pos (q1.mpr hz'), if_pos (q1.mpr hz')]
      have x1 := ext_x (n := 4) (by decide) (by decide) (by_hi hm P1 4)
      have x2 := ext_x (n := 4) (by decide) (by decide) (by_hi hm P2 4)
      rw [show (8 : Int32) * nI 4 = 32 from rfl] at x1 x2
      rw [x1, Option.bind_some, x2, Option.bind_some]
      refine pair_two t0 h hn1 hn hP1 hoff1 hP2 hoff2 ?_ ?_
      · rfl
      · rfl
    · rw [if_neg (fun x => hz' (q1.mp x)), if_neg (fun x => hz' (q1.mp x))]
      exact pair_two t0 h hn1 hn hP1 hoff1 hP2 hoff2 rfl rfl
theorem pair_end {τ : MS} {pc : Int64} (t0 : Int32) (h : Ok' τ pc) {n P1 P2 z mode base : Nat} (hn1 : 1 ≤ n) (hn : n ≤ 8) (hP1 : P1 + n ≤ 65536) (hoff1 : P1 % 8 + n ≤ 8) (hP2 : P2 + n ≤ 65536) (hoff2 : P2 % 8 + n ≤ 8) (hz : z < 4) (hz1 : z = 1 → n = 4) (hmo : mode < 4) (hm0 : mode ≠ 0) (hb : base < 32) {ld : Bool} {v1 v2 : Int64} (e1 : ld = true → v1 = lN (byN (m_mem τ) P1 n)) (e2 : ld = true → v2 = lN (byN (m_mem τ) P2 n)) (w6 w8 : Int64) : ∃ τ', F_X12_pair_c264 τ (nI z) (nI mode) ld (nI base) w6 w8 v1 v2 = some τ' ∧ Ok' τ' pc ∧ F_X0_pair_c233 (xm τ pc t0) (m_ins τ) (nI z) (nI mode) ld (nI base) (nI n) (w6 + w8) (nI P1) (nI P2) = some (true, xm τ' pc t0) := by
  unfold F_X12_pair_c264 F_X0_pair_c233 F_X0_pair_c243
  have q1 : nI mode = (1 : Int32) ↔ mode = 1 := eqN (n := 1) (by omega) (by omega)
  have q2 : nI mode = (2 : Int32) ↔ mode = 2 := eqN (n := 2) (by omega) (by omega)
  have q3 : nI mode = (3 : Int32) ↔ mode = 3 := eqN (n := 3) (by omega) (by omega)
  by_cases h2 : mode = 2
  · rw [if_pos (q2.mpr h2), if_neg (fun x => by have := q1.mp x; omega), if_neg (fun x => by have := q3.mp x; omega)]
    exact pair_last t0 h hn1 hn hP1 hoff1 hP2 hoff2 hz hz1 e1 e2
  · rw [if_neg (fun x => h2 (q2.mp x)), putOP_eq _ hb, Option.bind_some, xputP h.1 _ _ hb]
    have hl := pair_last t0 (Ok_putP h base (w6 + w8)) hn1 hn hP1 hoff1 hP2 hoff2 hz hz1 (ld := ld) (v1 := v1) (v2 := v2) (by rw [mem_putP]; exact e1) (by rw [mem_putP]; exact e2)
    rw [ins_putP] at hl
    by_cases h1 : mode = 1
    · rw [if_pos (q1.mpr h1)]
      exact hl
    · rw [if_neg (fun x => h1 (q1.mp x)), if_pos (q3.mpr (by omega))]
      exact hl
theorem wr_thrice (m : Nat → Int32) (p1 p2 n : Nat) (a b : Int64) : wrM (wrM (wrM m p2 n b) p1 n a) p2 n b = wrM (wrM m p1 n a) p2 n b := by
  funext q
  unfold wrM
  by_cases h2 : p2 ≤ q ∧ q < p2 + n
  · rw [if_pos h2, if_pos h2]
  · rw [if_neg h2, if_neg h2, if_neg h2]
theorem rg_mem (τ : MS) (m : Nat → Int32) (p : Int64) (k : Nat) : rg (mu_place (mu_mem τ m) p) k = rg τ k := rfl
theorem pair_go {τ : MS} {pc : Int64} (t0 : Int32) (h : Ok τ pc) {y z mode base : Nat} (hy : y < 4) (hz : z < 4) (hz1 : z = 1 → 2 ^ y = 4) (hmo : mode < 4) (hm0 : mode ≠ 0) (hb : base < 32) (ld : Bool) (w6 w8 a : Int64) : ∃ x, F_X0_pair_c133 (xm τ pc t0) (m_ins τ) (nI z) (nI mode) ld (nI base) (nI (2 ^ y)) (w6 + w8) a = some x ∧ Res (F_X12_pair_c117 τ (nI z) (nI mode) ld (nI base) (nI (2 ^ y)) w6 w8 a) x τ pc t0 := by
  have hn := pw_cases hy
  have hn1 : 1 ≤ 2 ^ y := by omega
  have hn8 : 2 ^ y ≤ 8 := by omega
  have hM : F_X12_pair_c117 τ (nI z) (nI mode) ld (nI base) (nI (2 ^ y)) w6 w8 a = (F_X12_reaches τ a (nI (2 ^ y)) (!ld)).bind fun v7 => if v7.1 = true then ((F_X12_reaches v7.2 (a + (nI (2 ^ y)).toInt64) (nI (2 ^ y)) (!ld)).bind fun v8 => if v8.1 = true then F_X12_pair_c176 v8.2 (nI z) (nI mode) ld (nI base) (nI (2 ^ y)) w6 w8 (m_place v7.2) (m_place v8.2).toInt32 else some v8.2) else some v7.2 := by
    unfold F_X12_pair_c117 F_X12_pair_c131 F_X12_pair_c162
    cases ld <;> rfl
  rw [hM]
  unfold F_X0_pair_c133
  have hll : ld = !(!ld) := by cases ld <;> rfl
  rcases rch t0 h a hy (!ld) ld hll with ⟨P1, τ1, h1, h2, h3, h4, h5, ho, hx⟩ | ⟨τ', v, ho, h2, hx, h3⟩
  · rw [ho, hx, Option.bind_some, Option.bind_some]
    dsimp only
    rw [iff_t, if_pos (show (0 : Int32) ≤ nI P1 from nI_le (a := 0) (by omega) (by omega))]
    rcases rch t0 h3 (a + (nI (2 ^ y)).toInt64) hy (!ld) ld hll with ⟨P2, τ2, k1, k2, k3, k4, k5, ho2, hx2⟩ | ⟨τ', v, ho2, k2, hx2, k3⟩
    · rw [ho2, hx2, Option.bind_some, Option.bind_some]
      dsimp only
      rw [iff_t, if_pos (show (0 : Int32) ≤ nI P2 from nI_le (a := 0) (by omega) (by omega))]
      unfold F_X12_pair_c176
      have hm := k3.1.2.2.2.2
      rw [h5, k5, lN_i, lN_i, mbytes hm hn8 hn1 h1, Option.bind_some, mbytes hm hn8 hn1 k1, Option.bind_some, ← h4, ← k4]
      cases ld
      · rw [iff_f, iff_f, fL_4_0, Option.bind_some, mreg _ (fN_lt _ _ _), Option.bind_some, fL_14_10, Option.bind_some, mreg _ (fN_lt _ _ _), Option.bind_some, mkeep k5 _ hn8 k1, Option.bind_some, gL_0_5, gL_10_5, xreg _ _ _ (fN_lt _ _ _), nI_toL (by omega), nI_toL (by omega)]
        generalize hva : rg τ2 (fN (iU (m_ins τ2)) 0 5) = va
        generalize hvb : rg τ2 (fN (iU (m_ins τ2)) 10 5) = vb
        rw [mkeep (τ := mu_place (mu_mem τ2 (wrM (m_mem τ2) P2 (2 ^ y) vb)) (lN P1)) (p := P1) rfl _ hn8 h1, Option.bind_some]
        rw [mkeep (p := P2) rfl _ hn8 k1, Option.bind_some]
        rw [xwrite hm pc t0 hn8 hn1 h1 h2, Option.bind_some, xreg _ _ _ (fN_lt _ _ _)]
        have hm2 : ∀ i, iU (wrM (m_mem τ2) P1 (2 ^ y) va i) < 256 := wrM_lt hm _ _ _
        rw [show rg (mu_mem τ2 (wrM (m_mem τ2) P1 (2 ^ y) va)) (fN (iU (m_ins τ2)) 10 5) = vb from hvb, xwrite (τ := mu_mem τ2 (wrM (m_mem τ2) P1 (2 ^ y) va)) hm2 pc t0 hn8 hn1 k1 k2, Option.bind_some]
        generalize hτ4 : mu_mem (mu_place (mu_mem (mu_place (mu_mem τ2 (wrM (m_mem τ2) P2 (2 ^ y) vb)) (lN P1)) (wrM (m_mem (mu_place (mu_mem τ2 (wrM (m_mem τ2) P2 (2 ^ y) vb)) (lN P1))) P1 (2 ^ y) va)) (lN P2)) (wrM (m_mem (mu_place (mu_mem (mu_place (mu_mem τ2 (wrM (m_mem τ2) P2 (2 ^ y) vb)) (lN P1)) (wrM (m_mem (mu_place (mu_mem τ2 (wrM (m_mem τ2) P2 (2 ^ y) vb)) (lN P1))) P1 (2 ^ y) va)) (lN P2))) P2 (2 ^ y) vb) = τ4
        have hmem : m_mem τ4 = wrM (wrM (m_mem τ2) P1 (2 ^ y) va) P2 (2 ^ y) vb := by
          rw [← hτ4]
          exact wr_thrice _ _ _ _ _ _
        have hOk : Ok' τ4 pc := by
          refine ⟨⟨?_, ?_, ?_, ?_, ?_⟩, ?_⟩
          · rw [← hτ4]; exact k3.1.1
          · rw [← hτ4]; exact k3.1.2.1
          · rw [← hτ4]; exact k3.1.2.2.1
          · rw [← hτ4]; exact k3.1.2.2.2.1
          · rw [hmem]; exact wrM_lt hm2 _ _ _
          · rw [← hτ4]; exact fun _ => k3.2.2
        have hxm : xm (mu_mem (mu_mem τ2 (wrM (m_mem τ2) P1 (2 ^ y) va)) (wrM (m_mem (mu_mem τ2 (wrM (m_mem τ2) P1 (2 ^ y) va))) P2 (2 ^ y) vb)) pc t0 = xm τ4 pc t0 := by
          show (cOf (wrM (wrM (m_mem τ2) P1 (2 ^ y) va) P2 (2 ^ y) vb), vp_updL (pOf τ2) 33 pc, m_asked τ2, nxt τ2 pc, t0 + m_taken τ2, m_ins τ2) = _
          rw [← hmem, ← hτ4]
          rfl
        have hins : m_ins τ2 = m_ins τ4 := by rw [← hτ4]; rfl
        rw [hxm, hins]
        obtain ⟨τ', a1, a2, a3⟩ := pair_end t0 hOk hn1 hn8 h1 h2 k1 k2 hz hz1 hmo hm0 hb (ld := false) (v1 := lN (byN (m_mem τ2) P1 (2 ^ y))) (v2 := lN (byN (m_mem τ2) P2 (2 ^ y))) (fun q => by cases q) (fun q => by cases q) w6 w8
        exact ⟨_, a3, Res.of ⟨τ', a1, a2, rfl⟩⟩
      · rw [iff_t, iff_t]
        obtain ⟨τ', a1, a2, a3⟩ := pair_end t0 k3.ok' hn1 hn8 h1 h2 k1 k2 hz hz1 hmo hm0 hb (ld := true) (v1 := lN (byN (m_mem τ2) P1 (2 ^ y))) (v2 := lN (byN (m_mem τ2) P2 (2 ^ y))) (fun _ => rfl) (fun _ => rfl) w6 w8
        exact ⟨_, a3, Res.of ⟨τ', a1, a2, rfl⟩⟩
    · rw [ho2, hx2, Option.bind_some, Option.bind_some]
      dsimp only
      rw [iff_f, if_neg k3]
      exact ⟨_, rfl, Res.of ⟨_, rfl, k2, rfl⟩⟩
  · rw [ho, hx, Option.bind_some, Option.bind_some]
    dsimp only
    rw [iff_f, if_neg h3]
    exact ⟨_, rfl, Res.of ⟨_, rfl, h2, rfl⟩⟩
theorem i_pair {τ : MS} {pc : Int64} (t0 : Int32) (h : Ok τ pc) (h29 : (iU (m_ins τ)).testBit 29 = true) : ∃ x, F_X0_pair (xm τ pc t0) (m_ins τ) = some x ∧ Res (F_X12_pair τ) x τ pc t0 := by
  unfold F_X0_pair F_X0_pair_c5 F_X0_pair_c13 F_X12_pair
  have hz := fN_lt (iU (m_ins τ)) 30 2
  have hmo := fN_lt (iU (m_ins τ)) 23 2
  have hb := fN_lt (iU (m_ins τ)) 5 5
  have e30 : j_iushr (m_ins τ) 30 = nI (fN (iU (m_ins τ)) 30 2) := top23 (n := 30) rfl (by decide)
  rw [fL_31_30, Option.bind_some, fL_24_23, Option.bind_some, e30, gL_23_2, oL_22, pL_22]
  have go : fN (iU (m_ins τ)) 23 2 ≠ 0 → ∃ x, F_X0_pair_c51 (xm τ pc t0) (m_ins τ) (nI (fN (iU (m_ins τ)) 30 2)) (nI (fN (iU (m_ins τ)) 23 2)) ((iU (m_ins τ)).testBit 22) = some x ∧ Res (F_X12_pair_c39 τ (nI (fN (iU (m_ins τ)) 30 2)) (nI (fN (iU (m_ins τ)) 23 2)) ((iU (m_ins τ)).testBit 22)) x τ pc t0 := by
    intro hm0
    have q0 : ¬ nI (fN (iU (m_ins τ)) 23 2) = (0 : Int32) := fun x => hm0 ((eqN (n := 0) (by omega) (by omega)).mp x)
    unfold F_X0_pair_c51 F_X0_pair_c59 F_X12_pair_c39
    rw [if_neg q0, fL_9_5, Option.bind_some, gL_5_5]
    have go2 : ∀ y, y < 4 → (fN (iU (m_ins τ)) 30 2 = 1 → 2 ^ y = 4) → ∃ x, F_X0_pair_c91 (xm τ pc t0) (m_ins τ) (nI (fN (iU (m_ins τ)) 30 2)) (nI (fN (iU (m_ins τ)) 23 2)) ((iU (m_ins τ)).testBit 22) (nI (fN (iU (m_ins τ)) 5 5)) (nI (2 ^ y)) = some x ∧ Res (F_X12_pair_c79 τ (nI (fN (iU (m_ins τ)) 30 2)) (nI (fN (iU (m_ins τ)) 23 2)) ((iU (m_ins τ)).testBit 22) (nI (fN (iU (m_ins τ)) 5 5)) (nI (2 ^ y))) x τ pc t0 := by
      intro y hy hz1
      unfold F_X0_pair_c91 F_X0_pair_c104 F_X0_pair_c121 F_X12_pair_c79 F_X12_pair_c101
      rw [xregP h.1 pc t0 hb, mregP h.1 hb, Option.bind_some, sL_21_15, Option.bind_some]
      by_cases h1 : nI (fN (iU (m_ins τ)) 23 2) = (1 : Int32)
      · rw [if_pos h1, if_pos h1]
        exact pair_go t0 h hy hz hz1 hmo hm0 hb _ _ _ _
      · rw [if_neg h1, if_neg h1]
        exact pair_go t0 h hy hz hz1 hmo hm0 hb _ _ _ _
    rcases base_spec t0 h hb with ⟨hB, hC⟩ | ⟨hB, hC⟩
    · rw [hB, hC, Option.bind_some, iff_f]
      dsimp only
      rw [iff_t]
      have q2 : nI (fN (iU (m_ins τ)) 30 2) = (2 : Int32) ↔ fN (iU (m_ins τ)) 30 2 = 2 := eqN (n := 2) (by omega) (by omega)
      by_cases h2 : fN (iU (m_ins τ)) 30 2 = 2
      · rw [if_pos (q2.mpr h2), if_pos (q2.mpr h2)]
        exact go2 3 (by decide) (fun x => by omega)
      · rw [if_neg (fun x => h2 (q2.mp x)), if_neg (fun x => h2 (q2.mp x))]
        exact go2 2 (by decide) (fun _ => rfl)
    · rw [hB, hC, Option.bind_some, iff_t]
      dsimp only
      rw [iff_f, show (38 : Int32) = nI 38 from rfl, show (0 : Int32) = nI 0 from rfl, raise_eq h.1 pc t0 (by decide) (by decide)]
      exact ⟨_, rfl, Res.of ⟨_, rfl, Ok'_exc h.1 _ _ _ _, rfl⟩⟩
  have bad : ∃ x, some (false, xm τ pc t0) = some x ∧ Res (some (F_X12_none τ)) x τ pc t0 := ⟨_, rfl, Res.none h rfl rfl⟩
  have q3 : nI (fN (iU (m_ins τ)) 30 2) = (3 : Int32) ↔ fN (iU (m_ins τ)) 30 2 = 3 := eqN (n := 3) (by omega) (by omega)
  have q1 : nI (fN (iU (m_ins τ)) 30 2) = (1 : Int32) ↔ fN (iU (m_ins τ)) 30 2 = 1 := eqN (n := 1) (by omega) (by omega)
  have q0 : nI (fN (iU (m_ins τ)) 23 2) = (0 : Int32) ↔ fN (iU (m_ins τ)) 23 2 = 0 := eqN (n := 0) (by omega) (by omega)
  unfold F_X0_pair_c21 F_X12_pair_c25 F_X12_pair_c43
  rw [pL_29, h29, iff_t]
  by_cases h3 : fN (iU (m_ins τ)) 30 2 = 3
  · rw [if_pos (q3.mpr h3), if_pos (q3.mpr h3)]
    exact bad
  · rw [if_neg (fun x => h3 (q3.mp x)), if_neg (fun x => h3 (q3.mp x))]
    by_cases h0 : fN (iU (m_ins τ)) 23 2 = 0
    · rw [if_pos (q0.mpr h0)]
      have hM : F_X12_pair_c39 τ (nI (fN (iU (m_ins τ)) 30 2)) (nI (fN (iU (m_ins τ)) 23 2)) ((iU (m_ins τ)).testBit 22) = some (F_X12_none τ) := by
        unfold F_X12_pair_c39 F_X12_pair_c43
        rw [if_pos (q0.mpr h0)]
      rw [hM]
      by_cases h1 : fN (iU (m_ins τ)) 30 2 = 1
      · rw [if_pos (q1.mpr h1)]
        cases (iU (m_ins τ)).testBit 22
        · exact bad
        · exact bad
      · rw [if_neg (fun x => h1 (q1.mp x))]
        exact bad
    · rw [if_neg (fun x => h0 (q0.mp x))]
      have hg := go h0
      by_cases h1 : fN (iU (m_ins τ)) 30 2 = 1
      · rw [if_pos (q1.mpr h1), if_pos (q1.mpr h1)]
        cases h22 : (iU (m_ins τ)).testBit 22
        · exact bad
        · rw [h22] at hg
          exact hg
      · rw [if_neg (fun x => h1 (q1.mp x)), if_neg (fun x => h1 (q1.mp x))]
        exact hg
