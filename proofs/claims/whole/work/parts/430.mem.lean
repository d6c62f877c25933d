def byN (m : Nat → Int32) (p : Nat) : Nat → Nat
  | 0 => 0
  | n + 1 => 2 ^ (8 * n) * iU (m (p + n)) + byN m p n
theorem byN_lt {m : Nat → Int32} (hm : ∀ i, iU (m i) < 256) (p : Nat) : ∀ n, byN m p n < 2 ^ (8 * n)
  | 0 => by simp [byN]
  | n + 1 => by
    have h1 := byN_lt hm p n
    have h2 := hm (p + n)
    unfold byN
    have e : 2 ^ (8 * (n + 1)) = 2 ^ (8 * n) * 256 := by rw [Nat.mul_add, Nat.pow_add]
    rw [e]
    have h3 : 2 ^ (8 * n) * iU (m (p + n)) ≤ 2 ^ (8 * n) * 255 := Nat.mul_le_mul_left _ (by omega)
    omega
theorem byN_tb {m : Nat → Int32} (hm : ∀ i, iU (m i) < 256) (p : Nat) : ∀ n i, (byN m p n).testBit i = (decide (i < 8 * n) && (iU (m (p + i / 8))).testBit (i % 8))
  | 0, i => by simp [byN]
  | n + 1, i => by
    unfold byN
    rw [Nat.testBit_two_pow_mul_add _ (byN_lt hm p n), byN_tb hm p n i]
    by_cases h : i < 8 * n
    · have h2 : i < 8 * (n + 1) := by omega
      simp [h, h2]
    · rw [if_neg h]
      by_cases h2 : i < 8 * (n + 1)
      · have h3 : i / 8 = n := by omega
        have h4 : i - 8 * n = i % 8 := by omega
        simp [h2, h3, h4]
      · have h3 : 8 ≤ i - 8 * n := by omega
        have h5 : iU (m (p + n)) < 2 ^ (i - 8 * n) := Nat.lt_of_lt_of_le (hm _) (Nat.pow_le_pow_right (n := 2) (by decide) h3)
        rw [Nat.testBit_lt_two_pow h5]
        simp [h2]
theorem cellOf_by (m : Nat → Int32) (k : Nat) : cellOf m k = byN m (8 * k) 8 := by
  simp only [cellOf, byN, Nat.add_zero]
  omega
theorem lb_cOf {m : Nat → Int32} (hm : ∀ i, iU (m i) < 256) {k : Nat} (hk : k < 8192) {i : Nat} (hi : i < 64) : lb (cOf m k) i = (iU (m (8 * k + i / 8))).testBit (i % 8) := by
  unfold cOf
  rw [if_pos hk, cellOf_by, lb_lN, byN_tb hm]
  simp [hi]
theorem lN_or_byte {a b : Nat} (ha : a < 2 ^ 56) (hb : b < 256) : j_lshl (lN a) 8 ||| (nI b).toInt64 = lN (2 ^ 8 * a + b) := by
  rw [nI_toL (by omega), show (8 : Int32) = nI 8 from rfl, lU_shl (by decide) (by omega), lN_or, Nat.mul_comm a, Nat.two_pow_add_eq_or_of_lt (i := 8) hb]
theorem bytes_loop {τ : MS} (hm : ∀ i, iU (m_mem τ i) < 256) (p : Nat) (a1 : Int32) : ∀ (n k acc : Nat), k < n → k ≤ 8 → p + k ≤ 65536 → acc < 2 ^ (64 - 8 * k) → F_X12_bytes_c7 n τ (nI p) a1 (lN acc) (nI k + (-1)) = some (lN (acc * 2 ^ (8 * k) + byN (m_mem τ) p k)) := by
  intro n
  induction n with
  | zero => intro k acc h; omega
  | succ n ih =>
    intro k acc hn hk hp hacc
    rw [F_X12_bytes_c7]
    cases k with
    | zero =>
      rw [if_pos (by decide)]
      simp [byN]
    | succ k =>
      rw [pk_m1, if_neg (nI_pos (by omega)), nI_add, if_neg (nI_in (by omega) (by omega)), cl_nI (by omega)]
      have hb := hm (p + k)
      rw [show m_mem τ (p + k) = nI (iU (m_mem τ (p + k))) from (nI_iU _).symm]
      have hp2 : 2 ^ (64 - 8 * k) = 2 ^ 8 * 2 ^ (64 - 8 * (k + 1)) := by rw [← Nat.pow_add]; congr 1; omega
      have ha : acc < 2 ^ 56 := Nat.lt_of_lt_of_le hacc (Nat.pow_le_pow_right (by decide) (by omega))
      rw [lN_or_byte ha hb]
      rw [ih k _ (by omega) (by omega) (by omega) (by omega)]
      congr 2
      simp only [byN]
      rw [show 8 * (k + 1) = 8 * k + 8 from by omega, Nat.pow_add]
      generalize 2 ^ (8 * k) = t
      generalize byN (m_mem τ) p k = c
      generalize iU (m_mem τ (p + k)) = b
      grind
theorem mbytes {τ : MS} (hm : ∀ i, iU (m_mem τ i) < 256) {p n : Nat} (hn : n ≤ 8) (hn1 : 1 ≤ n) (hp : p + n ≤ 65536) : F_X12_bytes τ (nI p) (nI n) = some (lN (byN (m_mem τ) p n)) := by
  unfold F_X12_bytes
  have h := bytes_loop hm p (nI n) 70 n 0 (by omega) hn hp (Nat.pos_of_ne_zero (by simp))
  rw [Nat.zero_mul, Nat.zero_add] at h
  rw [show nI n - (1 : Int32) = nI n + (-1) from by rw [pred_nI hn1]; obtain ⟨q, rfl⟩ := Nat.exists_eq_add_of_le' hn1; rw [pk_m1]; rfl]
  exact h
theorem l_lt0 {p : Nat} (hp : p < 2 ^ 63) : ¬ lN p < 0 := by
  rw [show (0 : Int64) = lN 0 from rfl, pk_lLT hp (by decide)]
  omega
theorem holds_place (σ : XS) {p n : Nat} (hp : p < 2 ^ 31) (hn : n ≤ 8) : F_X4_holds σ (lN p) (nI n) = decide (p + n ≤ 65536) := by
  unfold F_X4_holds
  rw [if_neg (l_lt0 (by omega)), show (65536 : Int32) = nI 65536 from rfl, pk_sub (by omega), nI_toL (by omega)]
  have q := pk_lLT (a := 65536 - n) (b := p) (by omega) (by omega)
  by_cases h : p + n ≤ 65536
  · rw [if_neg (fun x => by have := q.mp x; omega)]; simp [h]
  · rw [if_pos (q.mpr (by omega))]; simp [h]
theorem cell_ix {p : Nat} (hp : p < 65536) : (j_lushr (lN p) 3).toInt32 = nI (p / 8) := by
  have : j_lushr (lN p) 3 = lN (p / 8) := by
    apply lU_inj
    rw [show (3 : Int32) = nI 3 from rfl, lU_ushrG _ (by decide), lU_lN, lU_lN]
    omega
  rw [this, lN_i]
theorem off_ix {p : Nat} (hp : p < 65536) : (lN p &&& 7).toInt32 * 8 = nI (8 * (p % 8)) := by
  have : lN p &&& 7 = lN (p % 8) := by
    apply l_ext
    intro i hi
    rw [lb_and, show (7 : Int64) = lN (2 ^ 3 - 1) from rfl, lb_lN, lb_lN, lb_lN, Nat.testBit_two_pow_sub_one, show (8 : Nat) = 2 ^ 3 from rfl, Nat.testBit_mod_two_pow]
    cases p.testBit i <;> simp [hi]
  rw [this, lN_i, show (8 : Int32) = nI 8 from rfl, pk_mul, Nat.mul_comm]
theorem mul8 {n : Nat} : nI n * (8 : Int32) = nI (8 * n) := by
  rw [show (8 : Int32) = nI 8 from rfl, pk_mul, Nat.mul_comm]
theorem xread {τ : MS} (hm : ∀ i, iU (m_mem τ i) < 256) (pc : Int64) (t0 : Int32) {p n : Nat} (hn : n ≤ 8) (hn1 : 1 ≤ n) (hp : p + n ≤ 65536) (hoff : p % 8 + n ≤ 8) : F_X4_read (xm τ pc t0) (lN p) (nI n) = some (lN (byN (m_mem τ) p n)) := by
  unfold F_X4_read
  rw [holds_place _ (by omega) hn, if_pos (by simp [hp]), cell_ix (by omega), if_neg (nI_in (by omega) (by omega)), cl_nI (by omega), off_ix (by omega), mul8]
  congr 1
  apply l_ext
  intro i hi
  show lb (j_lushr (cOf (m_mem τ) (p / 8)) (nI (8 * (p % 8))) &&& F_X1_ones (nI (8 * n))) i = _
  rw [lb_and, lb_ushr, s6_nI (by omega), ones_bits (by omega) hi, lb_lN, byN_tb hm]
  by_cases h : i < 8 * n
  · rw [lb_cOf hm (by omega) (by omega)]
    have h1 : 8 * (p / 8) + (8 * (p % 8) + i) / 8 = p + i / 8 := by omega
    have h2 : (8 * (p % 8) + i) % 8 = i % 8 := by omega
    rw [h1, h2]
    simp [h, hi]
  · simp [h]
def wrM (m : Nat → Int32) (p n : Nat) (v : Int64) : Nat → Int32 := fun q => if p ≤ q ∧ q < p + n then nI (lU v / 2 ^ (8 * (q - p)) % 256) else m q
theorem byte_sshr (v : Int64) {k : Nat} (hk : k < 8) : (j_lshr v ((8 : Int32) * nI k) &&& 255).toInt32 = nI (lU v / 2 ^ (8 * k) % 256) := by
  have e : (8 : Int32) * nI k = nI (8 * k) := by rw [show (8 : Int32) = nI 8 from rfl, pk_mul]
  rw [e]
  apply i_ext
  intro i hi
  rw [ib_l2i _ hi, lb_and, lb_sshr _ _ (by omega), s6_nI (by omega), show (255 : Int64) = lN (2 ^ 8 - 1) from rfl, lb_lN, Nat.testBit_two_pow_sub_one, ib_nI, show (256 : Nat) = 2 ^ 8 from rfl, Nat.testBit_mod_two_pow, Nat.testBit_div_two_pow]
  by_cases h : i < 8
  · have h2 : 8 * k + i < 64 := by omega
    have h3 : i < 64 := by omega
    rw [if_pos h2, lb_tb, Nat.add_comm i]
    simp [h, hi, h3]
  · simp [h]
theorem wrM_s (m : Nat → Int32) (p n : Nat) (v : Int64) : upd (wrM m p n v) (p + n) (nI (lU v / 2 ^ (8 * n) % 256)) = wrM m p (n + 1) v := by
  funext q
  simp only [upd, wrM]
  by_cases h : q = p + n
  · subst h
    have h1 : p ≤ p + n ∧ p + n < p + (n + 1) := by omega
    have h2 : p + n - p = n := by omega
    simp [h2]
  · have h1 : (p ≤ q ∧ q < p + (n + 1)) ↔ (p ≤ q ∧ q < p + n) := by omega
    simp only [h, if_false, h1]
theorem wrM_0 (m : Nat → Int32) (p : Nat) (v : Int64) : wrM m p 0 v = m := by
  funext q
  unfold wrM
  rw [if_neg (by omega)]
theorem keep_loop {τ : MS} {p : Nat} (hp : m_place τ = lN p) (v : Int64) {n : Nat} (hn : n ≤ 8) (hpn : p + n ≤ 65536) : ∀ (f k : Nat), n < f + k → k ≤ n → F_X12_keep_c3 f (mu_mem τ (wrM (m_mem τ) p k v)) (nI n) v (nI k) = some (mu_mem τ (wrM (m_mem τ) p n v)) := by
  intro f
  induction f with
  | zero => intro k h1 h2; omega
  | succ f ih =>
    intro k h1 h2
    rw [F_X12_keep_c3]
    by_cases hk : k = n
    · subst hk
      rw [if_pos (nI_le (Nat.le_refl _) (by omega))]
    · rw [if_neg (nI_ge (by omega) (by omega))]
      have e : m_place (mu_mem τ (wrM (m_mem τ) p k v)) = lN p := hp
      rw [e, lN_i, nI_add, if_neg (nI_in (by omega) (by omega)), cl_nI (by omega), byte_sshr v (by omega), nI_inc]
      have e2 : mu_mem (mu_mem τ (wrM (m_mem τ) p k v)) (upd (m_mem (mu_mem τ (wrM (m_mem τ) p k v))) (p + k) (nI (lU v / 2 ^ (8 * k) % 256))) = mu_mem τ (wrM (m_mem τ) p (k + 1) v) := by
        rw [← wrM_s]
        rfl
      rw [e2]
      exact ih (k + 1) (by omega) (by omega)
theorem mu_mem_self (τ : MS) : mu_mem τ (m_mem τ) = τ := rfl
theorem mkeep {τ : MS} {p : Nat} (hp : m_place τ = lN p) (v : Int64) {n : Nat} (hn : n ≤ 8) (hpn : p + n ≤ 65536) : F_X12_keep τ (nI n) v = some (mu_mem τ (wrM (m_mem τ) p n v)) := by
  unfold F_X12_keep
  have h := keep_loop hp v hn hpn 70 0 (by omega) (by omega)
  rw [wrM_0, mu_mem_self] at h
  exact h
theorem wrM_lt {m : Nat → Int32} (hm : ∀ i, iU (m i) < 256) (p n : Nat) (v : Int64) : ∀ i, iU (wrM m p n v i) < 256 := by
  intro i
  unfold wrM
  split
  · rw [iU_nI]
    have : lU v / 2 ^ (8 * (i - p)) % 256 < 256 := Nat.mod_lt _ (by decide)
    omega
  · exact hm i
theorem cOf_wr {m : Nat → Int32} (hm : ∀ i, iU (m i) < 256) {p n : Nat} (hn : n ≤ 8) (hp : p + n ≤ 65536) (hn1 : 1 ≤ n) (hoff : p % 8 + n ≤ 8) (v : Int64) : vp_updL (cOf m) (p / 8) ((cOf m (p / 8) &&& (j_lshl (F_X1_ones (nI (8 * n))) (nI (8 * (p % 8))) ^^^ (-1))) ||| j_lshl (v &&& F_X1_ones (nI (8 * n))) (nI (8 * (p % 8)))) = cOf (wrM m p n v) := by
  funext k
  have hw := wrM_lt hm p n v
  by_cases hk : k = p / 8
  · subst hk
    simp only [vp_updL, if_true]
    apply l_ext
    intro i hi
    rw [lb_cOf hw (by omega) hi, lb_or, lb_and, xor_m1 _ hi, lb_shl _ _ hi, lb_shl _ _ hi, lb_cOf hm (by omega) hi, s6_nI (by omega), lb_and]
    unfold wrM
    by_cases h1 : 8 * (p % 8) ≤ i
    · rw [ones_bits (by omega) (by omega)]
      by_cases h2 : i - 8 * (p % 8) < 8 * n
      · have h3 : p ≤ 8 * (p / 8) + i / 8 ∧ 8 * (p / 8) + i / 8 < p + n := by omega
        rw [if_pos h3, iU_nI]
        have h4 : 8 * (8 * (p / 8) + i / 8 - p) + i % 8 = i - 8 * (p % 8) := by omega
        have h5 : (lU v / 2 ^ (8 * (8 * (p / 8) + i / 8 - p)) % 256 % 2 ^ 32).testBit (i % 8) = lb v (i - 8 * (p % 8)) := by
          rw [Nat.mod_eq_of_lt (show lU v / 2 ^ (8 * (8 * (p / 8) + i / 8 - p)) % 256 < 2 ^ 32 from Nat.lt_of_lt_of_le (Nat.mod_lt _ (by decide)) (by decide)), show (256 : Nat) = 2 ^ 8 from rfl, Nat.testBit_mod_two_pow, Nat.testBit_div_two_pow, lb_tb]
          have h6 : i % 8 < 8 := Nat.mod_lt _ (by decide)
          rw [show i % 8 + 8 * (8 * (p / 8) + i / 8 - p) = i - 8 * (p % 8) from by omega]
          simp [h6]
        rw [h5]
        simp [h1, h2]
      · have h3 : ¬ (p ≤ 8 * (p / 8) + i / 8 ∧ 8 * (p / 8) + i / 8 < p + n) := by omega
        rw [if_neg h3]
        simp [h2]
    · have h3 : ¬ (p ≤ 8 * (p / 8) + i / 8 ∧ 8 * (p / 8) + i / 8 < p + n) := by omega
      rw [if_neg h3]
      simp [h1]
  · simp only [vp_updL, hk, if_false]
    by_cases hk2 : k < 8192
    · apply l_ext
      intro i hi
      rw [lb_cOf hw hk2 hi, lb_cOf hm hk2 hi]
      unfold wrM
      have h3 : ¬ (p ≤ 8 * k + i / 8 ∧ 8 * k + i / 8 < p + n) := by omega
      rw [if_neg h3]
    · unfold cOf
      rw [if_neg hk2, if_neg hk2]
theorem xwrite {τ : MS} (hm : ∀ i, iU (m_mem τ i) < 256) (pc : Int64) (t0 : Int32) {p n : Nat} (hn : n ≤ 8) (hn1 : 1 ≤ n) (hp : p + n ≤ 65536) (hoff : p % 8 + n ≤ 8) (v : Int64) : F_X4_write (xm τ pc t0) (lN p) (nI n) v = some (xm (mu_mem τ (wrM (m_mem τ) p n v)) pc t0) := by
  unfold F_X4_write F_X4_write_c16 F_X4_write_c27
  rw [holds_place _ (by omega) hn, if_pos (by simp [hp]), cell_ix (by omega), if_neg (nI_in (by omega) (by omega)), if_neg (nI_in (by omega) (by omega)), cl_nI (by omega), off_ix (by omega), mul8]
  congr 1
  show (vp_updL (cOf (m_mem τ)) (p / 8) ((cOf (m_mem τ) (p / 8) &&& _) ||| _), vp_updL (pOf τ) 33 pc, m_asked τ, nxt τ pc, t0 + m_taken τ, m_ins τ) = _
  rw [cOf_wr hm hn hp hn1 hoff]
  rfl
