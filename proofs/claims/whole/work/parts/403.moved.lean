def mvb (v : Int64) (how by_ w i : Nat) : Bool :=
  if how = 0 then (decide (by_ ≤ i) && lb v (i - by_)) else if how = 1 then (decide (i + by_ < w) && lb v (i + by_)) else if how = 2 then lb v (if i + by_ < w then i + by_ else w - 1) else lb v (if i + by_ < w then i + by_ else i + by_ - w)
theorem or_bit_step {x t v : Int64} {k j : Nat} {P : Nat → Bool} (hk : k < 64) (hj : j < 64) (h : ∀ i, i < 64 → lb t i = (lb x i || (decide (k ≤ i) && P i))) (hP : P k = lb v j) : ∀ i, i < 64 → lb t i = (lb (x ||| j_lshl ((j_lshr v (nI j)) &&& 1) (nI k)) i || (decide (k + 1 ≤ i) && P i)) := by
  intro i hi
  rw [h i hi, lb_or, lU_sshr1 v hj, lb_bool_shl _ hk hi]
  by_cases h3 : i = k
  · subst h3
    rw [hP]
    simp
    intro h
    omega
  · have h4 : (k ≤ i) ↔ (k + 1 ≤ i) := by omega
    simp [h3, h4]
theorem skip_bit_step {x t : Int64} {k : Nat} {P : Nat → Bool} (h : ∀ i, i < 64 → lb t i = (lb x i || (decide (k ≤ i) && P i))) (hP : P k = false) : ∀ i, i < 64 → lb t i = (lb x i || (decide (k + 1 ≤ i) && P i)) := by
  intro i hi
  rw [h i hi]
  by_cases h3 : i = k
  · subst h3
    rw [hP]
    simp
  · have h4 : (k ≤ i) ↔ (k + 1 ≤ i) := by omega
    simp [h4]
theorem end_bits {x t : Int64} {k : Nat} {P : Nat → Bool} (h : ∀ i, i < 64 → lb t i = (lb x i || (decide (k ≤ i) && P i))) (hP : ∀ i, k ≤ i → i < 64 → P i = false) : x = t := by
  apply l_ext
  intro i hi
  rw [h i hi]
  by_cases h3 : k ≤ i
  · rw [hP i h3 hi]; simp
  · simp [h3]
theorem moved_loop (v t : Int64) {how by_ w : Nat} (hhow : how < 4) (hby : by_ < w) (hw : w ≤ 64) : ∀ (n k : Nat) (x : Int64), w < n + k → k ≤ w → (∀ i, i < 64 → lb t i = (lb x i || (decide (k ≤ i) && (decide (i < w) && mvb v how by_ w i)))) → F_X12_moved_c6 n v (nI how) (nI by_) (nI w) x (nI k) = some t := by
  intro n
  induction n with
  | zero => intro k x h1 h2; omega
  | succ n ih =>
    intro k x h1 h2 h
    rw [F_X12_moved_c6]
    by_cases hk : k = w
    · subst hk
      rw [if_pos (nI_le (Nat.le_refl _) (by omega))]
      congr 1
      exact end_bits h (fun i hi _ => by have : ¬ i < k := by omega
                                         simp [this])
    · have hlt : k < w := by omega
      rw [if_neg (nI_ge hlt (by omega))]
      have go : ∀ j, j < w → (decide (k < w) && mvb v how by_ w k) = lb v j → F_X12_moved_c66 (F_X12_moved_c6 n) v (nI how) (nI by_) (nI w) x (nI k) (nI j) = some t := by
        intro j hj hP
        unfold F_X12_moved_c66
        rw [if_neg (nI_pos (by omega)), if_neg (nI_ge hj (by omega))]
        unfold F_X12_moved_c92
        rw [nI_inc]
        exact ih (k + 1) _ (by omega) (by omega) (or_bit_step (P := fun i => decide (i < w) && mvb v how by_ w i) (by omega) (by omega) h hP)
      have skip : mvb v how by_ w k = false → F_X12_moved_c92 (F_X12_moved_c6 n) v (nI how) (nI by_) (nI w) x (nI k) = some t := by
        intro hP
        unfold F_X12_moved_c92
        rw [nI_inc]
        exact ih (k + 1) _ (by omega) (by omega) (skip_bit_step (P := fun i => decide (i < w) && mvb v how by_ w i) h (by simp [hP]))
      have hh : how = 0 ∨ how = 1 ∨ how = 2 ∨ how = 3 := by omega
      rcases hh with rfl | rfl | rfl | rfl
      · rw [if_pos (show nI 0 = (0 : Int32) from rfl)]
        unfold F_X12_moved_c29
        rw [if_neg (by decide)]
        unfold F_X12_moved_c47
        rw [if_neg (by decide)]
        by_cases hb : by_ ≤ k
        · rw [pk_sub hb]
          exact go (k - by_) (by omega) (by simp [mvb, hb, hlt])
        · unfold F_X12_moved_c66
          rw [if_pos (pk_sneg (by omega) (by omega))]
          exact skip (by simp [mvb, hb])
      · rw [if_neg (by decide), nI_add]
        unfold F_X12_moved_c29
        rw [if_neg (by decide)]
        unfold F_X12_moved_c47
        rw [if_neg (by decide)]
        by_cases hb : k + by_ < w
        · exact go (k + by_) hb (by simp [mvb, hb, hlt])
        · unfold F_X12_moved_c66
          rw [if_neg (nI_pos (by omega)), if_pos (nI_le (by omega) (by omega))]
          exact skip (by simp [mvb, hb])
      · rw [if_neg (by decide), nI_add]
        unfold F_X12_moved_c29
        rw [if_pos (show nI 2 = (2 : Int32) from rfl)]
        by_cases hb : k + by_ < w
        · rw [if_pos (nI_lt hb (by omega))]
          unfold F_X12_moved_c47
          rw [if_neg (by decide)]
          exact go (k + by_) hb (by simp [mvb, hb, hlt])
        · rw [if_neg (nI_nlt (by omega) (by omega)), pred_nI (by omega)]
          unfold F_X12_moved_c47
          rw [if_neg (by decide)]
          exact go (w - 1) (by omega) (by simp [mvb, hb, hlt])
      · rw [if_neg (by decide), nI_add]
        unfold F_X12_moved_c29
        rw [if_neg (by decide)]
        unfold F_X12_moved_c47
        rw [if_pos (show nI 3 = (3 : Int32) from rfl)]
        by_cases hb : k + by_ < w
        · rw [if_pos (nI_lt hb (by omega))]
          exact go (k + by_) hb (by simp [mvb, hb, hlt])
        · rw [if_neg (nI_nlt (by omega) (by omega)), pk_sub (by omega)]
          exact go (k + by_ - w) (by omega) (by simp [mvb, hb, hlt])
theorem lb_0 (i : Nat) : lb 0 i = false := by
  show lb (lN 0) i = false
  rw [lb_lN]; simp
theorem moved_eq {v t : Int64} {how by_ w : Nat} (hhow : how < 4) (hby : by_ < w) (hw : w ≤ 64) (h : ∀ i, i < 64 → lb t i = (decide (i < w) && mvb v how by_ w i)) : F_X12_moved v (nI how) (nI by_) (nI w) = some t := by
  unfold F_X12_moved
  rw [show (0 : Int32) = nI 0 from rfl]
  refine moved_loop v t hhow hby hw 70 0 0 (by omega) (by omega) (fun i hi => ?_)
  rw [h i hi, lb_0]
  simp
