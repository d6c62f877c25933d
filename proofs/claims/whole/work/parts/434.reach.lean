theorem lev_of {τ : MS} (hI : Inv τ) : ∃ b : Bool, m_level τ = nI b.toNat := by
  obtain ⟨-, ⟨b, h⟩, -⟩ := hI
  exact ⟨b, by rw [h]; cases b <;> rfl⟩
theorem xlev (τ : MS) (pc : Int64) (t0 : Int32) {b : Bool} (hb : m_level τ = nI b.toNat) : F_X8_level (xm τ pc t0) = nI b.toNat := by
  unfold F_X8_level
  rw [show (43 : Int32).toNatClampNeg = 43 from rfl, xP_43, hb]
  cases b <;> rfl
theorem bN_lt (b : Bool) : b.toNat < 2 := by cases b <;> decide
theorem zB_nI (b : Bool) : zB b = nI b.toNat := by cases b <;> rfl
theorem dataFault_eq {τ : MS} {pc : Int64} (h : Ok τ pc) {b : Bool} (hb : m_level τ = nI b.toNat) (a p : Int64) {N : Nat} (hN : N < 64) (wr : Bool) : F_X12_dataFault (scr τ (nI N) p) a wr = exc (far (scr τ (nI N) p) a) (36 + b.toNat) (N + (if wr = true then 64 else 0)) pc := by
  have hI : Inv (far (scr τ (nI N) p) a) := h.1
  have e1 : m_state (far (scr τ (nI N) p) a) 2 = pc := h.2.2
  have e2 : m_level (far (scr τ (nI N) p) a) = nI b.toNat := hb
  unfold F_X12_dataFault F_X12_dataFault_c15 F_X12_dataFault_c27 F_X12_dataFault_c46
  rw [show (2 : Int32).toNatClampNeg = 2 from rfl]
  show (if wr = true then F_X12_exception (far (scr τ (nI N) p) a) ((36 : Int32) + m_level (far (scr τ (nI N) p) a)) ((nI N).toInt64 + 64) (m_state (far (scr τ (nI N) p) a) 2) else F_X12_exception (far (scr τ (nI N) p) a) ((36 : Int32) + m_level (far (scr τ (nI N) p) a)) ((nI N).toInt64) (m_state (far (scr τ (nI N) p) a) 2)) = _
  rw [e1, e2, nI_toL (by omega), show (36 : Int32) = nI 36 from rfl, nI_add, show (64 : Int64) = lN 64 from rfl, lN_add]
  cases wr
  · rw [iff_f, exception_eq hI, iff_f, Nat.add_zero]
  · rw [iff_t, exception_eq hI, iff_t]
theorem reaches_m (τ : MS) (a : Int64) {z : Nat} (hz : z < 4) (wr : Bool) (ha : lU a % 2 ^ z = 0) : F_X12_reaches τ a (nI (2 ^ z)) wr = (mfind τ a (nI (2 ^ z)) (zB wr) (m_level τ)).bind fun v => if v.1 = true then some (true, v.2) else some (false, F_X12_dataFault v.2 a wr) := by
  unfold F_X12_reaches F_X12_reaches_c22 F_X12_reaches_c33 F_X12_reaches_c64 F_X12_reaches_c65 mfind
  rw [al_m z hz, if_pos ((al_0 a hz).mpr ha)]
  have key : ∀ w, (F_X12_leads τ a (zB w) (m_level τ)).bind (fun v1 => (if v1.1 = true then (if (F_X12_inside v1.2 (nI (2 ^ z))).1 = true then some (true, (F_X12_inside v1.2 (nI (2 ^ z))).2) else some (false, F_X12_dataFault (F_X12_inside v1.2 (nI (2 ^ z))).2 a wr)) else some (false, F_X12_dataFault v1.2 a wr))) = ((F_X12_leads τ a (zB w) (m_level τ)).bind fun v1 => if v1.1 = true then (if (F_X12_inside v1.2 (nI (2 ^ z))).1 = true then some (true, (F_X12_inside v1.2 (nI (2 ^ z))).2) else some (false, (F_X12_inside v1.2 (nI (2 ^ z))).2)) else some (false, v1.2)).bind fun v => if v.1 = true then some (true, v.2) else some (false, F_X12_dataFault v.2 a wr) := by
    intro w
    cases F_X12_leads τ a (zB w) (m_level τ) with
    | none => rfl
    | some v =>
      rw [Option.bind_some, Option.bind_some]
      cases v.1
      · rfl
      · rw [iff_t, iff_t]
        cases (F_X12_inside v.2 (nI (2 ^ z))).1 <;> rfl
  cases wr
  · exact key false
  · exact key true
theorem reaches_c (τ : MS) (a : Int64) {z : Nat} (hz : z < 4) (wr : Bool) (ha : ¬ lU a % 2 ^ z = 0) : F_X12_reaches τ a (nI (2 ^ z)) wr = some (false, F_X12_dataFault (scr τ (nI 33) (m_place τ)) a wr) := by
  unfold F_X12_reaches F_X12_reaches_c22 F_X12_reaches_c33 F_X12_reaches_c64 F_X12_reaches_c65 F_X12_wrong
  rw [al_m z hz, if_neg (fun q => ha ((al_0 a hz).mp q))]
  cases wr <;> rfl
def Reach (τ : MS) (pc : Int64) (t0 : Int32) (n : Nat) (o : Option (Bool × MS)) (x : Option (Int32 × XS)) : Prop :=
  (∃ P, P + n ≤ 65536 ∧ P % n = 0 ∧ o = some (true, scr τ (m_faultWhat τ) (lN P)) ∧ x = some (nI P, xm τ pc t0)) ∨ (∃ τ' v, o = some (false, τ') ∧ Ok' τ' pc ∧ x = some (v, xm τ' pc t0) ∧ ¬ (0 : Int32) ≤ v)
theorem reach_fault {τ : MS} {pc : Int64} {t0 : Int32} {n : Nat} (h : Ok τ pc) {a p : Int64} {N : Nat} (hN : N < 64) {wr : Bool} {o : Option (Bool × MS)} {x : Option (Int32 × XS)} (ho : o = some (false, F_X12_dataFault (scr τ (nI N) p) a wr)) (hx : x = if (!wr) = true then some ((-1 - nI N), F_X8_raiseAt (xm τ pc t0) a (36 + F_X8_level (xm τ pc t0)) ((-1 : Int32) - (-1 - nI N) + 0)) else some ((-1 - nI N), F_X8_raiseAt (xm τ pc t0) a (36 + F_X8_level (xm τ pc t0)) ((-1 : Int32) - (-1 - nI N) + 64))) : Reach τ pc t0 n o x := by
  obtain ⟨b, hb⟩ := lev_of h.1
  have hq := negfault N hN
  have hbl := bN_lt b
  rw [dataFault_eq h hb a p hN wr] at ho
  refine Or.inr ⟨_, -1 - nI N, ho, Ok'_exc (by exact h.1) _ _ _ _, ?_, hq.1⟩
  rw [hx, xlev τ pc t0 hb, hq.2.2.2, show (36 : Int32) = nI 36 from rfl, nI_add, show (64 : Int32) = nI 64 from rfl, show (0 : Int32) = nI 0 from rfl, nI_add, nI_add]
  cases wr
  · rw [show (!false) = true from rfl, iff_t, iff_f, raiseAt_eq h.1 pc t0 a (by omega) (by omega)]
    rfl
  · rw [show (!true) = false from rfl, iff_f, iff_t, raiseAt_eq h.1 pc t0 a (by omega) (by omega)]
    rfl
theorem reach_spec {τ : MS} {pc : Int64} (t0 : Int32) (h : Ok τ pc) (a : Int64) {z : Nat} (hz : z < 4) (wr : Bool) : Reach τ pc t0 (2 ^ z) (F_X12_reaches τ a (nI (2 ^ z)) wr) (F_X0_find (xm τ pc t0) a (nI (2 ^ z)) (!wr)) := by
  obtain ⟨b, hb⟩ := lev_of h.1
  have hx : F_X0_find (xm τ pc t0) a (nI (2 ^ z)) (!wr) = (F_X10_find (xm τ pc t0) a (nI (2 ^ z)) (nI wr.toNat) (nI b.toNat)).bind fun v1 => if 0 ≤ v1 then some (v1, xm τ pc t0) else (if (!wr) = true then some (v1, F_X8_raiseAt (xm τ pc t0) a (36 + F_X8_level (xm τ pc t0)) ((-1 : Int32) - v1 + 0)) else some (v1, F_X8_raiseAt (xm τ pc t0) a (36 + F_X8_level (xm τ pc t0)) ((-1 : Int32) - v1 + 64))) := by
    unfold F_X0_find F_X0_find_c16 F_X0_find_c48
    rw [xlev τ pc t0 hb]
    cases wr <;> rfl
  rw [hx]
  by_cases ha : lU a % 2 ^ z = 0
  · rw [reaches_m τ a hz wr ha, zB_nI, hb]
    rcases find_spec h.1 pc t0 a hz (what := wr.toNat) (frm := b.toNat) (by have := bN_lt wr; omega) (bN_lt b) ha with ⟨P, h1, h2, ho, hxx⟩ | ⟨N, p, hN, ho, hxx⟩
    · rw [ho, hxx, Option.bind_some, Option.bind_some]
      dsimp only
      have hp : 0 < 2 ^ z := Nat.pos_of_ne_zero (by simp)
      rw [iff_t, if_pos (show (0 : Int32) ≤ nI P from nI_le (a := 0) (by omega) (by omega))]
      exact Or.inl ⟨P, h1, h2, rfl, rfl⟩
    · rw [ho, hxx, Option.bind_some, Option.bind_some]
      dsimp only
      rw [iff_f, if_neg (negfault N hN).1]
      exact reach_fault h hN rfl rfl
  · rw [reaches_c τ a hz wr ha, find_crooked _ a hz _ _ ha, Option.bind_some, if_neg (by decide)]
    exact reach_fault h (N := 33) (by decide) rfl rfl
