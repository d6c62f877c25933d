def RelT (t0 : Int32) (σ : XS) (τ : MS) : Prop := Inv τ ∧ ∃ n o, σ = (cOf (m_mem τ), pOf τ, m_asked τ, n, t0 + m_taken τ, o)
theorem find_cong (c p : Nat → Int64) (i i' : Bool) (n n' : Int64) (t t' o o' : Int32) (a : Int64) (z w f : Int32) : F_X10_find ((c, p, i, n, t, o) : XS) a z w f = F_X10_find ((c, p, i', n', t', o') : XS) a z w f := rfl
theorem pOf_33 (τ : MS) : pOf τ 33 = m_state τ 2 := rfl
theorem upd_self (τ : MS) {pc : Int64} (h : m_state τ 2 = pc) : vp_updL (pOf τ) 33 pc = pOf τ := by
  funext k
  unfold vp_updL
  by_cases hk : k = 33
  · rw [if_pos hk, hk, pOf_33, h]
  · rw [if_neg hk]
def aft (τ : MS) : MS := if m_calls τ = true then τ else mu_state τ (vp_updL (m_state τ) 2 (m_state τ 2 + 4))
theorem fin_rel {τ : MS} {pc : Int64} (t0 : Int32) (h : Ok' τ pc) : RelT t0 (F_X8_finish (xm τ pc t0)) (aft τ) := by
  have e : F_X8_finish (xm τ pc t0) = (cOf (m_mem τ), vp_updL (vp_updL (pOf τ) 33 pc) 33 (nxt τ pc), m_asked τ, nxt τ pc, t0 + m_taken τ, m_ins τ) := rfl
  rw [e, updL_over]
  unfold aft nxt
  cases hc : m_calls τ
  · rw [iff_f, iff_f, h.2 hc, ← pOf_st τ (k := 2) (by decide)]
    exact ⟨h.1, _, _, rfl⟩
  · rw [iff_t, iff_t, upd_self τ rfl]
    exact ⟨h.1, _, _, rfl⟩
theorem aft_exc (τ : MS) (k n : Nat) (back : Int64) : aft (exc τ k n back) = exc τ k n back := rfl
theorem aft_ent (τ : MS) (back : Int64) (b : Bool) : aft (ent τ back b) = ent τ back b := rfl
theorem masked0 {τ : MS} (hI : Inv τ) : ((m_masked τ).toInt64 = 0) ↔ m_masked τ = 0 := by
  obtain ⟨b, hb⟩ := hI.2.2.2.1
  rw [hb]
  cases b <;> decide
theorem Ok'_ent {τ : MS} (hI : Inv τ) (back : Int64) (b : Bool) (pc : Int64) : Ok' (ent τ back b) pc := ⟨Inv_ent hI back b, fun h => by cases h⟩
theorem ent_a (τ : MS) (o : Int32) (back : Int64) (b : Bool) : ent (mu_calls (mu_ins τ o) false) back b = mu_ins (ent τ back b) o := rfl
theorem exc_a (τ : MS) (o : Int32) (k n : Nat) (back : Int64) : exc (mu_calls (mu_ins τ o) false) k n back = mu_ins (exc τ k n back) o := rfl
theorem far_a (τ : MS) (o : Int32) (a : Int64) : far (mu_calls (mu_ins τ o) false) a = mu_calls (mu_ins (far τ a) o) false := rfl
theorem exc_scr (τ : MS) (f : Int32) (p a : Int64) (k n : Nat) (back : Int64) : exc (far (scr τ f p) a) k n back = scr (exc (far τ a) k n back) f p := rfl
theorem RelT_ins {t0 : Int32} {σ : XS} {τ : MS} {o : Int32} : RelT t0 σ (mu_ins τ o) ↔ RelT t0 σ τ := Iff.rfl
theorem RelT_scr {t0 : Int32} {σ : XS} {τ : MS} {f : Int32} {p : Int64} : RelT t0 σ (scr τ f p) ↔ RelT t0 σ τ := Iff.rfl
theorem rel_exc {τ : MS} (hI : Inv τ) (o t0 : Int32) (pc : Int64) (k n : Nat) (back : Int64) : RelT t0 (F_X8_finish (xm (exc (mu_calls (mu_ins τ o) false) k n back) pc t0)) (exc τ k n back) := by
  have h := fin_rel t0 (Ok'_exc (τ := (mu_calls (mu_ins τ o) false)) hI k n back pc)
  rw [aft_exc] at h
  exact RelT_ins.mp (by rw [← exc_a]; exact h)
theorem rel_ent {τ : MS} (hI : Inv τ) (o t0 : Int32) (pc : Int64) (back : Int64) (b : Bool) : RelT t0 (F_X8_finish (xm (ent (mu_calls (mu_ins τ o) false) back b) pc t0)) (ent τ back b) := by
  have h := fin_rel t0 (Ok'_ent (τ := (mu_calls (mu_ins τ o) false)) hI back b pc)
  rw [aft_ent] at h
  exact RelT_ins.mp (by rw [← ent_a]; exact h)
def stepX (σ : XS) : Option XS := (F_X6_fetches σ).bind fun v1 => (if v1.1 = true then ((F_X6_performs v1.2).bind fun v2 => (if v2.1 = true then some (F_X8_finish v2.2) else some (F_X8_finish (F_X8_raise v2.2 (0 : Int32) (0 : Int32))))) else some (F_X8_finish v1.2))
def StpR (t0 : Int32) (x : Option XS) (m : Option MS) : Prop := ∃ (σ' : XS) (τ' : MS), x = some σ' ∧ m = some τ' ∧ RelT t0 σ' τ'
/-- a word was fetched: it is done -/
theorem stp_does {τ : MS} {pc : Int64} (t0 : Int32) (hOk : Ok τ pc) : StpR t0 ((F_X6_performs (xm τ pc t0)).bind fun v2 => (if v2.1 = true then some (F_X8_finish v2.2) else some (F_X8_finish (F_X8_raise v2.2 (0 : Int32) (0 : Int32))))) ((F_X12_does τ).bind fun v3 => (if (m_calls v3) = true then some (v3) else some ((mu_state v3 (vp_updL (m_state v3) 2 ((m_state v3 2) + (4 : Int64))))))) := by
  obtain ⟨x, hx2, τ', a1, a2, a3⟩ := i_does t0 hOk
  have hres : (if m_calls τ' = true then some τ' else some (mu_state τ' (vp_updL (m_state τ') 2 (m_state τ' 2 + 4)))) = some (aft τ') := by
    unfold aft
    cases m_calls τ' <;> rfl
  rw [hx2, a1, Option.bind_some, Option.bind_some, hres]
  refine ⟨F_X8_finish (xm τ' pc t0), aft τ', ?_, rfl, fin_rel t0 a2⟩
  rcases a3 with a3 | ⟨a3, a4⟩
  · rw [a3]
    rfl
  · rw [a3, a4]
    dsimp only
    rw [iff_f, show (0 : Int32) = nI 0 from rfl, raise_eq hOk.1 pc t0 (by decide) (by decide)]
theorem mfind_m {α : Type} (τ : MS) (pc : Int64) (n w f : Int32) (A B : MS → Option α) : ((F_X12_leads τ pc w f).bind fun v1 => (if v1.1 = true then (if (F_X12_inside v1.2 n).1 = true then A (F_X12_inside v1.2 n).2 else B (F_X12_inside v1.2 n).2) else B v1.2)) = (mfind τ pc n w f).bind fun v => if v.1 = true then A v.2 else B v.2 := by
  unfold mfind
  cases F_X12_leads τ pc w f with
  | none => rfl
  | some v =>
    rw [Option.bind_some, Option.bind_some]
    cases v.1
    · rfl
    · rw [iff_t, iff_t]
      cases (F_X12_inside v.2 n).1 <;> rfl
theorem c94_eq {τ : MS} {pc : Int64} (hI : Inv τ) (hpc : m_state τ 2 = pc) {b : Bool} (hbl : m_level τ = nI b.toNat) {N : Nat} (hN : N < 64) (p : Int64) : F_X12_oneStep_c94 (scr τ (nI N) p) = some (scr (exc (far τ pc) (32 + b.toNat) N pc) (nI N) p) := by
  unfold F_X12_oneStep_c94
  have e1 : m_state (scr τ (nI N) p) 2 = pc := hpc
  rw [show (2 : Int32).toNatClampNeg = 2 from rfl, show (9 : Int32).toNatClampNeg = 9 from rfl, e1]
  show some (F_X12_exception (far (scr τ (nI N) p) pc) ((32 : Int32) + m_level τ) (nI N).toInt64 (m_state (far (scr τ (nI N) p) pc) 2)) = _
  have e2 : m_state (far (scr τ (nI N) p) pc) 2 = pc := hpc
  rw [e2, hbl, nI_toL (by omega), show (32 : Int32) = nI 32 from rfl, nI_add, exception_eq (show Inv (far (scr τ (nI N) p) pc) from hI), exc_scr]
theorem c26_eq {τ : MS} {pc : Int64} (hpc : m_state τ 2 = pc) : F_X12_oneStep_c26 τ = if pc &&& 3 = 0 then (mfind τ pc (nI (2 ^ 2)) (nI 2) (m_level τ)).bind (fun v => if v.1 = true then ((F_X12_bytes v.2 (m_place v.2).toInt32 (nI (2 ^ 2))).bind fun v2 => ((F_X12_does (mu_calls (mu_ins v.2 v2.toInt32) false)).bind fun v3 => (if (m_calls v3) = true then some (v3) else some ((mu_state v3 (vp_updL (m_state v3) 2 ((m_state v3 2) + (4 : Int64)))))))) else F_X12_oneStep_c94 v.2) else some (F_X12_exception (far τ pc) (nI 34) (lN 0) pc) := by
  unfold F_X12_oneStep_c26
  rw [show (2 : Int32).toNatClampNeg = 2 from rfl, show (9 : Int32).toNatClampNeg = 9 from rfl, hpc, show (4 : Int32) = nI (2 ^ 2) from rfl]
  have e : m_state (mu_state τ (vp_updL (m_state τ) 9 pc)) 2 = pc := hpc
  rw [e]
  by_cases h3 : pc &&& 3 = 0
  · rw [if_pos h3, if_pos h3]
    exact mfind_m τ pc (nI (2 ^ 2)) (nI 2) (m_level τ) (fun s => ((F_X12_bytes s (m_place s).toInt32 (nI (2 ^ 2))).bind fun v2 => ((F_X12_does (mu_calls (mu_ins s v2.toInt32) false)).bind fun v3 => (if (m_calls v3) = true then some (v3) else some ((mu_state v3 (vp_updL (m_state v3) 2 ((m_state v3 2) + (4 : Int64))))))))) F_X12_oneStep_c94
  · rw [if_neg h3, if_neg h3]
    rfl
theorem fetched (τ : MS) (o t0 w : Int32) (pc : Int64) (f : Int32) (p : Int64) : xuO (xm (mu_calls (mu_ins τ o) false) pc t0) w = xm (mu_calls (mu_ins (scr τ f p) w) false) pc t0 := rfl
theorem mem_a (τ : MS) (o : Int32) : m_mem (mu_calls (mu_ins τ o) false) = m_mem τ := rfl
theorem mem_s (τ : MS) (f : Int32) (p : Int64) : m_mem (scr τ f p) = m_mem τ := rfl
theorem ok_f {τ : MS} {pc : Int64} (hI : Inv τ) (hpc : m_state τ 2 = pc) (f w : Int32) (p : Int64) : Ok (mu_calls (mu_ins (scr τ f p) w) false) pc := ⟨hI, rfl, hpc⟩
theorem stp_fetch {τ : MS} {pc : Int64} (t0 o : Int32) (hI : Inv τ) (hpc : m_state τ 2 = pc) (hno : F_X8_isInterruptDue (xm (mu_calls (mu_ins τ o) false) pc t0) = false) : StpR t0 (stepX (xm (mu_calls (mu_ins τ o) false) pc t0)) (F_X12_oneStep_c26 τ) := by
  have hIa : Inv (mu_calls (mu_ins τ o) false) := hI
  obtain ⟨b, hbl⟩ := lev_of hI
  have hblt := bN_lt b
  have hlev := xlev (mu_calls (mu_ins τ o) false) pc t0 (show m_level (mu_calls (mu_ins τ o) false) = nI b.toNat from hbl)
  have hpcx : F_X8_pc (xm (mu_calls (mu_ins τ o) false) pc t0) = pc := xP_33 _ _ _
  have hmem := hI.2.2.2.2
  rw [c26_eq hpc]
  unfold stepX F_X6_fetches
  rw [hno, iff_f, hpcx, hlev]
  by_cases h3 : pc &&& 3 = 0
  · rw [if_pos h3, if_pos h3, hbl]
    have ha : lU pc % 2 ^ 2 = 0 := (al_0 pc (z := 2) (by decide)).mp h3
    have hf := find_spec hI pc t0 pc (z := 2) (what := 2) (frm := b.toNat) (by decide) (by decide) hblt ha
    have hfx : F_X10_find (xm (mu_calls (mu_ins τ o) false) pc t0) pc (nI (2 ^ 2)) (nI 2) (nI b.toNat) = F_X10_find (xm τ pc t0) pc (nI (2 ^ 2)) (nI 2) (nI b.toNat) := find_cong _ _ _ _ _ _ _ _ _ _ _ _ _ _
    rw [show (4 : Int32) = nI (2 ^ 2) from rfl, show (2 : Int32) = nI 2 from rfl, hfx]
    rcases hf with ⟨P, h1, h2, ho, hx⟩ | ⟨N, p, hN, ho, hx⟩
    · rw [ho, hx, Option.bind_some, Option.bind_some]
      dsimp only
      have hoff : P % 8 + 2 ^ 2 ≤ 8 := off_of (by decide) h2
      have hr := xread (τ := (mu_calls (mu_ins τ o) false)) hmem pc t0 (p := P) (n := 2 ^ 2) (by decide) (by decide) h1 hoff
      have hp : m_place (scr τ (m_faultWhat τ) (lN P)) = lN P := rfl
      have hmb := mbytes (τ := scr τ (m_faultWhat τ) (lN P)) (p := P) (n := 2 ^ 2) hmem (by decide) (by decide) h1
      rw [mem_a] at hr
      rw [mem_s] at hmb
      rw [iff_t, if_pos (show (0 : Int32) ≤ nI P from nI_le (a := 0) (by omega) (by omega)), nI_toL (by omega), hr, Option.bind_some, Option.bind_some, hp, show (lN P).toInt32 = nI P from by rw [lN_i], hmb, Option.bind_some]
      dsimp only
      rw [iff_t, fetched τ o t0 _ pc (m_faultWhat τ) (lN P)]
      exact stp_does t0 (ok_f hI hpc _ _ _)
    · have hq := negfault N hN
      rw [ho, hx, Option.bind_some, Option.bind_some]
      dsimp only
      rw [iff_f, if_neg hq.1, hq.2.2.2, show (32 : Int32) = nI 32 from rfl, nI_add, raiseAt_eq hIa pc t0 pc (by omega) (by omega), c94_eq hI hpc hbl hN, Option.bind_some]
      dsimp only
      rw [iff_f, far_a]
      exact ⟨_, _, rfl, rfl, RelT_scr.mpr (rel_exc (τ := far τ pc) hI o t0 pc (32 + b.toNat) N pc)⟩
  · rw [if_neg h3, if_neg h3, show (34 : Int32) = nI 34 from rfl, show (0 : Int32) = nI 0 from rfl, raiseAt_eq hIa pc t0 pc (by decide) (by decide), exception_eq (show Inv (far τ pc) from hI), Option.bind_some]
    dsimp only
    rw [iff_f, far_a]
    exact ⟨_, _, rfl, rfl, rel_exc (τ := far τ pc) hI o t0 pc 34 0 pc⟩
theorem one_step {t0 : Int32} {σ : XS} {τ : MS} (h : RelT t0 σ τ) : StpR t0 (stepX (F_X8_begin σ)) (F_X12_oneStep τ) := by
  obtain ⟨hI, n, o, rfl⟩ := h
  generalize hpc : m_state τ 2 = pc
  have hb : F_X8_begin ((cOf (m_mem τ), pOf τ, m_asked τ, n, t0 + m_taken τ, o) : XS) = xm (mu_calls (mu_ins τ o) false) pc t0 := by
    have e1 : vp_updL (pOf τ) 33 pc = pOf τ := upd_self τ hpc
    show (cOf (m_mem τ), pOf τ, m_asked τ, m_state τ 2 + 4, t0 + m_taken τ, o) = (cOf (m_mem τ), vp_updL (pOf τ) 33 pc, m_asked τ, pc + 4, t0 + m_taken τ, o)
    rw [e1, hpc]
  rw [hb]
  have hIa : Inv (mu_calls (mu_ins τ o) false) := hI
  have hdue : F_X8_isInterruptDue (xm (mu_calls (mu_ins τ o) false) pc t0) = if m_asked τ = true then (if m_masked τ = 0 then true else false) else false := by
    unfold F_X8_isInterruptDue
    rw [show (45 : Int32).toNatClampNeg = 45 from rfl, xP_45]
    show (if m_asked τ = true then (if (m_masked τ).toInt64 = 0 then true else false) else false) = _
    by_cases hm : m_masked τ = 0
    · rw [if_pos hm, if_pos ((masked0 hI).mpr hm)]
    · rw [if_neg hm, if_neg (fun q => hm ((masked0 hI).mp q))]
  unfold F_X12_oneStep
  cases h1 : m_asked τ
  · rw [iff_f]
    exact stp_fetch t0 o hI hpc (by rw [hdue, h1, iff_f])
  · rw [iff_t]
    by_cases h2 : m_masked τ = 0
    · rw [if_pos h2]
      unfold stepX F_X6_fetches
      rw [hdue, h1, iff_t, if_pos h2, iff_t, takeInt_eq hIa pc t0, show (2 : Int32).toNatClampNeg = 2 from rfl, hpc, enters_eq hI, Option.bind_some]
      dsimp only
      rw [iff_f]
      exact ⟨_, _, rfl, rfl, rel_ent hI o t0 pc pc true⟩
    · rw [if_neg h2]
      exact stp_fetch t0 o hI hpc (by rw [hdue, h1, iff_t, if_neg h2])
