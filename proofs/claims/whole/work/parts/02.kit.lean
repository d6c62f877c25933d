def zB (b : Bool) : Int32 := if b = true then 1 else 0
theorem zB_t : zB true = 1 := rfl
theorem zB_f : zB false = 0 := rfl
theorem zB_nar (b : Bool) : narrow .boolean (.int (zB b)) = .int (zB b) := by cases b <;> decide +kernel
theorem zB_fit (b : Bool) : fits .boolean (.int (zB b)) = true := by cases b <;> decide +kernel
theorem zB_0 {b : Bool} (h : zB b = 0) : ¬ b = true := by
  cases b
  · decide
  · exact absurd h (by decide)
theorem zB_1 {b : Bool} (h : ¬ zB b = 0) : b = true := by
  cases b
  · exact absurd rfl h
  · rfl
def tbG : List Cond := lw_tbl.filter goodWord
theorem tbG_lw {args : Array Value} {s : State} (h : ∀ w ∈ lw_tbl, w.before args s = true) : ∀ w ∈ tbG, w.before args s = true := fun w hw => h w (List.mem_filter.mp hw).1
theorem tb_good : GoodIn tbG tbG := fun w hw => ⟨hw, good_of_word (List.mem_filter.mp hw).2⟩
abbrev wsC (y : MethodName) (cc : ByteArray) (n : Nat) (ret : Option FieldType) : List Cond := .code y cc n ret :: tbG
theorem tb_goodC {y : MethodName} {cc : ByteArray} {n : Nat} {ret : Option FieldType} (hc : Cond.code y cc n ret ∈ tbG) : GoodIn tbG (wsC y cc n ret) := fun w hw => by
  rcases List.mem_cons.mp hw with h | h
  · rw [h]; exact tb_good _ hc
  · exact tb_good _ h
theorem tb_at {w : Cond} (i : Nat) (h : lw_tbl[i]? = some w) (hg : goodWord w = true) : w ∈ tbG := List.mem_filter.mpr ⟨List.mem_of_getElem? h, hg⟩
theorem tb_p {w : Cond} (i : Nat) (h : (k2_sels lw_privs)[i]? = some w) (hg : goodWord w = true) : w ∈ tbG := List.mem_filter.mpr ⟨List.mem_append_left _ (List.mem_of_getElem? h), hg⟩
theorem tb_1 {w : Cond} (i : Nat) (h : tables_1_1[i]? = some w) (hg : goodWord w = true) : w ∈ tbG := List.mem_filter.mpr ⟨List.mem_append_right _ (List.mem_append_left _ (List.mem_of_getElem? h)), hg⟩
theorem tb_2 {w : Cond} (i : Nat) (h : tables_1_2[i]? = some w) (hg : goodWord w = true) : w ∈ tbG := List.mem_filter.mpr ⟨List.mem_append_right _ (List.mem_append_right _ (List.mem_append_left _ (List.mem_of_getElem? h))), hg⟩
theorem tb_3 {w : Cond} (i : Nat) (h : tables_1_3[i]? = some w) (hg : goodWord w = true) : w ∈ tbG := List.mem_filter.mpr ⟨List.mem_append_right _ (List.mem_append_right _ (List.mem_append_right _ (List.mem_append_left _ (List.mem_of_getElem? h)))), hg⟩
theorem tb_4 {w : Cond} (i : Nat) (h : tables_1_4[i]? = some w) (hg : goodWord w = true) : w ∈ tbG := List.mem_filter.mpr ⟨List.mem_append_right _ (List.mem_append_right _ (List.mem_append_right _ (List.mem_append_right _ (List.mem_append_left _ (List.mem_of_getElem? h))))), hg⟩
theorem tb_5 {w : Cond} (i : Nat) (h : tables_1_5[i]? = some w) (hg : goodWord w = true) : w ∈ tbG := List.mem_filter.mpr ⟨List.mem_append_right _ (List.mem_append_right _ (List.mem_append_right _ (List.mem_append_right _ (List.mem_append_right _ (List.mem_of_getElem? h))))), hg⟩
theorem tb_ws {ws : List Cond} (h : ws.all (fun w => decide (w ∈ lw_tbl) && goodWord w) = true) : ∀ w ∈ ws, w ∈ tbG := fun w hw => by
  have h1 := List.all_eq_true.mp h w hw
  simp only [Bool.and_eq_true, decide_eq_true_eq] at h1
  exact List.mem_filter.mpr ⟨h1.1, h1.2⟩
abbrev Cx : Type := va_G × ClassId × ClassId
abbrev cxT (z : Cx) : List (ClassId × FieldType) := [(z.2.1, FieldType.int), (z.2.2, FieldType.long)]
def gS (ov : Option Value) : Array Value → State → Outcome → State → Prop := fun _ st oc t => oc = .returned ov ∧ t.heap = st.heap
abbrev rPc (z : Cx) (w : va_W) (av : List Value) : Array Value → State → Prop := va_Pc av (fun U => va_P z.1 vwCl w U.heap ∧ va_K z.1 vwCl (cxT z) U)
abbrev mPc (z : Cx) (w : va_W) (sz : Nat) (av : List Value) : Array Value → State → Prop := va_Pc av (fun U => U.heap.size = sz ∧ va_P z.1 vwCl w U.heap ∧ va_K z.1 vwCl (cxT z) U ∧ va_D (fun _ => True) w)
def gM (z : Cx) (A : Nat → Prop) (ov : Option Value) (w : va_W) : Array Value → State → Outcome → State → Prop := fun _ st oc t => (oc = .returned ov ∧ va_P z.1 vwCl w t.heap ∧ va_K z.1 vwCl (cxT z) t ∧ va_D A w) ∧ va_F A st t

section GK
variable {p : Program} {l : Launch} {e : Env} {R : Room} {s : State} {m : MethodId} {args : Array Value} {below : List Frame} {meth : Method} {c : Code} {H : Heap} {locs : List Loc} {Q : State → Prop}
variable {cc : ByteArray} {pc : Nat} {ls : Array Slot} {rest : List Value}
theorem gz_eq (hexec : p.tables.exec = Jvm.exec) (hb : c.code = cc) {b : Bool} {off : Int} {tgt : Nat} (hdg : decode cc pc = .ok (.ifCond .eq off, 3)) (ht : (pc : Int) + off = (tgt : Int)) (kt : ¬ b = true → W p l e R s m args below meth c H locs 0 0 Q (F0 m tgt ls rest)) (kf : b = true → W p l e R s m args below meth c H locs 0 0 Q (F0 m (pc + 3) ls rest)) : W p l e R s m args below meth c H locs 0 0 Q (F0 m pc ls (.int (zB b) :: rest)) :=
  lv_if_eq hexec hb hdg ht (fun h => kt (zB_0 h)) (fun h => kf (zB_1 h))
theorem gz_ne (hexec : p.tables.exec = Jvm.exec) (hb : c.code = cc) {b : Bool} {off : Int} {tgt : Nat} (hdg : decode cc pc = .ok (.ifCond .ne off, 3)) (ht : (pc : Int) + off = (tgt : Int)) (kt : b = true → W p l e R s m args below meth c H locs 0 0 Q (F0 m tgt ls rest)) (kf : ¬ b = true → W p l e R s m args below meth c H locs 0 0 Q (F0 m (pc + 3) ls rest)) : W p l e R s m args below meth c H locs 0 0 Q (F0 m pc ls (.int (zB b) :: rest)) :=
  lv_if_ne hexec hb hdg ht (fun h => kt (zB_1 h)) (fun h => kf (zB_0 h))
theorem zB_inj {a b : Bool} (h : zB a = zB b) : a = b := by
  cases a <;> cases b <;> first | rfl | exact absurd h (by decide)
theorem gz_cne (hexec : p.tables.exec = Jvm.exec) (hb : c.code = cc) {a b : Bool} {off : Int} {tgt : Nat} (hdg : decode cc pc = .ok (.if_icmp .ne off, 3)) (ht : (pc : Int) + off = (tgt : Int)) (kt : ¬ a = b → W p l e R s m args below meth c H locs 0 0 Q (F0 m tgt ls rest)) (kf : a = b → W p l e R s m args below meth c H locs 0 0 Q (F0 m (pc + 3) ls rest)) : W p l e R s m args below meth c H locs 0 0 Q (F0 m pc ls (.int (zB b) :: .int (zB a) :: rest)) :=
  lv_icmp_ne hexec hb hdg ht (fun h => kt (fun q => h (by rw [q]))) (fun h => kf (zB_inj h))
theorem gz_ceq (hexec : p.tables.exec = Jvm.exec) (hb : c.code = cc) {a b : Bool} {off : Int} {tgt : Nat} (hdg : decode cc pc = .ok (.if_icmp .eq off, 3)) (ht : (pc : Int) + off = (tgt : Int)) (kt : a = b → W p l e R s m args below meth c H locs 0 0 Q (F0 m tgt ls rest)) (kf : ¬ a = b → W p l e R s m args below meth c H locs 0 0 Q (F0 m (pc + 3) ls rest)) : W p l e R s m args below meth c H locs 0 0 Q (F0 m pc ls (.int (zB b) :: .int (zB a) :: rest)) :=
  lv_icmp_eq hexec hb hdg ht (fun h => kt (zB_inj h)) (fun h => kf (fun q => h (by rw [q])))
theorem gl_eq (hexec : p.tables.exec = Jvm.exec) (hb : c.code = cc) {x y : Int64} {off : Int} {tgt : Nat} (hd0 : decode cc pc = .ok (.lcmp, 1)) (hdg : decode cc (pc + 1) = .ok (.ifCond .eq off, 3)) (ht : ((pc + 1 : Nat) : Int) + off = (tgt : Int)) (kt : x = y → W p l e R s m args below meth c H locs 0 0 Q (F0 m tgt ls rest)) (kf : ¬ x = y → W p l e R s m args below meth c H locs 0 0 Q (F0 m (pc + 4) ls rest)) : W p l e R s m args below meth c H locs 0 0 Q (F0 m pc ls (.long y :: .long x :: rest)) :=
  W.lcmp hexec hb hd0 (lv_if_eq hexec hb hdg ht (fun h => kt ((lg_cmp_eq x y).mp h)) (fun h => kf (fun q => h ((lg_cmp_eq x y).mpr q))))
theorem gl_ne (hexec : p.tables.exec = Jvm.exec) (hb : c.code = cc) {x y : Int64} {off : Int} {tgt : Nat} (hd0 : decode cc pc = .ok (.lcmp, 1)) (hdg : decode cc (pc + 1) = .ok (.ifCond .ne off, 3)) (ht : ((pc + 1 : Nat) : Int) + off = (tgt : Int)) (kt : ¬ x = y → W p l e R s m args below meth c H locs 0 0 Q (F0 m tgt ls rest)) (kf : x = y → W p l e R s m args below meth c H locs 0 0 Q (F0 m (pc + 4) ls rest)) : W p l e R s m args below meth c H locs 0 0 Q (F0 m pc ls (.long y :: .long x :: rest)) :=
  W.lcmp hexec hb hd0 (lv_if_ne hexec hb hdg ht (fun h => kt (fun q => h ((lg_cmp_eq x y).mpr q))) (fun h => kf ((lg_cmp_eq x y).mp h)))
theorem gl_lt (hexec : p.tables.exec = Jvm.exec) (hb : c.code = cc) {x y : Int64} {off : Int} {tgt : Nat} (hd0 : decode cc pc = .ok (.lcmp, 1)) (hdg : decode cc (pc + 1) = .ok (.ifCond .lt off, 3)) (ht : ((pc + 1 : Nat) : Int) + off = (tgt : Int)) (kt : x < y → W p l e R s m args below meth c H locs 0 0 Q (F0 m tgt ls rest)) (kf : ¬ x < y → W p l e R s m args below meth c H locs 0 0 Q (F0 m (pc + 4) ls rest)) : W p l e R s m args below meth c H locs 0 0 Q (F0 m pc ls (.long y :: .long x :: rest)) :=
  W.lcmp hexec hb hd0 (lv_if_lt hexec hb hdg ht (fun h => kt ((lg_cmp_lt x y).mp h)) (fun h => kf (fun q => h ((lg_cmp_lt x y).mpr q))))
theorem gl_ge (hexec : p.tables.exec = Jvm.exec) (hb : c.code = cc) {x y : Int64} {off : Int} {tgt : Nat} (hd0 : decode cc pc = .ok (.lcmp, 1)) (hdg : decode cc (pc + 1) = .ok (.ifCond .ge off, 3)) (ht : ((pc + 1 : Nat) : Int) + off = (tgt : Int)) (kt : y ≤ x → W p l e R s m args below meth c H locs 0 0 Q (F0 m tgt ls rest)) (kf : ¬ y ≤ x → W p l e R s m args below meth c H locs 0 0 Q (F0 m (pc + 4) ls rest)) : W p l e R s m args below meth c H locs 0 0 Q (F0 m pc ls (.long y :: .long x :: rest)) :=
  W.lcmp hexec hb hd0 (lv_if_ge hexec hb hdg ht (fun h => kt ((lg_cmp_ge x y).mp h)) (fun h => kf (fun q => h ((lg_cmp_ge x y).mpr q))))
theorem gl_gt (hexec : p.tables.exec = Jvm.exec) (hb : c.code = cc) {x y : Int64} {off : Int} {tgt : Nat} (hd0 : decode cc pc = .ok (.lcmp, 1)) (hdg : decode cc (pc + 1) = .ok (.ifCond .gt off, 3)) (ht : ((pc + 1 : Nat) : Int) + off = (tgt : Int)) (kt : y < x → W p l e R s m args below meth c H locs 0 0 Q (F0 m tgt ls rest)) (kf : ¬ y < x → W p l e R s m args below meth c H locs 0 0 Q (F0 m (pc + 4) ls rest)) : W p l e R s m args below meth c H locs 0 0 Q (F0 m pc ls (.long y :: .long x :: rest)) :=
  W.lcmp hexec hb hd0 (lv_if_gt hexec hb hdg ht (fun h => kt ((lg_cmp_gt x y).mp h)) (fun h => kf (fun q => h ((lg_cmp_gt x y).mpr q))))
theorem gl_le (hexec : p.tables.exec = Jvm.exec) (hb : c.code = cc) {x y : Int64} {off : Int} {tgt : Nat} (hd0 : decode cc pc = .ok (.lcmp, 1)) (hdg : decode cc (pc + 1) = .ok (.ifCond .le off, 3)) (ht : ((pc + 1 : Nat) : Int) + off = (tgt : Int)) (kt : x ≤ y → W p l e R s m args below meth c H locs 0 0 Q (F0 m tgt ls rest)) (kf : ¬ x ≤ y → W p l e R s m args below meth c H locs 0 0 Q (F0 m (pc + 4) ls rest)) : W p l e R s m args below meth c H locs 0 0 Q (F0 m pc ls (.long y :: .long x :: rest)) :=
  W.lcmp hexec hb hd0 (lv_if_le hexec hb hdg ht (fun h => kt ((lg_cmp_le x y).mp h)) (fun h => kf (fun q => h ((lg_cmp_le x y).mpr q))))
theorem gt_in (hexec : p.tables.exec = Jvm.exec) (hb : c.code = cc) {dflt lo hi : Int} {offs : Array Int} {len : Nat} {x k : Int32} {off : Int} {tgt : Nat} (hdg : decode cc pc = .ok (.tableswitch dflt lo hi offs, len)) (hx : x = k) (h1 : ¬ k.toInt < lo) (h2 : ¬ hi < k.toInt) (ho : offs[(k.toInt - lo).toNat]? = some off) (ht : (pc : Int) + off = (tgt : Int)) (k : W p l e R s m args below meth c H locs 0 0 Q (F0 m tgt ls rest)) : W p l e R s m args below meth c H locs 0 0 Q (F0 m pc ls (.int x :: rest)) := by
  subst hx
  exact lv_tableIn hexec hb hdg h1 h2 ho ht k
theorem gk_in (hexec : p.tables.exec = Jvm.exec) (hb : c.code = cc) {dflt : Int} {ps : Array (Int × Int)} {len : Nat} {x k : Int32} {off : Int} {tgt : Nat} (hdg : decode cc pc = .ok (.lookupswitch dflt ps, len)) (hx : x = k) (hp : (ps.toList.zip (ps.toList.drop 1)).all (fun (a, next) => a.1 < next.1) = true) (ho : Op.lookupswitch.offset ps.toList dflt k.toInt = off) (ht : (pc : Int) + off = (tgt : Int)) (k : W p l e R s m args below meth c H locs 0 0 Q (F0 m tgt ls rest)) : W p l e R s m args below meth c H locs 0 0 Q (F0 m pc ls (.int x :: rest)) := by
  subst hx
  exact lv_lookup hexec hb hdg hp ho ht k
theorem ks {y : MethodName} {bytes : ByteArray} {maxL nL n index : Nat} {ret : Option FieldType} {rm : Room} {own : String} {As st : List Value} {ov : Option Value} (S : CallFix p m c cc nL s args tbG own) (hM : Met l y (wsC y bytes maxL ret) rm (fun v _ => v = As.toArray) (gS ov) 0 0 (fun _ => False)) (cw : CallB R s args own index y bytes maxL ret (wsC y bytes maxL ret) rm 0 0 n ∧ (Cond.static y).before args s = true) (hn : As.length = n) (hsz : ls.size = nL) (hst : st = As.reverse ++ rest) (hcat : (rest.map fun v => v.category).sum ≤ 8) (hdg : decode cc pc = .ok (.invokestatic index, 3)) (kk : W p l e R s m args below meth c H locs 0 0 Q (F0 m (pc + 3) ls (ov.toList ++ rest))) : W p l e R s m args below meth c H locs 0 0 Q (F0 m pc ls st) := by
  subst hst
  intro T hT X
  obtain ⟨v, st₀, t, T', L, h0, X', hL, e1, ⟨hv, hh⟩, st⟩ := W.runS S hM cw preEq (g := F0 m pc ls (As.reverse ++ rest)) rfl hn hsz rfl (lv_room (ls := ls) (pc := pc) (m := m) (rest := As.reverse ++ rest) hcat) hdg ⟨Nat.zero_le _, Nat.zero_le _⟩ T hT X
  cases hv
  obtain ⟨t2, a1, b1⟩ := kk T' (by rw [e1, hh, h0]) (Stand.forget X' (fun q h => (hL q h).elim))
  exact ⟨t2, st t2 a1, b1⟩
theorem kr {z : Cx} {w : va_W} {y : MethodName} {bytes : ByteArray} {maxL nL n index : Nat} {ret : Option FieldType} {rm : Room} {own C : String} {As st : List Value} {ov : Option Value} {b q0 ci : Nat} {q : vw_C} {fs : List Value} (S : CallFix p m c cc nL s args tbG own) (hK : va_K z.1 vwCl (cxT z) s) (hP : va_P z.1 vwCl w H) (hM : Met l y (wsC y bytes maxL ret) rm (rPc z w (.ref b :: As)) (gS ov) 0 0 (fun _ => False)) (cw : CallW R s args own C index y bytes maxL ret (wsC y bytes maxL ret) rm 0 0 n) (hc : vwCl[ci]? = some q) (hC : q.1 = C) (he : w[q0]? = some (b, .inr (ci, fs))) (hn : As.length = n) (hsz : ls.size = nL) (hst : st = As.reverse ++ .ref b :: rest) (hcat : (rest.map fun v => v.category).sum ≤ 8) (hdg : decode cc pc = .ok (.invokevirtual index, 3)) (kk : W p l e R s m args below meth c H locs 0 0 Q (F0 m (pc + 3) ls (ov.toList ++ rest))) : W p l e R s m args below meth c H locs 0 0 Q (F0 m pc ls st) := by
  subst hst
  subst hC
  intro T hT X
  obtain ⟨v, st₀, t, T', L, h0, X', hL, e1, ⟨hv, hh⟩, st⟩ := W.runV S hM cw ⟨fun a U g mk q => ⟨q.1, q.2.1, va_K.moved (u := U) (U := U.calling g mk a) (Vm.Alike.refl U.vm) q.2.2⟩, va_recv hK hP hc he, fun U hU hW => ⟨rfl, by rw [hU]; exact hP, va_K.moved hW.alike hK⟩⟩ (g := F0 m pc ls (As.reverse ++ .ref b :: rest)) rfl hn hsz rfl (lv_room (ls := ls) (pc := pc) (m := m) (rest := As.reverse ++ .ref b :: rest) hcat) hdg ⟨Nat.zero_le _, Nat.zero_le _⟩ T hT X
  cases hv
  obtain ⟨t2, a1, b1⟩ := kk T' (by rw [e1, hh, h0]) (Stand.forget X' (fun q h => (hL q h).elim))
  exact ⟨t2, st t2 a1, b1⟩
theorem km {z : Cx} {w w' : va_W} {A : Nat → Prop} {y : MethodName} {bytes : ByteArray} {maxL nL n index : Nat} {ret : Option FieldType} {rm : Room} {own C : String} {As st : List Value} {ov : Option Value} {b q0 ci : Nat} {q : vw_C} {fs : List Value} (S : CallFix p m c cc nL s args tbG own) (hK : va_K z.1 vwCl (cxT z) s) (hA : ∀ q, s.heap.size ≤ q → A q) (hP : va_P z.1 vwCl w H) (hD : va_D A w) (hS : va_S A s.heap H locs) (hM : Met l y (wsC y bytes maxL ret) rm (mPc z w H.size (.ref b :: As)) (gM z (va_A w H.size) ov w') 0 0 (va_A w H.size)) (cw : CallW R s args own C index y bytes maxL ret (wsC y bytes maxL ret) rm 0 0 n) (hc : vwCl[ci]? = some q) (hC : q.1 = C) (he : w[q0]? = some (b, .inr (ci, fs))) (hn : As.length = n) (hsz : ls.size = nL) (hst : st = As.reverse ++ .ref b :: rest) (hcat : (rest.map fun v => v.category).sum ≤ 8) (hdg : decode cc pc = .ok (.invokevirtual index, 3)) (kk : ∀ (H : Heap) (locs : List Loc), va_P z.1 vwCl w' H → va_D A w' → va_S A s.heap H locs → W p l e R s m args below meth c H locs 0 0 Q (F0 m (pc + 3) ls (ov.toList ++ rest))) : W p l e R s m args below meth c H locs 0 0 Q (F0 m pc ls st) := by
  subst hst
  subst hC
  have hF : ∀ q, va_A w H.size q → A q := fun q h => by
    rcases h with ⟨k, e, h⟩ | h
    · exact hD.2 k _ h
    · exact hA q (Nat.le_trans hS.1 h)
  intro T hT X
  obtain ⟨v, st₀, t, T', L, h0, X', hL, e1, e2, ⟨⟨hv, hP1, hK1, hD1⟩, hz, hk⟩, st⟩ := va_runV S hM cw ⟨fun a U g mk q => ⟨q.1, q.2.1, q.2.2.1, va_K.moved (u := U) (U := U.calling g mk a) (Vm.Alike.refl U.vm) q.2.2.2.1, q.2.2.2.2⟩, va_recv hK hP hc he, fun U hU hW => ⟨rfl, by rw [hU], by rw [hU]; exact hP, va_K.moved hW.alike hK, hD.weaken (fun _ _ _ _ => trivial)⟩⟩ (g := F0 m pc ls (As.reverse ++ .ref b :: rest)) rfl hn hsz rfl (lv_room (ls := ls) (pc := pc) (m := m) (rest := As.reverse ++ .ref b :: rest) hcat) hdg ⟨Nat.zero_le _, Nat.zero_le _⟩ T hT X
  cases hv
  rw [h0] at hz hk
  obtain ⟨t2, a1, b1⟩ := kk T'.heap (locs ++ L) (by rw [e1]; exact hP1) (hD1.weaken (fun k q _ h => hF q.1 h)) ⟨Nat.le_trans hS.1 (by rw [e1]; exact hz), fun q h1 h2 => by rw [e1, hk q (Nat.lt_of_lt_of_le h1 hS.1) (fun z => h2 (hF q z))]; exact hS.2.1 q h1 h2, fun q hq => by
      rcases List.mem_append.mp hq with h | h
      · exact hS.2.2 q h
      · exact hF _ (hL q h)⟩ T' rfl X'
  exact ⟨t2, st t2 a1, b1⟩
end GK
theorem tb_cB {R : Room} {s : State} {args : Array Value} {own : String} {index maxL : Nat} {y : MethodName} {bytes : ByteArray} {ret : Option FieldType} {rm : Room} (n : Nat) (hts : ∀ w ∈ tbG, w.before args s = true) (hc : Cond.code y bytes maxL ret ∈ tbG) (hi : Cond.initialized y.cls ∈ tbG) (hl : Cond.methodLink own index y ∈ tbG) (hrc : rm.cells = 0) (hrs : rm.slots = 0) (hd : y.cls ≠ "java/lang/invoke/MethodHandle" ∧ y.cls ≠ "java/lang/invoke/VarHandle" ∧ (parseMethodDescriptor y.desc).map (fun d => d.parameters.length) = some n) (hR : rm.frames + 1 ≤ R.frames ∧ 8 + (maxL + 11) + rm.locals ≤ R.locals) : CallB R s args own index y bytes maxL ret (wsC y bytes maxL ret) rm 0 0 n :=
  callB_of n hts (tb_goodC hc) rfl hrc hrs (hts _ hi) (hts _ hl) hd hR
theorem mk_s_i {l : Launch} {y : MethodName} {cc : ByteArray} {maxL : Nat} {rm : Room} {own : String} (hy : plainName y.cls = true) (ho : y.cls = own) (av : List Value) (hlen : (lg_sl av).length ≤ maxL) {res : Int32} (walk : ∀ (p : Program) (e : Env) (s : State) (m : MethodId) (below : List Frame) (meth : Method) (c : Code) (H : Heap) (locs : List Loc) (Q : State → Prop) (ls : Array Slot), CallFix p m c cc maxL s av.toArray tbG own → lv_has ls maxL (lv_args 0 av) → (∀ (v : Int32) (pc : Nat) (ls : Array Slot), v = res → decode cc pc = .ok (.ireturn, 1) → W p l e rm s m av.toArray below meth c H locs 0 0 Q (F0 m pc ls [.int v])) → W p l e rm s m av.toArray below meth c H locs 0 0 Q (F0 m 0 ls [])) : Met l y (wsC y cc maxL (some .int)) rm (fun v _ => v = av.toArray) (gS (some (.int res))) 0 0 (fun _ => False) := by
  refine Met.ofW (cc := cc) (maxL := maxL) (ret := (some .int)) hy rfl ?_
  intro p e s m args below meth c s₁ B hml hv
  subst hv
  have hts := atoms_spec (ws := wsC y cc maxL (some .int)) B.pre
  have hown : s.vm.findClass own = some m.cls := by rw [← ho]; exact findClass_of_methodNamed B.named
  have hl := lv_entry av (n := maxL) hlen
  rw [lg_entry_eq]
  generalize (lg_sl av ++ List.replicate (maxL - (lg_sl av).length) Slot.unset).toArray = ls at hl ⊢
  have hlocks := B.notSynchronized
  refine walk p e s m below meth c s.heap [] _ ls ⟨B.exec, B.bytes, hml, hown, fun w h => hts w (List.mem_cons_of_mem _ h)⟩ hl (fun v pc ls hv hd => ?_)
  subst hv
  exact W.iret B.exec B.bytes B.returns (fun t ht _ => ⟨rfl, ht⟩) (fun q h => by cases h) hd
theorem mk_r_i {l : Launch} {z : Cx} {w : va_W} {y : MethodName} {cc : ByteArray} {maxL : Nat} {rm : Room} {own : String} (hy : plainName y.cls = true) (ho : y.cls = own) (av : List Value) (hlen : (lg_sl av).length ≤ maxL) {res : Int32} (walk : ∀ (p : Program) (e : Env) (s : State) (m : MethodId) (below : List Frame) (meth : Method) (c : Code) (H : Heap) (locs : List Loc) (Q : State → Prop) (ls : Array Slot), CallFix p m c cc maxL s av.toArray tbG own → va_K z.1 vwCl (cxT z) s → va_P z.1 vwCl w H → lv_has ls maxL (lv_args 0 av) → (∀ (v : Int32) (pc : Nat) (ls : Array Slot), v = res → decode cc pc = .ok (.ireturn, 1) → W p l e rm s m av.toArray below meth c H locs 0 0 Q (F0 m pc ls [.int v])) → W p l e rm s m av.toArray below meth c H locs 0 0 Q (F0 m 0 ls [])) : Met l y (wsC y cc maxL (some .int)) rm (rPc z w av) (gS (some (.int res))) 0 0 (fun _ => False) := by
  refine Met.ofW (cc := cc) (maxL := maxL) (ret := (some .int)) hy rfl ?_
  intro p e s m args below meth c s₁ B hml hv
  obtain ⟨hv, hP, hK⟩ := hv
  subst hv
  have hts := atoms_spec (ws := wsC y cc maxL (some .int)) B.pre
  have hown : s.vm.findClass own = some m.cls := by rw [← ho]; exact findClass_of_methodNamed B.named
  have hl := lv_entry av (n := maxL) hlen
  rw [lg_entry_eq]
  generalize (lg_sl av ++ List.replicate (maxL - (lg_sl av).length) Slot.unset).toArray = ls at hl ⊢
  have hlocks := B.notSynchronized
  refine walk p e s m below meth c s.heap [] _ ls ⟨B.exec, B.bytes, hml, hown, fun w h => hts w (List.mem_cons_of_mem _ h)⟩ hK hP hl (fun v pc ls hv hd => ?_)
  subst hv
  exact W.iret B.exec B.bytes B.returns (fun t ht _ => ⟨rfl, ht⟩) (fun q h => by cases h) hd
theorem mk_s_l {l : Launch} {y : MethodName} {cc : ByteArray} {maxL : Nat} {rm : Room} {own : String} (hy : plainName y.cls = true) (ho : y.cls = own) (av : List Value) (hlen : (lg_sl av).length ≤ maxL) {res : Int64} (walk : ∀ (p : Program) (e : Env) (s : State) (m : MethodId) (below : List Frame) (meth : Method) (c : Code) (H : Heap) (locs : List Loc) (Q : State → Prop) (ls : Array Slot), CallFix p m c cc maxL s av.toArray tbG own → lv_has ls maxL (lv_args 0 av) → (∀ (v : Int64) (pc : Nat) (ls : Array Slot), v = res → decode cc pc = .ok (.lreturn, 1) → W p l e rm s m av.toArray below meth c H locs 0 0 Q (F0 m pc ls [.long v])) → W p l e rm s m av.toArray below meth c H locs 0 0 Q (F0 m 0 ls [])) : Met l y (wsC y cc maxL (some .long)) rm (fun v _ => v = av.toArray) (gS (some (.long res))) 0 0 (fun _ => False) := by
  refine Met.ofW (cc := cc) (maxL := maxL) (ret := (some .long)) hy rfl ?_
  intro p e s m args below meth c s₁ B hml hv
  subst hv
  have hts := atoms_spec (ws := wsC y cc maxL (some .long)) B.pre
  have hown : s.vm.findClass own = some m.cls := by rw [← ho]; exact findClass_of_methodNamed B.named
  have hl := lv_entry av (n := maxL) hlen
  rw [lg_entry_eq]
  generalize (lg_sl av ++ List.replicate (maxL - (lg_sl av).length) Slot.unset).toArray = ls at hl ⊢
  have hlocks := B.notSynchronized
  refine walk p e s m below meth c s.heap [] _ ls ⟨B.exec, B.bytes, hml, hown, fun w h => hts w (List.mem_cons_of_mem _ h)⟩ hl (fun v pc ls hv hd => ?_)
  subst hv
  exact W.lret B.exec B.bytes B.returns (fun t ht _ => ⟨rfl, ht⟩) (fun q h => by cases h) hd
theorem mk_r_l {l : Launch} {z : Cx} {w : va_W} {y : MethodName} {cc : ByteArray} {maxL : Nat} {rm : Room} {own : String} (hy : plainName y.cls = true) (ho : y.cls = own) (av : List Value) (hlen : (lg_sl av).length ≤ maxL) {res : Int64} (walk : ∀ (p : Program) (e : Env) (s : State) (m : MethodId) (below : List Frame) (meth : Method) (c : Code) (H : Heap) (locs : List Loc) (Q : State → Prop) (ls : Array Slot), CallFix p m c cc maxL s av.toArray tbG own → va_K z.1 vwCl (cxT z) s → va_P z.1 vwCl w H → lv_has ls maxL (lv_args 0 av) → (∀ (v : Int64) (pc : Nat) (ls : Array Slot), v = res → decode cc pc = .ok (.lreturn, 1) → W p l e rm s m av.toArray below meth c H locs 0 0 Q (F0 m pc ls [.long v])) → W p l e rm s m av.toArray below meth c H locs 0 0 Q (F0 m 0 ls [])) : Met l y (wsC y cc maxL (some .long)) rm (rPc z w av) (gS (some (.long res))) 0 0 (fun _ => False) := by
  refine Met.ofW (cc := cc) (maxL := maxL) (ret := (some .long)) hy rfl ?_
  intro p e s m args below meth c s₁ B hml hv
  obtain ⟨hv, hP, hK⟩ := hv
  subst hv
  have hts := atoms_spec (ws := wsC y cc maxL (some .long)) B.pre
  have hown : s.vm.findClass own = some m.cls := by rw [← ho]; exact findClass_of_methodNamed B.named
  have hl := lv_entry av (n := maxL) hlen
  rw [lg_entry_eq]
  generalize (lg_sl av ++ List.replicate (maxL - (lg_sl av).length) Slot.unset).toArray = ls at hl ⊢
  have hlocks := B.notSynchronized
  refine walk p e s m below meth c s.heap [] _ ls ⟨B.exec, B.bytes, hml, hown, fun w h => hts w (List.mem_cons_of_mem _ h)⟩ hK hP hl (fun v pc ls hv hd => ?_)
  subst hv
  exact W.lret B.exec B.bytes B.returns (fun t ht _ => ⟨rfl, ht⟩) (fun q h => by cases h) hd
theorem mk_s_z {l : Launch} {y : MethodName} {cc : ByteArray} {maxL : Nat} {rm : Room} {own : String} (hy : plainName y.cls = true) (ho : y.cls = own) (av : List Value) (hlen : (lg_sl av).length ≤ maxL) {res : Bool} (walk : ∀ (p : Program) (e : Env) (s : State) (m : MethodId) (below : List Frame) (meth : Method) (c : Code) (H : Heap) (locs : List Loc) (Q : State → Prop) (ls : Array Slot), CallFix p m c cc maxL s av.toArray tbG own → lv_has ls maxL (lv_args 0 av) → (∀ (v : Bool) (pc : Nat) (ls : Array Slot), v = res → decode cc pc = .ok (.ireturn, 1) → W p l e rm s m av.toArray below meth c H locs 0 0 Q (F0 m pc ls [.int (zB v)])) → W p l e rm s m av.toArray below meth c H locs 0 0 Q (F0 m 0 ls [])) : Met l y (wsC y cc maxL (some .boolean)) rm (fun v _ => v = av.toArray) (gS (some (.int (zB res)))) 0 0 (fun _ => False) := by
  refine Met.ofW (cc := cc) (maxL := maxL) (ret := (some .boolean)) hy rfl ?_
  intro p e s m args below meth c s₁ B hml hv
  subst hv
  have hts := atoms_spec (ws := wsC y cc maxL (some .boolean)) B.pre
  have hown : s.vm.findClass own = some m.cls := by rw [← ho]; exact findClass_of_methodNamed B.named
  have hl := lv_entry av (n := maxL) hlen
  rw [lg_entry_eq]
  generalize (lg_sl av ++ List.replicate (maxL - (lg_sl av).length) Slot.unset).toArray = ls at hl ⊢
  have hlocks := B.notSynchronized
  refine walk p e s m below meth c s.heap [] _ ls ⟨B.exec, B.bytes, hml, hown, fun w h => hts w (List.mem_cons_of_mem _ h)⟩ hl (fun v pc ls hv hd => ?_)
  subst hv
  exact W.zret B.exec B.bytes B.returns (zB_nar v) (fun t ht _ => ⟨rfl, ht⟩) (fun q h => by cases h) hd
theorem mk_r_z {l : Launch} {z : Cx} {w : va_W} {y : MethodName} {cc : ByteArray} {maxL : Nat} {rm : Room} {own : String} (hy : plainName y.cls = true) (ho : y.cls = own) (av : List Value) (hlen : (lg_sl av).length ≤ maxL) {res : Bool} (walk : ∀ (p : Program) (e : Env) (s : State) (m : MethodId) (below : List Frame) (meth : Method) (c : Code) (H : Heap) (locs : List Loc) (Q : State → Prop) (ls : Array Slot), CallFix p m c cc maxL s av.toArray tbG own → va_K z.1 vwCl (cxT z) s → va_P z.1 vwCl w H → lv_has ls maxL (lv_args 0 av) → (∀ (v : Bool) (pc : Nat) (ls : Array Slot), v = res → decode cc pc = .ok (.ireturn, 1) → W p l e rm s m av.toArray below meth c H locs 0 0 Q (F0 m pc ls [.int (zB v)])) → W p l e rm s m av.toArray below meth c H locs 0 0 Q (F0 m 0 ls [])) : Met l y (wsC y cc maxL (some .boolean)) rm (rPc z w av) (gS (some (.int (zB res)))) 0 0 (fun _ => False) := by
  refine Met.ofW (cc := cc) (maxL := maxL) (ret := (some .boolean)) hy rfl ?_
  intro p e s m args below meth c s₁ B hml hv
  obtain ⟨hv, hP, hK⟩ := hv
  subst hv
  have hts := atoms_spec (ws := wsC y cc maxL (some .boolean)) B.pre
  have hown : s.vm.findClass own = some m.cls := by rw [← ho]; exact findClass_of_methodNamed B.named
  have hl := lv_entry av (n := maxL) hlen
  rw [lg_entry_eq]
  generalize (lg_sl av ++ List.replicate (maxL - (lg_sl av).length) Slot.unset).toArray = ls at hl ⊢
  have hlocks := B.notSynchronized
  refine walk p e s m below meth c s.heap [] _ ls ⟨B.exec, B.bytes, hml, hown, fun w h => hts w (List.mem_cons_of_mem _ h)⟩ hK hP hl (fun v pc ls hv hd => ?_)
  subst hv
  exact W.zret B.exec B.bytes B.returns (zB_nar v) (fun t ht _ => ⟨rfl, ht⟩) (fun q h => by cases h) hd
theorem mk_m_i {l : Launch} {z : Cx} {S : Type} {wf : S → va_W} {σ : S} {y : MethodName} {cc : ByteArray} {maxL : Nat} {rm : Room} {own : String} (hy : plainName y.cls = true) (ho : y.cls = own) (sz : Nat) (av : List Value) (hlen : (lg_sl av).length ≤ maxL) {res : Int32 × S} (walk : ∀ (p : Program) (e : Env) (s : State) (m : MethodId) (below : List Frame) (meth : Method) (c : Code) (A : Nat → Prop) (H : Heap) (locs : List Loc) (Q : State → Prop) (ls : Array Slot), CallFix p m c cc maxL s av.toArray tbG own → va_K z.1 vwCl (cxT z) s → (∀ q, s.heap.size ≤ q → A q) → va_P z.1 vwCl (wf σ) H → va_D A (wf σ) → va_S A s.heap H locs → lv_has ls maxL (lv_args 0 av) → (∀ (v : Int32) (u : S) (H : Heap) (locs : List Loc) (pc : Nat) (ls : Array Slot), (v, u) = res → va_P z.1 vwCl (wf u) H → va_D A (wf u) → va_S A s.heap H locs → decode cc pc = .ok (.ireturn, 1) → W p l e rm s m av.toArray below meth c H locs 0 0 Q (F0 m pc ls [.int v])) → W p l e rm s m av.toArray below meth c H locs 0 0 Q (F0 m 0 ls [])) : Met l y (wsC y cc maxL (some .int)) rm (mPc z (wf σ) sz av) (gM z (va_A (wf σ) sz) (some (.int res.1)) (wf res.2)) 0 0 (va_A (wf σ) sz) := by
  refine Met.ofW (cc := cc) (maxL := maxL) (ret := (some .int)) hy rfl ?_
  intro p e s m args below meth c s₁ B hml hv
  obtain ⟨hv, hsz, hP, hK, hD0⟩ := hv
  subst hv
  subst hsz
  have hts := atoms_spec (ws := wsC y cc maxL (some .int)) B.pre
  have hown : s.vm.findClass own = some m.cls := by rw [← ho]; exact findClass_of_methodNamed B.named
  have hD := hD0.self (sz := s.heap.size)
  have hl := lv_entry av (n := maxL) hlen
  rw [lg_entry_eq]
  generalize (lg_sl av ++ List.replicate (maxL - (lg_sl av).length) Slot.unset).toArray = ls at hl ⊢
  have hlocks := B.notSynchronized
  refine walk p e s m below meth c (va_A (wf σ) s.heap.size) s.heap [] _ ls ⟨B.exec, B.bytes, hml, hown, fun w h => hts w (List.mem_cons_of_mem _ h)⟩ hK (fun q h => Or.inr h) hP hD va_S.rf hl (fun v u H locs pc ls hv hP hD hS hd => ?_)
  subst hv
  exact W.iret B.exec B.bytes B.returns (fun t ht hW => ⟨⟨rfl, by rw [ht]; exact hP, va_K.moved hW.alike hK, hD⟩, hS.F ht⟩) hS.2.2 hd
theorem mk_m_l {l : Launch} {z : Cx} {S : Type} {wf : S → va_W} {σ : S} {y : MethodName} {cc : ByteArray} {maxL : Nat} {rm : Room} {own : String} (hy : plainName y.cls = true) (ho : y.cls = own) (sz : Nat) (av : List Value) (hlen : (lg_sl av).length ≤ maxL) {res : Int64 × S} (walk : ∀ (p : Program) (e : Env) (s : State) (m : MethodId) (below : List Frame) (meth : Method) (c : Code) (A : Nat → Prop) (H : Heap) (locs : List Loc) (Q : State → Prop) (ls : Array Slot), CallFix p m c cc maxL s av.toArray tbG own → va_K z.1 vwCl (cxT z) s → (∀ q, s.heap.size ≤ q → A q) → va_P z.1 vwCl (wf σ) H → va_D A (wf σ) → va_S A s.heap H locs → lv_has ls maxL (lv_args 0 av) → (∀ (v : Int64) (u : S) (H : Heap) (locs : List Loc) (pc : Nat) (ls : Array Slot), (v, u) = res → va_P z.1 vwCl (wf u) H → va_D A (wf u) → va_S A s.heap H locs → decode cc pc = .ok (.lreturn, 1) → W p l e rm s m av.toArray below meth c H locs 0 0 Q (F0 m pc ls [.long v])) → W p l e rm s m av.toArray below meth c H locs 0 0 Q (F0 m 0 ls [])) : Met l y (wsC y cc maxL (some .long)) rm (mPc z (wf σ) sz av) (gM z (va_A (wf σ) sz) (some (.long res.1)) (wf res.2)) 0 0 (va_A (wf σ) sz) := by
  refine Met.ofW (cc := cc) (maxL := maxL) (ret := (some .long)) hy rfl ?_
  intro p e s m args below meth c s₁ B hml hv
  obtain ⟨hv, hsz, hP, hK, hD0⟩ := hv
  subst hv
  subst hsz
  have hts := atoms_spec (ws := wsC y cc maxL (some .long)) B.pre
  have hown : s.vm.findClass own = some m.cls := by rw [← ho]; exact findClass_of_methodNamed B.named
  have hD := hD0.self (sz := s.heap.size)
  have hl := lv_entry av (n := maxL) hlen
  rw [lg_entry_eq]
  generalize (lg_sl av ++ List.replicate (maxL - (lg_sl av).length) Slot.unset).toArray = ls at hl ⊢
  have hlocks := B.notSynchronized
  refine walk p e s m below meth c (va_A (wf σ) s.heap.size) s.heap [] _ ls ⟨B.exec, B.bytes, hml, hown, fun w h => hts w (List.mem_cons_of_mem _ h)⟩ hK (fun q h => Or.inr h) hP hD va_S.rf hl (fun v u H locs pc ls hv hP hD hS hd => ?_)
  subst hv
  exact W.lret B.exec B.bytes B.returns (fun t ht hW => ⟨⟨rfl, by rw [ht]; exact hP, va_K.moved hW.alike hK, hD⟩, hS.F ht⟩) hS.2.2 hd
theorem mk_m_z {l : Launch} {z : Cx} {S : Type} {wf : S → va_W} {σ : S} {y : MethodName} {cc : ByteArray} {maxL : Nat} {rm : Room} {own : String} (hy : plainName y.cls = true) (ho : y.cls = own) (sz : Nat) (av : List Value) (hlen : (lg_sl av).length ≤ maxL) {res : Bool × S} (walk : ∀ (p : Program) (e : Env) (s : State) (m : MethodId) (below : List Frame) (meth : Method) (c : Code) (A : Nat → Prop) (H : Heap) (locs : List Loc) (Q : State → Prop) (ls : Array Slot), CallFix p m c cc maxL s av.toArray tbG own → va_K z.1 vwCl (cxT z) s → (∀ q, s.heap.size ≤ q → A q) → va_P z.1 vwCl (wf σ) H → va_D A (wf σ) → va_S A s.heap H locs → lv_has ls maxL (lv_args 0 av) → (∀ (v : Bool) (u : S) (H : Heap) (locs : List Loc) (pc : Nat) (ls : Array Slot), (v, u) = res → va_P z.1 vwCl (wf u) H → va_D A (wf u) → va_S A s.heap H locs → decode cc pc = .ok (.ireturn, 1) → W p l e rm s m av.toArray below meth c H locs 0 0 Q (F0 m pc ls [.int (zB v)])) → W p l e rm s m av.toArray below meth c H locs 0 0 Q (F0 m 0 ls [])) : Met l y (wsC y cc maxL (some .boolean)) rm (mPc z (wf σ) sz av) (gM z (va_A (wf σ) sz) (some (.int (zB res.1))) (wf res.2)) 0 0 (va_A (wf σ) sz) := by
  refine Met.ofW (cc := cc) (maxL := maxL) (ret := (some .boolean)) hy rfl ?_
  intro p e s m args below meth c s₁ B hml hv
  obtain ⟨hv, hsz, hP, hK, hD0⟩ := hv
  subst hv
  subst hsz
  have hts := atoms_spec (ws := wsC y cc maxL (some .boolean)) B.pre
  have hown : s.vm.findClass own = some m.cls := by rw [← ho]; exact findClass_of_methodNamed B.named
  have hD := hD0.self (sz := s.heap.size)
  have hl := lv_entry av (n := maxL) hlen
  rw [lg_entry_eq]
  generalize (lg_sl av ++ List.replicate (maxL - (lg_sl av).length) Slot.unset).toArray = ls at hl ⊢
  have hlocks := B.notSynchronized
  refine walk p e s m below meth c (va_A (wf σ) s.heap.size) s.heap [] _ ls ⟨B.exec, B.bytes, hml, hown, fun w h => hts w (List.mem_cons_of_mem _ h)⟩ hK (fun q h => Or.inr h) hP hD va_S.rf hl (fun v u H locs pc ls hv hP hD hS hd => ?_)
  subst hv
  exact W.zret B.exec B.bytes B.returns (zB_nar v) (fun t ht hW => ⟨⟨rfl, by rw [ht]; exact hP, va_K.moved hW.alike hK, hD⟩, hS.F ht⟩) hS.2.2 hd
theorem mk_m_v {l : Launch} {z : Cx} {S : Type} {wf : S → va_W} {σ : S} {y : MethodName} {cc : ByteArray} {maxL : Nat} {rm : Room} {own : String} (hy : plainName y.cls = true) (ho : y.cls = own) (sz : Nat) (av : List Value) (hlen : (lg_sl av).length ≤ maxL) {res : S} (walk : ∀ (p : Program) (e : Env) (s : State) (m : MethodId) (below : List Frame) (meth : Method) (c : Code) (A : Nat → Prop) (H : Heap) (locs : List Loc) (Q : State → Prop) (ls : Array Slot), CallFix p m c cc maxL s av.toArray tbG own → va_K z.1 vwCl (cxT z) s → (∀ q, s.heap.size ≤ q → A q) → va_P z.1 vwCl (wf σ) H → va_D A (wf σ) → va_S A s.heap H locs → lv_has ls maxL (lv_args 0 av) → (∀ (u : S) (H : Heap) (locs : List Loc) (pc : Nat) (ls : Array Slot), u = res → va_P z.1 vwCl (wf u) H → va_D A (wf u) → va_S A s.heap H locs → decode cc pc = .ok (.return_, 1) → W p l e rm s m av.toArray below meth c H locs 0 0 Q (F0 m pc ls [])) → W p l e rm s m av.toArray below meth c H locs 0 0 Q (F0 m 0 ls [])) : Met l y (wsC y cc maxL none) rm (mPc z (wf σ) sz av) (gM z (va_A (wf σ) sz) (none) (wf res)) 0 0 (va_A (wf σ) sz) := by
  refine Met.ofW (cc := cc) (maxL := maxL) (ret := none) hy rfl ?_
  intro p e s m args below meth c s₁ B hml hv
  obtain ⟨hv, hsz, hP, hK, hD0⟩ := hv
  subst hv
  subst hsz
  have hts := atoms_spec (ws := wsC y cc maxL none) B.pre
  have hown : s.vm.findClass own = some m.cls := by rw [← ho]; exact findClass_of_methodNamed B.named
  have hD := hD0.self (sz := s.heap.size)
  have hl := lv_entry av (n := maxL) hlen
  rw [lg_entry_eq]
  generalize (lg_sl av ++ List.replicate (maxL - (lg_sl av).length) Slot.unset).toArray = ls at hl ⊢
  have hlocks := B.notSynchronized
  refine walk p e s m below meth c (va_A (wf σ) s.heap.size) s.heap [] _ ls ⟨B.exec, B.bytes, hml, hown, fun w h => hts w (List.mem_cons_of_mem _ h)⟩ hK (fun q h => Or.inr h) hP hD va_S.rf hl (fun u H locs pc ls hv hP hD hS hd => ?_)
  subst hv
  exact W.vret B.exec B.bytes B.returns (fun t ht hW => ⟨⟨rfl, by rw [ht]; exact hP, va_K.moved hW.alike hK, hD⟩, hS.F ht⟩) hS.2.2 hd
