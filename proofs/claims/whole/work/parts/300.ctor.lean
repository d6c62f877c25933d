theorem tc_objectInit : Cond.code objectInit ⟨#[0xb1]⟩ 1 none ∈ tbG := tb_1 24 rfl rfl
def gC (z : Cx) (A : Nat → Prop) (Good : va_W → Prop) : Array Value → State → Outcome → State → Prop := fun _ st oc t => (∃ w : va_W, Good w ∧ oc = .returned none ∧ va_P z.1 vwCl w t.heap ∧ va_K z.1 vwCl (cxT z) t ∧ va_D A w) ∧ va_F A st t
theorem tb_cBg {R : Room} {s : State} {args : Array Value} {own : String} {index maxL mc ms : Nat} {y : MethodName} {bytes : ByteArray} {ret : Option FieldType} {rm : Room} (n : Nat) (hts : ∀ w ∈ tbG, w.before args s = true) (hc : Cond.code y bytes maxL ret ∈ tbG) (hi : Cond.initialized y.cls ∈ tbG) (hl : Cond.methodLink own index y ∈ tbG) (hrc : rm.cells = mc) (hrs : rm.slots = ms) (hd : y.cls ≠ "java/lang/invoke/MethodHandle" ∧ y.cls ≠ "java/lang/invoke/VarHandle" ∧ (parseMethodDescriptor y.desc).map (fun d => d.parameters.length) = some n) (hR : rm.frames + 1 ≤ R.frames ∧ 8 + (maxL + 11) + rm.locals ≤ R.locals) : CallB R s args own index y bytes maxL ret (wsC y bytes maxL ret) rm mc ms n :=
  callB_of n hts (tb_goodC hc) rfl hrc hrs (hts _ hi) (hts _ hl) hd hR
theorem ki {p : Program} {l : Launch} {e : Env} {R : Room} {s : State} {m : MethodId} {args : Array Value} {below : List Frame} {meth : Method} {c : Code} {H : Heap} {locs : List Loc} {cells slots : Nat} {Q : State → Prop} {cc : ByteArray} {pc : Nat} {ls : Array Slot} {rest : List Value} {z : Cx} {ws wc wr : va_W} {A : Nat → Prop} {Good : va_W → Prop} {y : MethodName} {bytes : ByteArray} {maxL nL n index mc ms : Nat} {rm : Room} {own : String} {As st : List Value} {b : Nat} (S : CallFix p m c cc nL s args tbG own) (hK : va_K z.1 vwCl (cxT z) s) (hA : ∀ q, s.heap.size ≤ q → A q) (hP : va_P z.1 vwCl ws H) (hD : va_D A ws) (hS : va_S A s.heap H locs) (isC isR : List Nat) (hC : isC.map (fun i => ws[i]?) = wc.map some) (hRr : isR.map (fun i => ws[i]?) = wr.map some) (hndC : va_nd isC = true) (hnd : va_nd isR = true) (hdis : ∀ i ∈ isR, i ∉ isC)
    (hM : Met l y (wsC y bytes maxL none) rm (mPc z wc H.size (.ref b :: As)) (gC z (va_A wc H.size) Good) mc ms (va_A wc H.size)) (cw : CallB R s args own index y bytes maxL none (wsC y bytes maxL none) rm mc ms n ∧ y.name = "<init>" ∧ (Cond.instanceMethod y).before args s = true) (hn : As.length = n) (hsz : ls.size = nL) (hst : st = As.reverse ++ .ref b :: rest) (hcat : (rest.map fun v => v.category).sum ≤ 8) (hdg : decode cc pc = .ok (.invokespecial index, 3)) (hf : cells + mc ≤ R.cells ∧ slots + ms ≤ R.slots)
    (kk : ∀ (w' : va_W) (H : Heap) (locs : List Loc), Good w' → va_P z.1 vwCl (wr ++ w') H → va_D A (wr ++ w') → va_S A s.heap H locs → W p l e R s m args below meth c H locs (cells + mc) (slots + ms) Q (F0 m (pc + 3) ls rest)) : W p l e R s m args below meth c H locs cells slots Q (F0 m pc ls st) := by
  subst hst
  have hFc := va_free (wc := wc) hD hS hA isC hC
  have hC' : isC.filterMap (fun i => ws[i]?) = wc := by
    have h := congrArg (List.filterMap id) hC
    simpa [List.filterMap_map, Function.comp_def] using h
  have hPc : va_P z.1 vwCl wc H := hP.sub isC hC'
  have hDc : va_D A wc := hD.sub isC hndC hC
  intro T hT X
  obtain ⟨v, st₀, t, T', L, h0, X', hL, e1, e2, ⟨⟨w', hg, hv, hP1, hK1, hD1⟩, hz, hk⟩, st⟩ := va_runI S hM cw ⟨fun a U g mk q => ⟨q.1, q.2.1, q.2.2.1, va_K.moved (u := U) (U := U.calling g mk a) (Vm.Alike.refl U.vm) q.2.2.2.1, q.2.2.2.2⟩, fun U hU hW => ⟨rfl, by rw [hU], by rw [hU]; exact hPc, va_K.moved hW.alike hK, hDc.weaken (fun _ _ _ _ => trivial)⟩⟩ (g := F0 m pc ls (As.reverse ++ .ref b :: rest)) rfl hn hsz rfl (lv_room (ls := ls) (pc := pc) (m := m) (rest := As.reverse ++ .ref b :: rest) hcat) hdg hf T hT X
  cases hv
  rw [h0] at hz hk
  rw [← e1] at hz hk hP1
  obtain ⟨hP2, hD2⟩ := va_join (wr := wr) (w1 := w') hP hD isC isR hC hRr hnd hdis hk hFc hP1 hD1
  obtain ⟨t2, a1, b1⟩ := kk w' T'.heap (locs ++ L) hg hP2 hD2 ⟨Nat.le_trans hS.1 hz, fun q h1 h2 => by rw [hk q (Nat.lt_of_lt_of_le h1 hS.1) (fun z => h2 (hFc q z))]; exact hS.2.1 q h1 h2, fun q hq => by
      rcases List.mem_append.mp hq with h | h
      · exact hS.2.2 q h
      · exact hFc _ (hL q h)⟩ T' rfl X'
  exact ⟨t2, st t2 a1, b1⟩
theorem ga_newJ {p : Program} {l : Launch} {e : Env} {R : Room} {s : State} {m : MethodId} {args : Array Value} {below : List Frame} {meth : Method} {c : Code} {H : Heap} {locs : List Loc} {cells slots : Nat} {Q : State → Prop} {cc : ByteArray} {pc : Nat} {ls : Array Slot} {rest : List Value} {z : Cx} {ws : va_W} {A : Nat → Prop} {nL : Nat} {own : String} (S : CallFix p m c cc nL s args tbG own) (hK : va_K z.1 vwCl (cxT z) s) (hA : ∀ q, s.heap.size ≤ q → A q) (hP : va_P z.1 vwCl ws H) (hD : va_D A ws) (hS : va_S A s.heap H locs) {n : Int32} {N : Nat} (hn : ¬ n < 0) (hN : n.toNatClampNeg = N) (hbytes : N * componentBytes .long ≤ 536870912) (hcells : cells + 1 ≤ R.cells) (hslots : slots + N ≤ R.slots) (hdg : decode cc pc = .ok (.newarray .long, 2))
    (kk : ∀ (q : Nat) (H : Heap), va_P z.1 vwCl (ws ++ [(q, .inl (z.2.2, N, .inr (.inl fun _ => 0)))]) H → va_D A (ws ++ [(q, .inl (z.2.2, N, .inr (.inl fun _ => 0)))]) → va_S A s.heap H locs → W p l e R s m args below meth c H locs (cells + 1) (slots + N) Q (F0 m (pc + 2) ls (.ref q :: rest))) : W p l e R s m args below meth c H locs cells slots Q (F0 m pc ls (.int n :: rest)) := by
  refine va_newa (atype := .long) (ty := .long) (a0 := (N, .inr (.inl fun _ => 0))) S.1 S.2.1 (S.2.2.2.2 _ ta_long) rfl hK hP hD hS hA (fun cA => rfl) hn hN hbytes hcells hslots hdg (fun q cA H1 hK1 hP1 hD1 hS1 => ?_)
  have h1 : s.vm.findClass ("[" ++ FieldType.long.toString) = some z.2.2 := (hK.2 1 _ rfl).2
  have h2 : s.vm.findClass ("[" ++ FieldType.long.toString) = some cA := (hK1.2 2 _ rfl).2
  have h3 : cA = z.2.2 := Option.some.inj (h2.symm.trans h1)
  subst h3
  exact kk q H1 hP1 hD1 hS1
theorem ga_newI {p : Program} {l : Launch} {e : Env} {R : Room} {s : State} {m : MethodId} {args : Array Value} {below : List Frame} {meth : Method} {c : Code} {H : Heap} {locs : List Loc} {cells slots : Nat} {Q : State → Prop} {cc : ByteArray} {pc : Nat} {ls : Array Slot} {rest : List Value} {z : Cx} {ws : va_W} {A : Nat → Prop} {nL : Nat} {own : String} (S : CallFix p m c cc nL s args tbG own) (hK : va_K z.1 vwCl (cxT z) s) (hA : ∀ q, s.heap.size ≤ q → A q) (hP : va_P z.1 vwCl ws H) (hD : va_D A ws) (hS : va_S A s.heap H locs) {n : Int32} {N : Nat} (hn : ¬ n < 0) (hN : n.toNatClampNeg = N) (hbytes : N * componentBytes .int ≤ 536870912) (hcells : cells + 1 ≤ R.cells) (hslots : slots + N ≤ R.slots) (hdg : decode cc pc = .ok (.newarray .int, 2))
    (kk : ∀ (q : Nat) (H : Heap), va_P z.1 vwCl (ws ++ [(q, .inl (z.2.1, N, .inl fun _ => 0))]) H → va_D A (ws ++ [(q, .inl (z.2.1, N, .inl fun _ => 0))]) → va_S A s.heap H locs → W p l e R s m args below meth c H locs (cells + 1) (slots + N) Q (F0 m (pc + 2) ls (.ref q :: rest))) : W p l e R s m args below meth c H locs cells slots Q (F0 m pc ls (.int n :: rest)) := by
  refine va_newa (atype := .int) (ty := .int) (a0 := (N, .inl fun _ => 0)) S.1 S.2.1 (S.2.2.2.2 _ ta_int) rfl hK hP hD hS hA (fun cA => rfl) hn hN hbytes hcells hslots hdg (fun q cA H1 hK1 hP1 hD1 hS1 => ?_)
  have h1 : s.vm.findClass ("[" ++ FieldType.int.toString) = some z.2.1 := (hK.2 0 _ rfl).2
  have h2 : s.vm.findClass ("[" ++ FieldType.int.toString) = some cA := (hK1.2 2 _ rfl).2
  have h3 : cA = z.2.1 := Option.some.inj (h2.symm.trans h1)
  subst h3
  exact kk q H1 hP1 hD1 hS1
theorem mk_c {l : Launch} {z : Cx} {w0 : va_W} {Good : va_W → Prop} {y : MethodName} {cc : ByteArray} {maxL mc ms : Nat} {rm : Room} {own : String} (hy : plainName y.cls = true) (ho : y.cls = own) (sz : Nat) (av : List Value) (hlen : (lg_sl av).length ≤ maxL) (walk : ∀ (p : Program) (e : Env) (s : State) (m : MethodId) (below : List Frame) (meth : Method) (c : Code) (A : Nat → Prop) (H : Heap) (locs : List Loc) (Q : State → Prop) (ls : Array Slot), CallFix p m c cc maxL s av.toArray tbG own → meth.name = y.name → va_K z.1 vwCl (cxT z) s → (∀ q, s.heap.size ≤ q → A q) → va_P z.1 vwCl w0 H → va_D A w0 → va_S A s.heap H locs → lv_has ls maxL (lv_args 0 av) → (∀ (w : va_W) (H : Heap) (locs : List Loc) (pc : Nat) (ls : Array Slot), Good w → va_P z.1 vwCl w H → va_D A w → va_S A s.heap H locs → decode cc pc = .ok (.return_, 1) → W p l e rm s m av.toArray below meth c H locs mc ms Q (F0 m pc ls [])) → W p l e rm s m av.toArray below meth c H locs 0 0 Q (F0 m 0 ls [])) : Met l y (wsC y cc maxL none) rm (mPc z w0 sz av) (gC z (va_A w0 sz) Good) mc ms (va_A w0 sz) := by
  refine Met.ofW (cc := cc) (maxL := maxL) (ret := none) hy rfl ?_
  intro p e s m args below meth c s₁ B hml hv
  obtain ⟨hv, hsz, hP, hK, hD0⟩ := hv
  subst hv
  subst hsz
  have hts := atoms_spec (ws := wsC y cc maxL none) B.pre
  have hown : s.vm.findClass own = some m.cls := by rw [← ho]; exact findClass_of_methodNamed B.named
  have hin : meth.name = y.name := (name_of_methodNamed B.named B.method).1
  have hD := hD0.self (sz := s.heap.size)
  have hl := lv_entry av (n := maxL) hlen
  rw [lg_entry_eq]
  generalize (lg_sl av ++ List.replicate (maxL - (lg_sl av).length) Slot.unset).toArray = ls at hl ⊢
  have hlocks := B.notSynchronized
  refine walk p e s m below meth c (va_A w0 s.heap.size) s.heap [] _ ls ⟨B.exec, B.bytes, hml, hown, fun w h => hts w (List.mem_cons_of_mem _ h)⟩ hin hK (fun q h => Or.inr h) hP hD va_S.rf hl (fun w H locs pc ls hg hP hD hS hd => ?_)
  exact W.vret B.exec B.bytes B.returns (fun t ht hW => ⟨⟨w, hg, rfl, by rw [ht]; exact hP, va_K.moved hW.alike hK, hD⟩, hS.F ht⟩) hS.2.2 hd
theorem t_ok_X0 (k : Nat) (h : k < 3) : parseFieldDescriptor (TX0 k).2.2.1 = some (tyX0 k) := tyX0_ok k h
theorem t_ok_X2 (k : Nat) (h : k < 1) : parseFieldDescriptor (TX2 k).2.2.1 = some (tyX2 k) := tyX2_ok k h
theorem t_ok_X3 (k : Nat) (h : k < 1) : parseFieldDescriptor (TX3 k).2.2.1 = some (tyX3 k) := tyX3_ok k h
theorem t_ok_X4 (k : Nat) (h : k < 1) : parseFieldDescriptor (TX4 k).2.2.1 = some (tyX4 k) := tyX4_ok k h
theorem t_ok_X5 (k : Nat) (h : k < 2) : parseFieldDescriptor (TX5 k).2.2.1 = some (tyX5 k) := tyX5_ok k h
theorem t_ok_X6 (k : Nat) (h : k < 9) : parseFieldDescriptor (TX6 k).2.2.1 = some (tyX6 k) := tyX6_ok k h
theorem t_ok_X7 (k : Nat) (h : k < 2) : parseFieldDescriptor (TX7 k).2.2.1 = some (tyX7 k) := tyX7_ok k h
theorem t_ok_X8 (k : Nat) (h : k < 4) : parseFieldDescriptor (TX8 k).2.2.1 = some (tyX8 k) := tyX8_ok k h
theorem t_ok_X9 (k : Nat) (h : k < 1) : parseFieldDescriptor (TX9 k).2.2.1 = some (tyX9 k) := tyX9_ok k h
theorem t_ok_X10 (k : Nat) (h : k < 2) : parseFieldDescriptor (TX10 k).2.2.1 = some (tyX10 k) := tyX10_ok k h
theorem t_ok_X11 (k : Nat) (h : k < 4) : parseFieldDescriptor (TX11 k).2.2.1 = some (tyX11 k) := tyX11_ok k h
theorem t_ok_X12 (k : Nat) (h : k < 16) : parseFieldDescriptor (TX12 k).2.2.1 = some (tyX12 k) := tyX12_ok k h
theorem dX9_init_0 : decode cX9_init 0 = .ok (.aload_n 0, 1) := by decide +kernel
theorem dX9_init_1 : decode cX9_init 1 = .ok (.invokespecial 1, 3) := by decide +kernel
theorem dX9_init_4 : decode cX9_init 4 = .ok (.aload_n 0, 1) := by decide +kernel
theorem dX9_init_5 : decode cX9_init 5 = .ok (.aload_n 1, 1) := by decide +kernel
theorem dX9_init_6 : decode cX9_init 6 = .ok (.putfield 7, 3) := by decide +kernel
theorem dX9_init_9 : decode cX9_init 9 = .ok (.return_, 1) := by decide +kernel
set_option maxHeartbeats 4000000 in
set_option maxRecDepth 100000 in
theorem c_X9_init (l : Launch) (z : Cx) (h b0 : Nat) (sz : Nat) : Met l yX9_init (wsC yX9_init cX9_init 2 none) { frames := 1, cells := 0, slots := 0, locals := 20 } (mPc z [(h, .inr (8, [.null]))] sz [.ref h, .ref b0]) (gC z (va_A [(h, .inr (8, [.null]))] sz) (fun w => w = [(h, .inr (8, [.ref b0]))])) 0 0 (va_A [(h, .inr (8, [.null]))] sz) := by
  refine mk_c (own := RX9) (by decide) rfl sz _ (Nat.le_of_ble_eq_true rfl) (fun p e s m below meth c A H locs Q ls S hin hK hA hP hD hS hl hend => ?_)
  have hx := S.1
  have hb := S.2.1
  have hml := S.2.2.1
  have hown := S.2.2.2.1
  have hts := S.2.2.2.2
  have hl : lv_has ls 2 [(0, .ref h), (1, .ref b0)] := hl
  refine lv_aload_n hx hb dX9_init_0 rfl (lv_at hl 0 rfl) ?_
  refine W.objInit hx hb hown (hts _ tl_X9_1) (hts _ tm_objectInit) (hts _ tc_objectInit) rfl (by rw [hml]; exact hl.1) rfl dX9_init_1 (Nat.le_of_ble_eq_true rfl) (Nat.le_of_ble_eq_true rfl) ?_
  refine W.eq (g2 := F0 m 4 ls []) rfl ?_
  refine lv_aload_n hx hb dX9_init_4 rfl (lv_at hl 0 rfl) ?_
  refine lv_aload_n hx hb dX9_init_5 rfl (lv_at hl 1 rfl) ?_
  refine va_putF (ci := 8) (v := .ref b0) (C := RX9) (T := TX9) (N := 1) hx hb hts tw_X9 tyX9 tyX9_ok nmX9 hown hK hP hD hS 0 rfl rfl 0 (by decide) (hts _ tf_X9_7) (fun _ h9 => h9) rfl hin rfl (t_ok_X9 0 (by decide)) rfl rfl (Nat.le_of_ble_eq_true rfl) dX9_init_6 (fun H locs hP hD hS => ?_)
  have hP : va_P z.1 vwCl [(h, .inr (8, [.ref b0]))] H := hP
  have hD : va_D A [(h, .inr (8, [.ref b0]))] := hD
  have hP9 := hP.sub (ws' := [(h, .inr (8, [.ref b0]))]) [0] rfl
  have hD9 := hD.sub (ws' := [(h, .inr (8, [.ref b0]))]) [0] (by decide) rfl
  exact hend _ H locs 9 ls rfl hP9 hD9 hS dX9_init_9
theorem dX2_init_0 : decode cX2_init 0 = .ok (.aload_n 0, 1) := by decide +kernel
theorem dX2_init_1 : decode cX2_init 1 = .ok (.invokespecial 1, 3) := by decide +kernel
theorem dX2_init_4 : decode cX2_init 4 = .ok (.aload_n 0, 1) := by decide +kernel
theorem dX2_init_5 : decode cX2_init 5 = .ok (.aload_n 1, 1) := by decide +kernel
theorem dX2_init_6 : decode cX2_init 6 = .ok (.putfield 7, 3) := by decide +kernel
theorem dX2_init_9 : decode cX2_init 9 = .ok (.return_, 1) := by decide +kernel
set_option maxHeartbeats 4000000 in
set_option maxRecDepth 100000 in
theorem c_X2_init (l : Launch) (z : Cx) (h b0 : Nat) (sz : Nat) : Met l yX2_init (wsC yX2_init cX2_init 2 none) { frames := 1, cells := 0, slots := 0, locals := 20 } (mPc z [(h, .inr (1, [.null]))] sz [.ref h, .ref b0]) (gC z (va_A [(h, .inr (1, [.null]))] sz) (fun w => w = [(h, .inr (1, [.ref b0]))])) 0 0 (va_A [(h, .inr (1, [.null]))] sz) := by
  refine mk_c (own := RX2) (by decide) rfl sz _ (Nat.le_of_ble_eq_true rfl) (fun p e s m below meth c A H locs Q ls S hin hK hA hP hD hS hl hend => ?_)
  have hx := S.1
  have hb := S.2.1
  have hml := S.2.2.1
  have hown := S.2.2.2.1
  have hts := S.2.2.2.2
  have hl : lv_has ls 2 [(0, .ref h), (1, .ref b0)] := hl
  refine lv_aload_n hx hb dX2_init_0 rfl (lv_at hl 0 rfl) ?_
  refine W.objInit hx hb hown (hts _ tl_X2_1) (hts _ tm_objectInit) (hts _ tc_objectInit) rfl (by rw [hml]; exact hl.1) rfl dX2_init_1 (Nat.le_of_ble_eq_true rfl) (Nat.le_of_ble_eq_true rfl) ?_
  refine W.eq (g2 := F0 m 4 ls []) rfl ?_
  refine lv_aload_n hx hb dX2_init_4 rfl (lv_at hl 0 rfl) ?_
  refine lv_aload_n hx hb dX2_init_5 rfl (lv_at hl 1 rfl) ?_
  refine va_putF (ci := 1) (v := .ref b0) (C := RX2) (T := TX2) (N := 1) hx hb hts tw_X2 tyX2 tyX2_ok nmX2 hown hK hP hD hS 0 rfl rfl 0 (by decide) (hts _ tf_X2_7) (fun _ h9 => h9) rfl hin rfl (t_ok_X2 0 (by decide)) rfl rfl (Nat.le_of_ble_eq_true rfl) dX2_init_6 (fun H locs hP hD hS => ?_)
  have hP : va_P z.1 vwCl [(h, .inr (1, [.ref b0]))] H := hP
  have hD : va_D A [(h, .inr (1, [.ref b0]))] := hD
  have hP9 := hP.sub (ws' := [(h, .inr (1, [.ref b0]))]) [0] rfl
  have hD9 := hD.sub (ws' := [(h, .inr (1, [.ref b0]))]) [0] (by decide) rfl
  exact hend _ H locs 9 ls rfl hP9 hD9 hS dX2_init_9
theorem dX3_init_0 : decode cX3_init 0 = .ok (.aload_n 0, 1) := by decide +kernel
theorem dX3_init_1 : decode cX3_init 1 = .ok (.invokespecial 3, 3) := by decide +kernel
theorem dX3_init_4 : decode cX3_init 4 = .ok (.aload_n 0, 1) := by decide +kernel
theorem dX3_init_5 : decode cX3_init 5 = .ok (.aload_n 1, 1) := by decide +kernel
theorem dX3_init_6 : decode cX3_init 6 = .ok (.putfield 9, 3) := by decide +kernel
theorem dX3_init_9 : decode cX3_init 9 = .ok (.return_, 1) := by decide +kernel
set_option maxHeartbeats 4000000 in
set_option maxRecDepth 100000 in
theorem c_X3_init (l : Launch) (z : Cx) (h b0 : Nat) (sz : Nat) : Met l yX3_init (wsC yX3_init cX3_init 2 none) { frames := 1, cells := 0, slots := 0, locals := 20 } (mPc z [(h, .inr (2, [.null]))] sz [.ref h, .ref b0]) (gC z (va_A [(h, .inr (2, [.null]))] sz) (fun w => w = [(h, .inr (2, [.ref b0]))])) 0 0 (va_A [(h, .inr (2, [.null]))] sz) := by
  refine mk_c (own := RX3) (by decide) rfl sz _ (Nat.le_of_ble_eq_true rfl) (fun p e s m below meth c A H locs Q ls S hin hK hA hP hD hS hl hend => ?_)
  have hx := S.1
  have hb := S.2.1
  have hml := S.2.2.1
  have hown := S.2.2.2.1
  have hts := S.2.2.2.2
  have hl : lv_has ls 2 [(0, .ref h), (1, .ref b0)] := hl
  refine lv_aload_n hx hb dX3_init_0 rfl (lv_at hl 0 rfl) ?_
  refine W.objInit hx hb hown (hts _ tl_X3_3) (hts _ tm_objectInit) (hts _ tc_objectInit) rfl (by rw [hml]; exact hl.1) rfl dX3_init_1 (Nat.le_of_ble_eq_true rfl) (Nat.le_of_ble_eq_true rfl) ?_
  refine W.eq (g2 := F0 m 4 ls []) rfl ?_
  refine lv_aload_n hx hb dX3_init_4 rfl (lv_at hl 0 rfl) ?_
  refine lv_aload_n hx hb dX3_init_5 rfl (lv_at hl 1 rfl) ?_
  refine va_putF (ci := 2) (v := .ref b0) (C := RX3) (T := TX3) (N := 1) hx hb hts tw_X3 tyX3 tyX3_ok nmX3 hown hK hP hD hS 0 rfl rfl 0 (by decide) (hts _ tf_X3_9) (fun _ h9 => h9) rfl hin rfl (t_ok_X3 0 (by decide)) rfl rfl (Nat.le_of_ble_eq_true rfl) dX3_init_6 (fun H locs hP hD hS => ?_)
  have hP : va_P z.1 vwCl [(h, .inr (2, [.ref b0]))] H := hP
  have hD : va_D A [(h, .inr (2, [.ref b0]))] := hD
  have hP9 := hP.sub (ws' := [(h, .inr (2, [.ref b0]))]) [0] rfl
  have hD9 := hD.sub (ws' := [(h, .inr (2, [.ref b0]))]) [0] (by decide) rfl
  exact hend _ H locs 9 ls rfl hP9 hD9 hS dX3_init_9
theorem dX5_init_0 : decode cX5_init 0 = .ok (.aload_n 0, 1) := by decide +kernel
theorem dX5_init_1 : decode cX5_init 1 = .ok (.invokespecial 1, 3) := by decide +kernel
theorem dX5_init_4 : decode cX5_init 4 = .ok (.aload_n 0, 1) := by decide +kernel
theorem dX5_init_5 : decode cX5_init 5 = .ok (.aload_n 1, 1) := by decide +kernel
theorem dX5_init_6 : decode cX5_init 6 = .ok (.putfield 7, 3) := by decide +kernel
theorem dX5_init_9 : decode cX5_init 9 = .ok (.aload_n 0, 1) := by decide +kernel
theorem dX5_init_10 : decode cX5_init 10 = .ok (.aload_n 2, 1) := by decide +kernel
theorem dX5_init_11 : decode cX5_init 11 = .ok (.putfield 13, 3) := by decide +kernel
theorem dX5_init_14 : decode cX5_init 14 = .ok (.return_, 1) := by decide +kernel
set_option maxHeartbeats 4000000 in
set_option maxRecDepth 100000 in
theorem c_X5_init (l : Launch) (z : Cx) (h b0 b1 : Nat) (sz : Nat) : Met l yX5_init (wsC yX5_init cX5_init 3 none) { frames := 1, cells := 0, slots := 0, locals := 20 } (mPc z [(h, .inr (4, [.null, .null]))] sz [.ref h, .ref b0, .ref b1]) (gC z (va_A [(h, .inr (4, [.null, .null]))] sz) (fun w => w = [(h, .inr (4, [.ref b0, .ref b1]))])) 0 0 (va_A [(h, .inr (4, [.null, .null]))] sz) := by
  refine mk_c (own := RX5) (by decide) rfl sz _ (Nat.le_of_ble_eq_true rfl) (fun p e s m below meth c A H locs Q ls S hin hK hA hP hD hS hl hend => ?_)
  have hx := S.1
  have hb := S.2.1
  have hml := S.2.2.1
  have hown := S.2.2.2.1
  have hts := S.2.2.2.2
  have hl : lv_has ls 3 [(0, .ref h), (1, .ref b0), (2, .ref b1)] := hl
  refine lv_aload_n hx hb dX5_init_0 rfl (lv_at hl 0 rfl) ?_
  refine W.objInit hx hb hown (hts _ tl_X5_1) (hts _ tm_objectInit) (hts _ tc_objectInit) rfl (by rw [hml]; exact hl.1) rfl dX5_init_1 (Nat.le_of_ble_eq_true rfl) (Nat.le_of_ble_eq_true rfl) ?_
  refine W.eq (g2 := F0 m 4 ls []) rfl ?_
  refine lv_aload_n hx hb dX5_init_4 rfl (lv_at hl 0 rfl) ?_
  refine lv_aload_n hx hb dX5_init_5 rfl (lv_at hl 1 rfl) ?_
  refine va_putF (ci := 4) (v := .ref b0) (C := RX5) (T := TX5) (N := 2) hx hb hts tw_X5 tyX5 tyX5_ok nmX5 hown hK hP hD hS 0 rfl rfl 0 (by decide) (hts _ tf_X5_7) (fun _ h9 => h9) rfl hin rfl (t_ok_X5 0 (by decide)) rfl rfl (Nat.le_of_ble_eq_true rfl) dX5_init_6 (fun H locs hP hD hS => ?_)
  have hP : va_P z.1 vwCl [(h, .inr (4, [.ref b0, .null]))] H := hP
  have hD : va_D A [(h, .inr (4, [.ref b0, .null]))] := hD
  refine lv_aload_n hx hb dX5_init_9 rfl (lv_at hl 0 rfl) ?_
  refine lv_aload_n hx hb dX5_init_10 rfl (lv_at hl 2 rfl) ?_
  refine va_putF (ci := 4) (v := .ref b1) (C := RX5) (T := TX5) (N := 2) hx hb hts tw_X5 tyX5 tyX5_ok nmX5 hown hK hP hD hS 0 rfl rfl 1 (by decide) (hts _ tf_X5_13) (fun _ h9 => h9) rfl hin rfl (t_ok_X5 1 (by decide)) rfl rfl (Nat.le_of_ble_eq_true rfl) dX5_init_11 (fun H locs hP hD hS => ?_)
  have hP : va_P z.1 vwCl [(h, .inr (4, [.ref b0, .ref b1]))] H := hP
  have hD : va_D A [(h, .inr (4, [.ref b0, .ref b1]))] := hD
  have hP9 := hP.sub (ws' := [(h, .inr (4, [.ref b0, .ref b1]))]) [0] rfl
  have hD9 := hD.sub (ws' := [(h, .inr (4, [.ref b0, .ref b1]))]) [0] (by decide) rfl
  exact hend _ H locs 14 ls rfl hP9 hD9 hS dX5_init_14
theorem dX7_init_0 : decode cX7_init 0 = .ok (.aload_n 0, 1) := by decide +kernel
theorem dX7_init_1 : decode cX7_init 1 = .ok (.invokespecial 1, 3) := by decide +kernel
theorem dX7_init_4 : decode cX7_init 4 = .ok (.aload_n 0, 1) := by decide +kernel
theorem dX7_init_5 : decode cX7_init 5 = .ok (.aload_n 1, 1) := by decide +kernel
theorem dX7_init_6 : decode cX7_init 6 = .ok (.putfield 7, 3) := by decide +kernel
theorem dX7_init_9 : decode cX7_init 9 = .ok (.aload_n 0, 1) := by decide +kernel
theorem dX7_init_10 : decode cX7_init 10 = .ok (.aload_n 2, 1) := by decide +kernel
theorem dX7_init_11 : decode cX7_init 11 = .ok (.putfield 13, 3) := by decide +kernel
theorem dX7_init_14 : decode cX7_init 14 = .ok (.return_, 1) := by decide +kernel
set_option maxHeartbeats 4000000 in
set_option maxRecDepth 100000 in
theorem c_X7_init (l : Launch) (z : Cx) (h b0 b1 : Nat) (sz : Nat) : Met l yX7_init (wsC yX7_init cX7_init 3 none) { frames := 1, cells := 0, slots := 0, locals := 20 } (mPc z [(h, .inr (6, [.null, .null]))] sz [.ref h, .ref b0, .ref b1]) (gC z (va_A [(h, .inr (6, [.null, .null]))] sz) (fun w => w = [(h, .inr (6, [.ref b0, .ref b1]))])) 0 0 (va_A [(h, .inr (6, [.null, .null]))] sz) := by
  refine mk_c (own := RX7) (by decide) rfl sz _ (Nat.le_of_ble_eq_true rfl) (fun p e s m below meth c A H locs Q ls S hin hK hA hP hD hS hl hend => ?_)
  have hx := S.1
  have hb := S.2.1
  have hml := S.2.2.1
  have hown := S.2.2.2.1
  have hts := S.2.2.2.2
  have hl : lv_has ls 3 [(0, .ref h), (1, .ref b0), (2, .ref b1)] := hl
  refine lv_aload_n hx hb dX7_init_0 rfl (lv_at hl 0 rfl) ?_
  refine W.objInit hx hb hown (hts _ tl_X7_1) (hts _ tm_objectInit) (hts _ tc_objectInit) rfl (by rw [hml]; exact hl.1) rfl dX7_init_1 (Nat.le_of_ble_eq_true rfl) (Nat.le_of_ble_eq_true rfl) ?_
  refine W.eq (g2 := F0 m 4 ls []) rfl ?_
  refine lv_aload_n hx hb dX7_init_4 rfl (lv_at hl 0 rfl) ?_
  refine lv_aload_n hx hb dX7_init_5 rfl (lv_at hl 1 rfl) ?_
  refine va_putF (ci := 6) (v := .ref b0) (C := RX7) (T := TX7) (N := 2) hx hb hts tw_X7 tyX7 tyX7_ok nmX7 hown hK hP hD hS 0 rfl rfl 0 (by decide) (hts _ tf_X7_7) (fun _ h9 => h9) rfl hin rfl (t_ok_X7 0 (by decide)) rfl rfl (Nat.le_of_ble_eq_true rfl) dX7_init_6 (fun H locs hP hD hS => ?_)
  have hP : va_P z.1 vwCl [(h, .inr (6, [.ref b0, .null]))] H := hP
  have hD : va_D A [(h, .inr (6, [.ref b0, .null]))] := hD
  refine lv_aload_n hx hb dX7_init_9 rfl (lv_at hl 0 rfl) ?_
  refine lv_aload_n hx hb dX7_init_10 rfl (lv_at hl 2 rfl) ?_
  refine va_putF (ci := 6) (v := .ref b1) (C := RX7) (T := TX7) (N := 2) hx hb hts tw_X7 tyX7 tyX7_ok nmX7 hown hK hP hD hS 0 rfl rfl 1 (by decide) (hts _ tf_X7_13) (fun _ h9 => h9) rfl hin rfl (t_ok_X7 1 (by decide)) rfl rfl (Nat.le_of_ble_eq_true rfl) dX7_init_11 (fun H locs hP hD hS => ?_)
  have hP : va_P z.1 vwCl [(h, .inr (6, [.ref b0, .ref b1]))] H := hP
  have hD : va_D A [(h, .inr (6, [.ref b0, .ref b1]))] := hD
  have hP9 := hP.sub (ws' := [(h, .inr (6, [.ref b0, .ref b1]))]) [0] rfl
  have hD9 := hD.sub (ws' := [(h, .inr (6, [.ref b0, .ref b1]))]) [0] (by decide) rfl
  exact hend _ H locs 14 ls rfl hP9 hD9 hS dX7_init_14
theorem dX0_init_0 : decode cX0_init 0 = .ok (.aload_n 0, 1) := by decide +kernel
theorem dX0_init_1 : decode cX0_init 1 = .ok (.invokespecial 1, 3) := by decide +kernel
theorem dX0_init_4 : decode cX0_init 4 = .ok (.aload_n 0, 1) := by decide +kernel
theorem dX0_init_5 : decode cX0_init 5 = .ok (.aload_n 1, 1) := by decide +kernel
theorem dX0_init_6 : decode cX0_init 6 = .ok (.putfield 7, 3) := by decide +kernel
theorem dX0_init_9 : decode cX0_init 9 = .ok (.aload_n 0, 1) := by decide +kernel
theorem dX0_init_10 : decode cX0_init 10 = .ok (.aload_n 2, 1) := by decide +kernel
theorem dX0_init_11 : decode cX0_init 11 = .ok (.putfield 13, 3) := by decide +kernel
theorem dX0_init_14 : decode cX0_init 14 = .ok (.aload_n 0, 1) := by decide +kernel
theorem dX0_init_15 : decode cX0_init 15 = .ok (.aload_n 3, 1) := by decide +kernel
theorem dX0_init_16 : decode cX0_init 16 = .ok (.putfield 17, 3) := by decide +kernel
theorem dX0_init_19 : decode cX0_init 19 = .ok (.return_, 1) := by decide +kernel
set_option maxHeartbeats 4000000 in
set_option maxRecDepth 100000 in
theorem c_X0_init (l : Launch) (z : Cx) (h b0 b1 b2 : Nat) (sz : Nat) : Met l yX0_init (wsC yX0_init cX0_init 4 none) { frames := 1, cells := 0, slots := 0, locals := 20 } (mPc z [(h, .inr (0, [.null, .null, .null]))] sz [.ref h, .ref b0, .ref b1, .ref b2]) (gC z (va_A [(h, .inr (0, [.null, .null, .null]))] sz) (fun w => w = [(h, .inr (0, [.ref b0, .ref b1, .ref b2]))])) 0 0 (va_A [(h, .inr (0, [.null, .null, .null]))] sz) := by
  refine mk_c (own := RX0) (by decide) rfl sz _ (Nat.le_of_ble_eq_true rfl) (fun p e s m below meth c A H locs Q ls S hin hK hA hP hD hS hl hend => ?_)
  have hx := S.1
  have hb := S.2.1
  have hml := S.2.2.1
  have hown := S.2.2.2.1
  have hts := S.2.2.2.2
  have hl : lv_has ls 4 [(0, .ref h), (1, .ref b0), (2, .ref b1), (3, .ref b2)] := hl
  refine lv_aload_n hx hb dX0_init_0 rfl (lv_at hl 0 rfl) ?_
  refine W.objInit hx hb hown (hts _ tl_X0_1) (hts _ tm_objectInit) (hts _ tc_objectInit) rfl (by rw [hml]; exact hl.1) rfl dX0_init_1 (Nat.le_of_ble_eq_true rfl) (Nat.le_of_ble_eq_true rfl) ?_
  refine W.eq (g2 := F0 m 4 ls []) rfl ?_
  refine lv_aload_n hx hb dX0_init_4 rfl (lv_at hl 0 rfl) ?_
  refine lv_aload_n hx hb dX0_init_5 rfl (lv_at hl 1 rfl) ?_
  refine va_putF (ci := 0) (v := .ref b0) (C := RX0) (T := TX0) (N := 3) hx hb hts tw_X0 tyX0 tyX0_ok nmX0 hown hK hP hD hS 0 rfl rfl 0 (by decide) (hts _ tf_X0_7) (fun _ h9 => h9) rfl hin rfl (t_ok_X0 0 (by decide)) rfl rfl (Nat.le_of_ble_eq_true rfl) dX0_init_6 (fun H locs hP hD hS => ?_)
  have hP : va_P z.1 vwCl [(h, .inr (0, [.ref b0, .null, .null]))] H := hP
  have hD : va_D A [(h, .inr (0, [.ref b0, .null, .null]))] := hD
  refine lv_aload_n hx hb dX0_init_9 rfl (lv_at hl 0 rfl) ?_
  refine lv_aload_n hx hb dX0_init_10 rfl (lv_at hl 2 rfl) ?_
  refine va_putF (ci := 0) (v := .ref b1) (C := RX0) (T := TX0) (N := 3) hx hb hts tw_X0 tyX0 tyX0_ok nmX0 hown hK hP hD hS 0 rfl rfl 1 (by decide) (hts _ tf_X0_13) (fun _ h9 => h9) rfl hin rfl (t_ok_X0 1 (by decide)) rfl rfl (Nat.le_of_ble_eq_true rfl) dX0_init_11 (fun H locs hP hD hS => ?_)
  have hP : va_P z.1 vwCl [(h, .inr (0, [.ref b0, .ref b1, .null]))] H := hP
  have hD : va_D A [(h, .inr (0, [.ref b0, .ref b1, .null]))] := hD
  refine lv_aload_n hx hb dX0_init_14 rfl (lv_at hl 0 rfl) ?_
  refine lv_aload_n hx hb dX0_init_15 rfl (lv_at hl 3 rfl) ?_
  refine va_putF (ci := 0) (v := .ref b2) (C := RX0) (T := TX0) (N := 3) hx hb hts tw_X0 tyX0 tyX0_ok nmX0 hown hK hP hD hS 0 rfl rfl 2 (by decide) (hts _ tf_X0_17) (fun _ h9 => h9) rfl hin rfl (t_ok_X0 2 (by decide)) rfl rfl (Nat.le_of_ble_eq_true rfl) dX0_init_16 (fun H locs hP hD hS => ?_)
  have hP : va_P z.1 vwCl [(h, .inr (0, [.ref b0, .ref b1, .ref b2]))] H := hP
  have hD : va_D A [(h, .inr (0, [.ref b0, .ref b1, .ref b2]))] := hD
  have hP9 := hP.sub (ws' := [(h, .inr (0, [.ref b0, .ref b1, .ref b2]))]) [0] rfl
  have hD9 := hD.sub (ws' := [(h, .inr (0, [.ref b0, .ref b1, .ref b2]))]) [0] (by decide) rfl
  exact hend _ H locs 19 ls rfl hP9 hD9 hS dX0_init_19
theorem dX10_init_0 : decode cX10_init 0 = .ok (.aload_n 0, 1) := by decide +kernel
theorem dX10_init_1 : decode cX10_init 1 = .ok (.invokespecial 1, 3) := by decide +kernel
theorem dX10_init_4 : decode cX10_init 4 = .ok (.aload_n 0, 1) := by decide +kernel
theorem dX10_init_5 : decode cX10_init 5 = .ok (.aload_n 1, 1) := by decide +kernel
theorem dX10_init_6 : decode cX10_init 6 = .ok (.putfield 7, 3) := by decide +kernel
theorem dX10_init_9 : decode cX10_init 9 = .ok (.aload_n 0, 1) := by decide +kernel
theorem dX10_init_10 : decode cX10_init 10 = .ok (.aload_n 2, 1) := by decide +kernel
theorem dX10_init_11 : decode cX10_init 11 = .ok (.putfield 13, 3) := by decide +kernel
theorem dX10_init_14 : decode cX10_init 14 = .ok (.return_, 1) := by decide +kernel
set_option maxHeartbeats 4000000 in
set_option maxRecDepth 100000 in
theorem c_X10_init (l : Launch) (z : Cx) (h b0 b1 : Nat) (sz : Nat) : Met l yX10_init (wsC yX10_init cX10_init 3 none) { frames := 1, cells := 0, slots := 0, locals := 20 } (mPc z [(h, .inr (9, [.null, .null]))] sz [.ref h, .ref b0, .ref b1]) (gC z (va_A [(h, .inr (9, [.null, .null]))] sz) (fun w => w = [(h, .inr (9, [.ref b0, .ref b1]))])) 0 0 (va_A [(h, .inr (9, [.null, .null]))] sz) := by
  refine mk_c (own := RX10) (by decide) rfl sz _ (Nat.le_of_ble_eq_true rfl) (fun p e s m below meth c A H locs Q ls S hin hK hA hP hD hS hl hend => ?_)
  have hx := S.1
  have hb := S.2.1
  have hml := S.2.2.1
  have hown := S.2.2.2.1
  have hts := S.2.2.2.2
  have hl : lv_has ls 3 [(0, .ref h), (1, .ref b0), (2, .ref b1)] := hl
  refine lv_aload_n hx hb dX10_init_0 rfl (lv_at hl 0 rfl) ?_
  refine W.objInit hx hb hown (hts _ tl_X10_1) (hts _ tm_objectInit) (hts _ tc_objectInit) rfl (by rw [hml]; exact hl.1) rfl dX10_init_1 (Nat.le_of_ble_eq_true rfl) (Nat.le_of_ble_eq_true rfl) ?_
  refine W.eq (g2 := F0 m 4 ls []) rfl ?_
  refine lv_aload_n hx hb dX10_init_4 rfl (lv_at hl 0 rfl) ?_
  refine lv_aload_n hx hb dX10_init_5 rfl (lv_at hl 1 rfl) ?_
  refine va_putF (ci := 9) (v := .ref b0) (C := RX10) (T := TX10) (N := 2) hx hb hts tw_X10 tyX10 tyX10_ok nmX10 hown hK hP hD hS 0 rfl rfl 0 (by decide) (hts _ tf_X10_7) (fun _ h9 => h9) rfl hin rfl (t_ok_X10 0 (by decide)) rfl rfl (Nat.le_of_ble_eq_true rfl) dX10_init_6 (fun H locs hP hD hS => ?_)
  have hP : va_P z.1 vwCl [(h, .inr (9, [.ref b0, .null]))] H := hP
  have hD : va_D A [(h, .inr (9, [.ref b0, .null]))] := hD
  refine lv_aload_n hx hb dX10_init_9 rfl (lv_at hl 0 rfl) ?_
  refine lv_aload_n hx hb dX10_init_10 rfl (lv_at hl 2 rfl) ?_
  refine va_putF (ci := 9) (v := .ref b1) (C := RX10) (T := TX10) (N := 2) hx hb hts tw_X10 tyX10 tyX10_ok nmX10 hown hK hP hD hS 0 rfl rfl 1 (by decide) (hts _ tf_X10_13) (fun _ h9 => h9) rfl hin rfl (t_ok_X10 1 (by decide)) rfl rfl (Nat.le_of_ble_eq_true rfl) dX10_init_11 (fun H locs hP hD hS => ?_)
  have hP : va_P z.1 vwCl [(h, .inr (9, [.ref b0, .ref b1]))] H := hP
  have hD : va_D A [(h, .inr (9, [.ref b0, .ref b1]))] := hD
  have hP9 := hP.sub (ws' := [(h, .inr (9, [.ref b0, .ref b1]))]) [0] rfl
  have hD9 := hD.sub (ws' := [(h, .inr (9, [.ref b0, .ref b1]))]) [0] (by decide) rfl
  exact hend _ H locs 14 ls rfl hP9 hD9 hS dX10_init_14
theorem dX4_init_0 : decode cX4_init 0 = .ok (.aload_n 0, 1) := by decide +kernel
theorem dX4_init_1 : decode cX4_init 1 = .ok (.invokespecial 1, 3) := by decide +kernel
theorem dX4_init_4 : decode cX4_init 4 = .ok (.aload_n 0, 1) := by decide +kernel
theorem dX4_init_5 : decode cX4_init 5 = .ok (.sipush 8192, 3) := by decide +kernel
theorem dX4_init_8 : decode cX4_init 8 = .ok (.newarray .long, 2) := by decide +kernel
theorem dX4_init_10 : decode cX4_init 10 = .ok (.putfield 9, 3) := by decide +kernel
theorem dX4_init_13 : decode cX4_init 13 = .ok (.return_, 1) := by decide +kernel
set_option maxHeartbeats 4000000 in
set_option maxRecDepth 100000 in
theorem c_X4_init (l : Launch) (z : Cx) (h : Nat) (sz : Nat) : Met l yX4_init (wsC yX4_init cX4_init 1 none) { frames := 1, cells := 1, slots := 8192, locals := 20 } (mPc z [(h, .inr (3, [.null]))] sz [.ref h]) (gC z (va_A [(h, .inr (3, [.null]))] sz) (fun w => ∃ q : Nat, w = [(h, .inr (3, [.ref q])), (q, .inl (z.2.2, 8192, .inr (.inl fun _ => 0)))])) 1 8192 (va_A [(h, .inr (3, [.null]))] sz) := by
  refine mk_c (own := RX4) (by decide) rfl sz _ (Nat.le_of_ble_eq_true rfl) (fun p e s m below meth c A H locs Q ls S hin hK hA hP hD hS hl hend => ?_)
  have hx := S.1
  have hb := S.2.1
  have hml := S.2.2.1
  have hown := S.2.2.2.1
  have hts := S.2.2.2.2
  have hl : lv_has ls 1 [(0, .ref h)] := hl
  refine lv_aload_n hx hb dX4_init_0 rfl (lv_at hl 0 rfl) ?_
  refine W.objInit hx hb hown (hts _ tl_X4_1) (hts _ tm_objectInit) (hts _ tc_objectInit) rfl (by rw [hml]; exact hl.1) rfl dX4_init_1 (Nat.le_of_ble_eq_true rfl) (Nat.le_of_ble_eq_true rfl) ?_
  refine W.eq (g2 := F0 m 4 ls []) rfl ?_
  refine lv_aload_n hx hb dX4_init_4 rfl (lv_at hl 0 rfl) ?_
  refine lv_sipush (v := 8192) hx hb dX4_init_5 (by decide) ?_
  refine ga_newJ (N := 8192) S hK hA hP hD hS (by decide) (by decide) (by decide) (Nat.le_of_ble_eq_true rfl) (Nat.le_of_ble_eq_true rfl) dX4_init_8 (fun q8 H hP hD hS => ?_)
  have hP : va_P z.1 vwCl [(h, .inr (3, [.null])), (q8, .inl (z.2.2, 8192, .inr (.inl fun _ => 0)))] H := hP
  have hD : va_D A [(h, .inr (3, [.null])), (q8, .inl (z.2.2, 8192, .inr (.inl fun _ => 0)))] := hD
  refine W.widen (k := 1) (n := 8192) (Nat.le_of_ble_eq_true rfl) (Nat.le_of_ble_eq_true rfl) ?_
  refine va_putF (ci := 3) (v := .ref q8) (C := RX4) (T := TX4) (N := 1) hx hb hts tw_X4 tyX4 tyX4_ok nmX4 hown hK hP hD hS 0 rfl rfl 0 (by decide) (hts _ tf_X4_9) (fun _ h9 => h9) rfl hin rfl (t_ok_X4 0 (by decide)) rfl rfl (Nat.le_of_ble_eq_true rfl) dX4_init_10 (fun H locs hP hD hS => ?_)
  have hP : va_P z.1 vwCl [(h, .inr (3, [.ref q8])), (q8, .inl (z.2.2, 8192, .inr (.inl fun _ => 0)))] H := hP
  have hD : va_D A [(h, .inr (3, [.ref q8])), (q8, .inl (z.2.2, 8192, .inr (.inl fun _ => 0)))] := hD
  have hP9 := hP.sub (ws' := [(h, .inr (3, [.ref q8])), (q8, .inl (z.2.2, 8192, .inr (.inl fun _ => 0)))]) [0, 1] rfl
  have hD9 := hD.sub (ws' := [(h, .inr (3, [.ref q8])), (q8, .inl (z.2.2, 8192, .inr (.inl fun _ => 0)))]) [0, 1] (by decide) rfl
  exact hend _ H locs 13 ls ⟨q8, rfl⟩ hP9 hD9 hS dX4_init_13
theorem dX8_init_0 : decode cX8_init 0 = .ok (.aload_n 0, 1) := by decide +kernel
theorem dX8_init_1 : decode cX8_init 1 = .ok (.invokespecial 1, 3) := by decide +kernel
theorem dX8_init_4 : decode cX8_init 4 = .ok (.aload_n 0, 1) := by decide +kernel
theorem dX8_init_5 : decode cX8_init 5 = .ok (.bipush 46, 2) := by decide +kernel
theorem dX8_init_7 : decode cX8_init 7 = .ok (.newarray .long, 2) := by decide +kernel
theorem dX8_init_9 : decode cX8_init 9 = .ok (.putfield 9, 3) := by decide +kernel
theorem dX8_init_12 : decode cX8_init 12 = .ok (.aload_n 0, 1) := by decide +kernel
theorem dX8_init_13 : decode cX8_init 13 = .ok (.getfield 9, 3) := by decide +kernel
theorem dX8_init_16 : decode cX8_init 16 = .ok (.bipush 43, 2) := by decide +kernel
theorem dX8_init_18 : decode cX8_init 18 = .ok (.lconst 1, 1) := by decide +kernel
theorem dX8_init_19 : decode cX8_init 19 = .ok (.lastore, 1) := by decide +kernel
theorem dX8_init_20 : decode cX8_init 20 = .ok (.aload_n 0, 1) := by decide +kernel
theorem dX8_init_21 : decode cX8_init 21 = .ok (.getfield 9, 3) := by decide +kernel
theorem dX8_init_24 : decode cX8_init 24 = .ok (.bipush 44, 2) := by decide +kernel
theorem dX8_init_26 : decode cX8_init 26 = .ok (.lconst 1, 1) := by decide +kernel
theorem dX8_init_27 : decode cX8_init 27 = .ok (.lastore, 1) := by decide +kernel
theorem dX8_init_28 : decode cX8_init 28 = .ok (.aload_n 0, 1) := by decide +kernel
theorem dX8_init_29 : decode cX8_init 29 = .ok (.getfield 9, 3) := by decide +kernel
theorem dX8_init_32 : decode cX8_init 32 = .ok (.bipush 45, 2) := by decide +kernel
theorem dX8_init_34 : decode cX8_init 34 = .ok (.lconst 1, 1) := by decide +kernel
theorem dX8_init_35 : decode cX8_init 35 = .ok (.lastore, 1) := by decide +kernel
theorem dX8_init_36 : decode cX8_init 36 = .ok (.return_, 1) := by decide +kernel
set_option maxHeartbeats 4000000 in
set_option maxRecDepth 100000 in
theorem c_X8_init (l : Launch) (z : Cx) (h : Nat) (sz : Nat) : Met l yX8_init (wsC yX8_init cX8_init 1 none) { frames := 1, cells := 1, slots := 46, locals := 20 } (mPc z [(h, .inr (7, [.null, .int 0, .long 0, .int 0]))] sz [.ref h]) (gC z (va_A [(h, .inr (7, [.null, .int 0, .long 0, .int 0]))] sz) (fun w => ∃ q : Nat, w = [(h, .inr (7, [.ref q, .int 0, .long 0, .int 0])), (q, .inl (z.2.2, 46, .inr (.inl (vp_updL (vp_updL (vp_updL (fun _ => 0) 43 1) 44 1) 45 1))))])) 1 46 (va_A [(h, .inr (7, [.null, .int 0, .long 0, .int 0]))] sz) := by
  refine mk_c (own := RX8) (by decide) rfl sz _ (Nat.le_of_ble_eq_true rfl) (fun p e s m below meth c A H locs Q ls S hin hK hA hP hD hS hl hend => ?_)
  have hx := S.1
  have hb := S.2.1
  have hml := S.2.2.1
  have hown := S.2.2.2.1
  have hts := S.2.2.2.2
  have hl : lv_has ls 1 [(0, .ref h)] := hl
  refine lv_aload_n hx hb dX8_init_0 rfl (lv_at hl 0 rfl) ?_
  refine W.objInit hx hb hown (hts _ tl_X8_1) (hts _ tm_objectInit) (hts _ tc_objectInit) rfl (by rw [hml]; exact hl.1) rfl dX8_init_1 (Nat.le_of_ble_eq_true rfl) (Nat.le_of_ble_eq_true rfl) ?_
  refine W.eq (g2 := F0 m 4 ls []) rfl ?_
  refine lv_aload_n hx hb dX8_init_4 rfl (lv_at hl 0 rfl) ?_
  refine lv_bipush (v := 46) hx hb dX8_init_5 (by decide) ?_
  refine ga_newJ (N := 46) S hK hA hP hD hS (by decide) (by decide) (by decide) (Nat.le_of_ble_eq_true rfl) (Nat.le_of_ble_eq_true rfl) dX8_init_7 (fun q7 H hP hD hS => ?_)
  have hP : va_P z.1 vwCl [(h, .inr (7, [.null, .int 0, .long 0, .int 0])), (q7, .inl (z.2.2, 46, .inr (.inl fun _ => 0)))] H := hP
  have hD : va_D A [(h, .inr (7, [.null, .int 0, .long 0, .int 0])), (q7, .inl (z.2.2, 46, .inr (.inl fun _ => 0)))] := hD
  refine W.widen (k := 1) (n := 46) (Nat.le_of_ble_eq_true rfl) (Nat.le_of_ble_eq_true rfl) ?_
  refine va_putF (ci := 7) (v := .ref q7) (C := RX8) (T := TX8) (N := 4) hx hb hts tw_X8 tyX8 tyX8_ok nmX8 hown hK hP hD hS 0 rfl rfl 0 (by decide) (hts _ tf_X8_9) (fun _ h9 => h9) rfl hin rfl (t_ok_X8 0 (by decide)) rfl rfl (Nat.le_of_ble_eq_true rfl) dX8_init_9 (fun H locs hP hD hS => ?_)
  have hP : va_P z.1 vwCl [(h, .inr (7, [.ref q7, .int 0, .long 0, .int 0])), (q7, .inl (z.2.2, 46, .inr (.inl fun _ => 0)))] H := hP
  have hD : va_D A [(h, .inr (7, [.ref q7, .int 0, .long 0, .int 0])), (q7, .inl (z.2.2, 46, .inr (.inl fun _ => 0)))] := hD
  refine lv_aload_n hx hb dX8_init_12 rfl (lv_at hl 0 rfl) ?_
  refine va_get (ci := 7) (v := .ref q7) (C := RX8) (T := TX8) (N := 4) hx hb hts tw_X8 hown hK hP 0 rfl rfl 0 (by decide) (hts _ tf_X8_9) (fun _ h9 => h9) rfl dX8_init_13 ?_
  refine lv_bipush (v := 43) hx hb dX8_init_16 (by decide) ?_
  refine lv_lconst (v := 1) hx hb dX8_init_18 (by decide) ?_
  refine va_last (x := 1) hx hb hK hP hD hS 1 1 rfl rfl (show vp_in (43 : Int32) 46 by unfold vp_in; decide) dX8_init_19 (fun H locs hP hD hS => ?_)
  have hP : va_P z.1 vwCl [(h, .inr (7, [.ref q7, .int 0, .long 0, .int 0])), (q7, .inl (z.2.2, 46, .inr (.inl (vp_updL (fun _ => 0) 43 1))))] H := hP
  have hD : va_D A [(h, .inr (7, [.ref q7, .int 0, .long 0, .int 0])), (q7, .inl (z.2.2, 46, .inr (.inl (vp_updL (fun _ => 0) 43 1))))] := hD
  refine lv_aload_n hx hb dX8_init_20 rfl (lv_at hl 0 rfl) ?_
  refine va_get (ci := 7) (v := .ref q7) (C := RX8) (T := TX8) (N := 4) hx hb hts tw_X8 hown hK hP 0 rfl rfl 0 (by decide) (hts _ tf_X8_9) (fun _ h9 => h9) rfl dX8_init_21 ?_
  refine lv_bipush (v := 44) hx hb dX8_init_24 (by decide) ?_
  refine lv_lconst (v := 1) hx hb dX8_init_26 (by decide) ?_
  refine va_last (x := 1) hx hb hK hP hD hS 1 1 rfl rfl (show vp_in (44 : Int32) 46 by unfold vp_in; decide) dX8_init_27 (fun H locs hP hD hS => ?_)
  have hP : va_P z.1 vwCl [(h, .inr (7, [.ref q7, .int 0, .long 0, .int 0])), (q7, .inl (z.2.2, 46, .inr (.inl (vp_updL ((vp_updL (fun _ => 0) 43 1)) 44 1))))] H := hP
  have hD : va_D A [(h, .inr (7, [.ref q7, .int 0, .long 0, .int 0])), (q7, .inl (z.2.2, 46, .inr (.inl (vp_updL ((vp_updL (fun _ => 0) 43 1)) 44 1))))] := hD
  refine lv_aload_n hx hb dX8_init_28 rfl (lv_at hl 0 rfl) ?_
  refine va_get (ci := 7) (v := .ref q7) (C := RX8) (T := TX8) (N := 4) hx hb hts tw_X8 hown hK hP 0 rfl rfl 0 (by decide) (hts _ tf_X8_9) (fun _ h9 => h9) rfl dX8_init_29 ?_
  refine lv_bipush (v := 45) hx hb dX8_init_32 (by decide) ?_
  refine lv_lconst (v := 1) hx hb dX8_init_34 (by decide) ?_
  refine va_last (x := 1) hx hb hK hP hD hS 1 1 rfl rfl (show vp_in (45 : Int32) 46 by unfold vp_in; decide) dX8_init_35 (fun H locs hP hD hS => ?_)
  have hP : va_P z.1 vwCl [(h, .inr (7, [.ref q7, .int 0, .long 0, .int 0])), (q7, .inl (z.2.2, 46, .inr (.inl (vp_updL ((vp_updL ((vp_updL (fun _ => 0) 43 1)) 44 1)) 45 1))))] H := hP
  have hD : va_D A [(h, .inr (7, [.ref q7, .int 0, .long 0, .int 0])), (q7, .inl (z.2.2, 46, .inr (.inl (vp_updL ((vp_updL ((vp_updL (fun _ => 0) 43 1)) 44 1)) 45 1))))] := hD
  have hP9 := hP.sub (ws' := [(h, .inr (7, [.ref q7, .int 0, .long 0, .int 0])), (q7, .inl (z.2.2, 46, .inr (.inl (vp_updL ((vp_updL ((vp_updL (fun _ => 0) 43 1)) 44 1)) 45 1))))]) [0, 1] rfl
  have hD9 := hD.sub (ws' := [(h, .inr (7, [.ref q7, .int 0, .long 0, .int 0])), (q7, .inl (z.2.2, 46, .inr (.inl (vp_updL ((vp_updL ((vp_updL (fun _ => 0) 43 1)) 44 1)) 45 1))))]) [0, 1] (by decide) rfl
  exact hend _ H locs 36 ls ⟨q7, rfl⟩ hP9 hD9 hS dX8_init_36
theorem dX6_init_0 : decode cX6_init 0 = .ok (.aload_n 0, 1) := by decide +kernel
theorem dX6_init_1 : decode cX6_init 1 = .ok (.invokespecial 1, 3) := by decide +kernel
theorem dX6_init_4 : decode cX6_init 4 = .ok (.aload_n 0, 1) := by decide +kernel
theorem dX6_init_5 : decode cX6_init 5 = .ok (.aload_n 1, 1) := by decide +kernel
theorem dX6_init_6 : decode cX6_init 6 = .ok (.putfield 7, 3) := by decide +kernel
theorem dX6_init_9 : decode cX6_init 9 = .ok (.aload_n 0, 1) := by decide +kernel
theorem dX6_init_10 : decode cX6_init 10 = .ok (.aload_n 2, 1) := by decide +kernel
theorem dX6_init_11 : decode cX6_init 11 = .ok (.putfield 13, 3) := by decide +kernel
theorem dX6_init_14 : decode cX6_init 14 = .ok (.aload_n 0, 1) := by decide +kernel
theorem dX6_init_15 : decode cX6_init 15 = .ok (.aload_n 3, 1) := by decide +kernel
theorem dX6_init_16 : decode cX6_init 16 = .ok (.putfield 17, 3) := by decide +kernel
theorem dX6_init_19 : decode cX6_init 19 = .ok (.new 21, 3) := by decide +kernel
theorem dX6_init_22 : decode cX6_init 22 = .ok (.dup, 1) := by decide +kernel
theorem dX6_init_23 : decode cX6_init 23 = .ok (.aload_n 2, 1) := by decide +kernel
theorem dX6_init_24 : decode cX6_init 24 = .ok (.invokespecial 23, 3) := by decide +kernel
theorem dX6_init_27 : decode cX6_init 27 = .ok (.astore 4, 2) := by decide +kernel
theorem dX6_init_29 : decode cX6_init 29 = .ok (.aload_n 0, 1) := by decide +kernel
theorem dX6_init_30 : decode cX6_init 30 = .ok (.new 26, 3) := by decide +kernel
theorem dX6_init_33 : decode cX6_init 33 = .ok (.dup, 1) := by decide +kernel
theorem dX6_init_34 : decode cX6_init 34 = .ok (.aload_n 2, 1) := by decide +kernel
theorem dX6_init_35 : decode cX6_init 35 = .ok (.aload 4, 2) := by decide +kernel
theorem dX6_init_37 : decode cX6_init 37 = .ok (.invokespecial 28, 3) := by decide +kernel
theorem dX6_init_40 : decode cX6_init 40 = .ok (.putfield 31, 3) := by decide +kernel
theorem dX6_init_43 : decode cX6_init 43 = .ok (.aload_n 0, 1) := by decide +kernel
theorem dX6_init_44 : decode cX6_init 44 = .ok (.new 35, 3) := by decide +kernel
theorem dX6_init_47 : decode cX6_init 47 = .ok (.dup, 1) := by decide +kernel
theorem dX6_init_48 : decode cX6_init 48 = .ok (.aload_n 2, 1) := by decide +kernel
theorem dX6_init_49 : decode cX6_init 49 = .ok (.aload 4, 2) := by decide +kernel
theorem dX6_init_51 : decode cX6_init 51 = .ok (.invokespecial 37, 3) := by decide +kernel
theorem dX6_init_54 : decode cX6_init 54 = .ok (.putfield 38, 3) := by decide +kernel
theorem dX6_init_57 : decode cX6_init 57 = .ok (.aload_n 0, 1) := by decide +kernel
theorem dX6_init_58 : decode cX6_init 58 = .ok (.new 42, 3) := by decide +kernel
theorem dX6_init_61 : decode cX6_init 61 = .ok (.dup, 1) := by decide +kernel
theorem dX6_init_62 : decode cX6_init 62 = .ok (.aload_n 1, 1) := by decide +kernel
theorem dX6_init_63 : decode cX6_init 63 = .ok (.aload_n 2, 1) := by decide +kernel
theorem dX6_init_64 : decode cX6_init 64 = .ok (.aload_n 3, 1) := by decide +kernel
theorem dX6_init_65 : decode cX6_init 65 = .ok (.invokespecial 44, 3) := by decide +kernel
theorem dX6_init_68 : decode cX6_init 68 = .ok (.putfield 47, 3) := by decide +kernel
theorem dX6_init_71 : decode cX6_init 71 = .ok (.aload_n 0, 1) := by decide +kernel
theorem dX6_init_72 : decode cX6_init 72 = .ok (.new 51, 3) := by decide +kernel
theorem dX6_init_75 : decode cX6_init 75 = .ok (.dup, 1) := by decide +kernel
theorem dX6_init_76 : decode cX6_init 76 = .ok (.aload_n 2, 1) := by decide +kernel
theorem dX6_init_77 : decode cX6_init 77 = .ok (.invokespecial 53, 3) := by decide +kernel
theorem dX6_init_80 : decode cX6_init 80 = .ok (.putfield 54, 3) := by decide +kernel
theorem dX6_init_83 : decode cX6_init 83 = .ok (.aload_n 0, 1) := by decide +kernel
theorem dX6_init_84 : decode cX6_init 84 = .ok (.new 58, 3) := by decide +kernel
theorem dX6_init_87 : decode cX6_init 87 = .ok (.dup, 1) := by decide +kernel
theorem dX6_init_88 : decode cX6_init 88 = .ok (.aload_n 2, 1) := by decide +kernel
theorem dX6_init_89 : decode cX6_init 89 = .ok (.invokespecial 60, 3) := by decide +kernel
theorem dX6_init_92 : decode cX6_init 92 = .ok (.putfield 61, 3) := by decide +kernel
theorem dX6_init_95 : decode cX6_init 95 = .ok (.return_, 1) := by decide +kernel
set_option maxHeartbeats 4000000 in
set_option maxRecDepth 100000 in
theorem c_X6_init (l : Launch) (z : Cx) (h b0 b1 b2 : Nat) (sz : Nat) : Met l yX6_init (wsC yX6_init cX6_init 5 none) { frames := 2, cells := 6, slots := 10, locals := 43 } (mPc z [(h, .inr (5, [.null, .null, .null, .null, .null, .null, .null, .null, .int 0]))] sz [.ref h, .ref b0, .ref b1, .ref b2]) (gC z (va_A [(h, .inr (5, [.null, .null, .null, .null, .null, .null, .null, .null, .int 0]))] sz) (fun w => ∃ t0 t1 t2 t3 t4 t5 : Nat, w = [(h, .inr (5, [.ref b0, .ref b1, .ref b2, .ref t1, .ref t2, .ref t3, .ref t4, .ref t5, .int 0])), (t0, .inr (8, [.ref b1])), (t1, .inr (4, [.ref b1, .ref t0])), (t2, .inr (6, [.ref b1, .ref t0])), (t3, .inr (0, [.ref b0, .ref b1, .ref b2])), (t4, .inr (1, [.ref b1])), (t5, .inr (2, [.ref b1]))])) 6 10 (va_A [(h, .inr (5, [.null, .null, .null, .null, .null, .null, .null, .null, .int 0]))] sz) := by
  refine mk_c (own := RX6) (by decide) rfl sz _ (Nat.le_of_ble_eq_true rfl) (fun p e s m below meth c A H locs Q ls S hin hK hA hP hD hS hl hend => ?_)
  have hx := S.1
  have hb := S.2.1
  have hml := S.2.2.1
  have hown := S.2.2.2.1
  have hts := S.2.2.2.2
  have hl : lv_has ls 5 [(0, .ref h), (1, .ref b0), (2, .ref b1), (3, .ref b2)] := hl
  refine lv_aload_n hx hb dX6_init_0 rfl (lv_at hl 0 rfl) ?_
  refine W.objInit hx hb hown (hts _ tl_X6_1) (hts _ tm_objectInit) (hts _ tc_objectInit) rfl (by rw [hml]; exact hl.1) rfl dX6_init_1 (Nat.le_of_ble_eq_true rfl) (Nat.le_of_ble_eq_true rfl) ?_
  refine W.eq (g2 := F0 m 4 ls []) rfl ?_
  refine lv_aload_n hx hb dX6_init_4 rfl (lv_at hl 0 rfl) ?_
  refine lv_aload_n hx hb dX6_init_5 rfl (lv_at hl 1 rfl) ?_
  refine va_putF (ci := 5) (v := .ref b0) (C := RX6) (T := TX6) (N := 9) hx hb hts tw_X6 tyX6 tyX6_ok nmX6 hown hK hP hD hS 0 rfl rfl 0 (by decide) (hts _ tf_X6_7) (fun _ h9 => h9) rfl hin rfl (t_ok_X6 0 (by decide)) rfl rfl (Nat.le_of_ble_eq_true rfl) dX6_init_6 (fun H locs hP hD hS => ?_)
  have hP : va_P z.1 vwCl [(h, .inr (5, [.ref b0, .null, .null, .null, .null, .null, .null, .null, .int 0]))] H := hP
  have hD : va_D A [(h, .inr (5, [.ref b0, .null, .null, .null, .null, .null, .null, .null, .int 0]))] := hD
  refine lv_aload_n hx hb dX6_init_9 rfl (lv_at hl 0 rfl) ?_
  refine lv_aload_n hx hb dX6_init_10 rfl (lv_at hl 2 rfl) ?_
  refine va_putF (ci := 5) (v := .ref b1) (C := RX6) (T := TX6) (N := 9) hx hb hts tw_X6 tyX6 tyX6_ok nmX6 hown hK hP hD hS 0 rfl rfl 1 (by decide) (hts _ tf_X6_13) (fun _ h9 => h9) rfl hin rfl (t_ok_X6 1 (by decide)) rfl rfl (Nat.le_of_ble_eq_true rfl) dX6_init_11 (fun H locs hP hD hS => ?_)
  have hP : va_P z.1 vwCl [(h, .inr (5, [.ref b0, .ref b1, .null, .null, .null, .null, .null, .null, .int 0]))] H := hP
  have hD : va_D A [(h, .inr (5, [.ref b0, .ref b1, .null, .null, .null, .null, .null, .null, .int 0]))] := hD
  refine lv_aload_n hx hb dX6_init_14 rfl (lv_at hl 0 rfl) ?_
  refine lv_aload_n hx hb dX6_init_15 rfl (lv_at hl 3 rfl) ?_
  refine va_putF (ci := 5) (v := .ref b2) (C := RX6) (T := TX6) (N := 9) hx hb hts tw_X6 tyX6 tyX6_ok nmX6 hown hK hP hD hS 0 rfl rfl 2 (by decide) (hts _ tf_X6_17) (fun _ h9 => h9) rfl hin rfl (t_ok_X6 2 (by decide)) rfl rfl (Nat.le_of_ble_eq_true rfl) dX6_init_16 (fun H locs hP hD hS => ?_)
  have hP : va_P z.1 vwCl [(h, .inr (5, [.ref b0, .ref b1, .ref b2, .null, .null, .null, .null, .null, .int 0]))] H := hP
  have hD : va_D A [(h, .inr (5, [.ref b0, .ref b1, .ref b2, .null, .null, .null, .null, .null, .int 0]))] := hD
  refine va_new (ci := 8) (fs := [.null]) (C := RX9) (T := TX9) (N := 1) hx hb hts tw_X9 tyX9 tyX9_ok hown (hts _ tq_X6_21) (hts _ tn_X9) (hts _ ti_X9) hK hP hD hS hA rfl (fun j hj => by rcases (show j = 0 by omega) with rfl <;> rfl) (Nat.le_of_ble_eq_true rfl) (Nat.le_of_ble_eq_true rfl) dX6_init_19 (fun q19 H hP hD hS => ?_)
  have hP : va_P z.1 vwCl [(h, .inr (5, [.ref b0, .ref b1, .ref b2, .null, .null, .null, .null, .null, .int 0])), (q19, .inr (8, [.null]))] H := hP
  have hD : va_D A [(h, .inr (5, [.ref b0, .ref b1, .ref b2, .null, .null, .null, .null, .null, .int 0])), (q19, .inr (8, [.null]))] := hD
  refine W.widen (k := 1) (n := 1) (Nat.le_of_ble_eq_true rfl) (Nat.le_of_ble_eq_true rfl) ?_
  refine lv_dup hx hb dX6_init_22 rfl ?_
  refine lv_aload_n hx hb dX6_init_23 rfl (lv_at hl 2 rfl) ?_
  refine ki (As := [.ref b1]) (rest := [.ref q19]) (wr := [(h, .inr (5, [.ref b0, .ref b1, .ref b2, .null, .null, .null, .null, .null, .int 0]))]) S hK hA hP hD hS [1] [0] rfl rfl (by decide) (by decide) (by decide) (c_X9_init l z q19 b1 H.size) ⟨tb_cBg 1 hts tc_X9_init ti_X9 tl_X6_23 rfl rfl (by decide +kernel) ⟨Nat.le_of_ble_eq_true rfl, Nat.le_of_ble_eq_true rfl⟩, rfl, hts _ tm_X9_init⟩ rfl hl.1 rfl (Nat.le_of_ble_eq_true rfl) dX6_init_24 ⟨Nat.le_of_ble_eq_true rfl, Nat.le_of_ble_eq_true rfl⟩ (fun w1 H locs hg hP hD hS => ?_)
  obtain rfl := hg
  have hP : va_P z.1 vwCl [(h, .inr (5, [.ref b0, .ref b1, .ref b2, .null, .null, .null, .null, .null, .int 0])), (q19, .inr (8, [.ref b1]))] H := hP
  have hD : va_D A [(h, .inr (5, [.ref b0, .ref b1, .ref b2, .null, .null, .null, .null, .null, .int 0])), (q19, .inr (8, [.ref b1]))] := hD
  refine W.widen (k := 1) (n := 1) (Nat.le_of_ble_eq_true rfl) (Nat.le_of_ble_eq_true rfl) ?_
  refine lv_astore (lv' := [(4, .ref q19), (0, .ref h), (1, .ref b0), (2, .ref b1), (3, .ref b2)]) hx hb dX6_init_27 hl (by decide) rfl (fun ls hl => ?_)
  refine lv_aload_n hx hb dX6_init_29 rfl (lv_at hl 1 rfl) ?_
  refine va_new (ci := 4) (fs := [.null, .null]) (C := RX5) (T := TX5) (N := 2) hx hb hts tw_X5 tyX5 tyX5_ok hown (hts _ tq_X6_26) (hts _ tn_X5) (hts _ ti_X5) hK hP hD hS hA rfl (fun j hj => by rcases (show j = 0 ∨ j = 1 by omega) with rfl | rfl <;> rfl) (Nat.le_of_ble_eq_true rfl) (Nat.le_of_ble_eq_true rfl) dX6_init_30 (fun q30 H hP hD hS => ?_)
  have hP : va_P z.1 vwCl [(h, .inr (5, [.ref b0, .ref b1, .ref b2, .null, .null, .null, .null, .null, .int 0])), (q19, .inr (8, [.ref b1])), (q30, .inr (4, [.null, .null]))] H := hP
  have hD : va_D A [(h, .inr (5, [.ref b0, .ref b1, .ref b2, .null, .null, .null, .null, .null, .int 0])), (q19, .inr (8, [.ref b1])), (q30, .inr (4, [.null, .null]))] := hD
  refine W.widen (k := 2) (n := 3) (Nat.le_of_ble_eq_true rfl) (Nat.le_of_ble_eq_true rfl) ?_
  refine lv_dup hx hb dX6_init_33 rfl ?_
  refine lv_aload_n hx hb dX6_init_34 rfl (lv_at hl 3 rfl) ?_
  refine lv_aload hx hb dX6_init_35 (lv_at hl 0 rfl) ?_
  refine ki (As := [.ref b1, .ref q19]) (rest := [.ref q30, .ref h]) (wr := [(h, .inr (5, [.ref b0, .ref b1, .ref b2, .null, .null, .null, .null, .null, .int 0])), (q19, .inr (8, [.ref b1]))]) S hK hA hP hD hS [2] [0, 1] rfl rfl (by decide) (by decide) (by decide) (c_X5_init l z q30 b1 q19 H.size) ⟨tb_cBg 2 hts tc_X5_init ti_X5 tl_X6_28 rfl rfl (by decide +kernel) ⟨Nat.le_of_ble_eq_true rfl, Nat.le_of_ble_eq_true rfl⟩, rfl, hts _ tm_X5_init⟩ rfl hl.1 rfl (Nat.le_of_ble_eq_true rfl) dX6_init_37 ⟨Nat.le_of_ble_eq_true rfl, Nat.le_of_ble_eq_true rfl⟩ (fun w1 H locs hg hP hD hS => ?_)
  obtain rfl := hg
  have hP : va_P z.1 vwCl [(h, .inr (5, [.ref b0, .ref b1, .ref b2, .null, .null, .null, .null, .null, .int 0])), (q19, .inr (8, [.ref b1])), (q30, .inr (4, [.ref b1, .ref q19]))] H := hP
  have hD : va_D A [(h, .inr (5, [.ref b0, .ref b1, .ref b2, .null, .null, .null, .null, .null, .int 0])), (q19, .inr (8, [.ref b1])), (q30, .inr (4, [.ref b1, .ref q19]))] := hD
  refine W.widen (k := 2) (n := 3) (Nat.le_of_ble_eq_true rfl) (Nat.le_of_ble_eq_true rfl) ?_
  refine va_putF (ci := 5) (v := .ref q30) (C := RX6) (T := TX6) (N := 9) hx hb hts tw_X6 tyX6 tyX6_ok nmX6 hown hK hP hD hS 0 rfl rfl 3 (by decide) (hts _ tf_X6_31) (fun _ h9 => h9) rfl hin rfl (t_ok_X6 3 (by decide)) rfl rfl (Nat.le_of_ble_eq_true rfl) dX6_init_40 (fun H locs hP hD hS => ?_)
  have hP : va_P z.1 vwCl [(h, .inr (5, [.ref b0, .ref b1, .ref b2, .ref q30, .null, .null, .null, .null, .int 0])), (q19, .inr (8, [.ref b1])), (q30, .inr (4, [.ref b1, .ref q19]))] H := hP
  have hD : va_D A [(h, .inr (5, [.ref b0, .ref b1, .ref b2, .ref q30, .null, .null, .null, .null, .int 0])), (q19, .inr (8, [.ref b1])), (q30, .inr (4, [.ref b1, .ref q19]))] := hD
  refine lv_aload_n hx hb dX6_init_43 rfl (lv_at hl 1 rfl) ?_
  refine va_new (ci := 6) (fs := [.null, .null]) (C := RX7) (T := TX7) (N := 2) hx hb hts tw_X7 tyX7 tyX7_ok hown (hts _ tq_X6_35) (hts _ tn_X7) (hts _ ti_X7) hK hP hD hS hA rfl (fun j hj => by rcases (show j = 0 ∨ j = 1 by omega) with rfl | rfl <;> rfl) (Nat.le_of_ble_eq_true rfl) (Nat.le_of_ble_eq_true rfl) dX6_init_44 (fun q44 H hP hD hS => ?_)
  have hP : va_P z.1 vwCl [(h, .inr (5, [.ref b0, .ref b1, .ref b2, .ref q30, .null, .null, .null, .null, .int 0])), (q19, .inr (8, [.ref b1])), (q30, .inr (4, [.ref b1, .ref q19])), (q44, .inr (6, [.null, .null]))] H := hP
  have hD : va_D A [(h, .inr (5, [.ref b0, .ref b1, .ref b2, .ref q30, .null, .null, .null, .null, .int 0])), (q19, .inr (8, [.ref b1])), (q30, .inr (4, [.ref b1, .ref q19])), (q44, .inr (6, [.null, .null]))] := hD
  refine W.widen (k := 3) (n := 5) (Nat.le_of_ble_eq_true rfl) (Nat.le_of_ble_eq_true rfl) ?_
  refine lv_dup hx hb dX6_init_47 rfl ?_
  refine lv_aload_n hx hb dX6_init_48 rfl (lv_at hl 3 rfl) ?_
  refine lv_aload hx hb dX6_init_49 (lv_at hl 0 rfl) ?_
  refine ki (As := [.ref b1, .ref q19]) (rest := [.ref q44, .ref h]) (wr := [(h, .inr (5, [.ref b0, .ref b1, .ref b2, .ref q30, .null, .null, .null, .null, .int 0])), (q19, .inr (8, [.ref b1])), (q30, .inr (4, [.ref b1, .ref q19]))]) S hK hA hP hD hS [3] [0, 1, 2] rfl rfl (by decide) (by decide) (by decide) (c_X7_init l z q44 b1 q19 H.size) ⟨tb_cBg 2 hts tc_X7_init ti_X7 tl_X6_37 rfl rfl (by decide +kernel) ⟨Nat.le_of_ble_eq_true rfl, Nat.le_of_ble_eq_true rfl⟩, rfl, hts _ tm_X7_init⟩ rfl hl.1 rfl (Nat.le_of_ble_eq_true rfl) dX6_init_51 ⟨Nat.le_of_ble_eq_true rfl, Nat.le_of_ble_eq_true rfl⟩ (fun w1 H locs hg hP hD hS => ?_)
  obtain rfl := hg
  have hP : va_P z.1 vwCl [(h, .inr (5, [.ref b0, .ref b1, .ref b2, .ref q30, .null, .null, .null, .null, .int 0])), (q19, .inr (8, [.ref b1])), (q30, .inr (4, [.ref b1, .ref q19])), (q44, .inr (6, [.ref b1, .ref q19]))] H := hP
  have hD : va_D A [(h, .inr (5, [.ref b0, .ref b1, .ref b2, .ref q30, .null, .null, .null, .null, .int 0])), (q19, .inr (8, [.ref b1])), (q30, .inr (4, [.ref b1, .ref q19])), (q44, .inr (6, [.ref b1, .ref q19]))] := hD
  refine W.widen (k := 3) (n := 5) (Nat.le_of_ble_eq_true rfl) (Nat.le_of_ble_eq_true rfl) ?_
  refine va_putF (ci := 5) (v := .ref q44) (C := RX6) (T := TX6) (N := 9) hx hb hts tw_X6 tyX6 tyX6_ok nmX6 hown hK hP hD hS 0 rfl rfl 4 (by decide) (hts _ tf_X6_38) (fun _ h9 => h9) rfl hin rfl (t_ok_X6 4 (by decide)) rfl rfl (Nat.le_of_ble_eq_true rfl) dX6_init_54 (fun H locs hP hD hS => ?_)
  have hP : va_P z.1 vwCl [(h, .inr (5, [.ref b0, .ref b1, .ref b2, .ref q30, .ref q44, .null, .null, .null, .int 0])), (q19, .inr (8, [.ref b1])), (q30, .inr (4, [.ref b1, .ref q19])), (q44, .inr (6, [.ref b1, .ref q19]))] H := hP
  have hD : va_D A [(h, .inr (5, [.ref b0, .ref b1, .ref b2, .ref q30, .ref q44, .null, .null, .null, .int 0])), (q19, .inr (8, [.ref b1])), (q30, .inr (4, [.ref b1, .ref q19])), (q44, .inr (6, [.ref b1, .ref q19]))] := hD
  refine lv_aload_n hx hb dX6_init_57 rfl (lv_at hl 1 rfl) ?_
  refine va_new (ci := 0) (fs := [.null, .null, .null]) (C := RX0) (T := TX0) (N := 3) hx hb hts tw_X0 tyX0 tyX0_ok hown (hts _ tq_X6_42) (hts _ tn_X0) (hts _ ti_X0) hK hP hD hS hA rfl (fun j hj => by rcases (show j = 0 ∨ j = 1 ∨ j = 2 by omega) with rfl | rfl | rfl <;> rfl) (Nat.le_of_ble_eq_true rfl) (Nat.le_of_ble_eq_true rfl) dX6_init_58 (fun q58 H hP hD hS => ?_)
  have hP : va_P z.1 vwCl [(h, .inr (5, [.ref b0, .ref b1, .ref b2, .ref q30, .ref q44, .null, .null, .null, .int 0])), (q19, .inr (8, [.ref b1])), (q30, .inr (4, [.ref b1, .ref q19])), (q44, .inr (6, [.ref b1, .ref q19])), (q58, .inr (0, [.null, .null, .null]))] H := hP
  have hD : va_D A [(h, .inr (5, [.ref b0, .ref b1, .ref b2, .ref q30, .ref q44, .null, .null, .null, .int 0])), (q19, .inr (8, [.ref b1])), (q30, .inr (4, [.ref b1, .ref q19])), (q44, .inr (6, [.ref b1, .ref q19])), (q58, .inr (0, [.null, .null, .null]))] := hD
  refine W.widen (k := 4) (n := 8) (Nat.le_of_ble_eq_true rfl) (Nat.le_of_ble_eq_true rfl) ?_
  refine lv_dup hx hb dX6_init_61 rfl ?_
  refine lv_aload_n hx hb dX6_init_62 rfl (lv_at hl 2 rfl) ?_
  refine lv_aload_n hx hb dX6_init_63 rfl (lv_at hl 3 rfl) ?_
  refine lv_aload_n hx hb dX6_init_64 rfl (lv_at hl 4 rfl) ?_
  refine ki (As := [.ref b0, .ref b1, .ref b2]) (rest := [.ref q58, .ref h]) (wr := [(h, .inr (5, [.ref b0, .ref b1, .ref b2, .ref q30, .ref q44, .null, .null, .null, .int 0])), (q19, .inr (8, [.ref b1])), (q30, .inr (4, [.ref b1, .ref q19])), (q44, .inr (6, [.ref b1, .ref q19]))]) S hK hA hP hD hS [4] [0, 1, 2, 3] rfl rfl (by decide) (by decide) (by decide) (c_X0_init l z q58 b0 b1 b2 H.size) ⟨tb_cBg 3 hts tc_X0_init ti_X0 tl_X6_44 rfl rfl (by decide +kernel) ⟨Nat.le_of_ble_eq_true rfl, Nat.le_of_ble_eq_true rfl⟩, rfl, hts _ tm_X0_init⟩ rfl hl.1 rfl (Nat.le_of_ble_eq_true rfl) dX6_init_65 ⟨Nat.le_of_ble_eq_true rfl, Nat.le_of_ble_eq_true rfl⟩ (fun w1 H locs hg hP hD hS => ?_)
  obtain rfl := hg
  have hP : va_P z.1 vwCl [(h, .inr (5, [.ref b0, .ref b1, .ref b2, .ref q30, .ref q44, .null, .null, .null, .int 0])), (q19, .inr (8, [.ref b1])), (q30, .inr (4, [.ref b1, .ref q19])), (q44, .inr (6, [.ref b1, .ref q19])), (q58, .inr (0, [.ref b0, .ref b1, .ref b2]))] H := hP
  have hD : va_D A [(h, .inr (5, [.ref b0, .ref b1, .ref b2, .ref q30, .ref q44, .null, .null, .null, .int 0])), (q19, .inr (8, [.ref b1])), (q30, .inr (4, [.ref b1, .ref q19])), (q44, .inr (6, [.ref b1, .ref q19])), (q58, .inr (0, [.ref b0, .ref b1, .ref b2]))] := hD
  refine W.widen (k := 4) (n := 8) (Nat.le_of_ble_eq_true rfl) (Nat.le_of_ble_eq_true rfl) ?_
  refine va_putF (ci := 5) (v := .ref q58) (C := RX6) (T := TX6) (N := 9) hx hb hts tw_X6 tyX6 tyX6_ok nmX6 hown hK hP hD hS 0 rfl rfl 5 (by decide) (hts _ tf_X6_47) (fun _ h9 => h9) rfl hin rfl (t_ok_X6 5 (by decide)) rfl rfl (Nat.le_of_ble_eq_true rfl) dX6_init_68 (fun H locs hP hD hS => ?_)
  have hP : va_P z.1 vwCl [(h, .inr (5, [.ref b0, .ref b1, .ref b2, .ref q30, .ref q44, .ref q58, .null, .null, .int 0])), (q19, .inr (8, [.ref b1])), (q30, .inr (4, [.ref b1, .ref q19])), (q44, .inr (6, [.ref b1, .ref q19])), (q58, .inr (0, [.ref b0, .ref b1, .ref b2]))] H := hP
  have hD : va_D A [(h, .inr (5, [.ref b0, .ref b1, .ref b2, .ref q30, .ref q44, .ref q58, .null, .null, .int 0])), (q19, .inr (8, [.ref b1])), (q30, .inr (4, [.ref b1, .ref q19])), (q44, .inr (6, [.ref b1, .ref q19])), (q58, .inr (0, [.ref b0, .ref b1, .ref b2]))] := hD
  refine lv_aload_n hx hb dX6_init_71 rfl (lv_at hl 1 rfl) ?_
  refine va_new (ci := 1) (fs := [.null]) (C := RX2) (T := TX2) (N := 1) hx hb hts tw_X2 tyX2 tyX2_ok hown (hts _ tq_X6_51) (hts _ tn_X2) (hts _ ti_X2) hK hP hD hS hA rfl (fun j hj => by rcases (show j = 0 by omega) with rfl <;> rfl) (Nat.le_of_ble_eq_true rfl) (Nat.le_of_ble_eq_true rfl) dX6_init_72 (fun q72 H hP hD hS => ?_)
  have hP : va_P z.1 vwCl [(h, .inr (5, [.ref b0, .ref b1, .ref b2, .ref q30, .ref q44, .ref q58, .null, .null, .int 0])), (q19, .inr (8, [.ref b1])), (q30, .inr (4, [.ref b1, .ref q19])), (q44, .inr (6, [.ref b1, .ref q19])), (q58, .inr (0, [.ref b0, .ref b1, .ref b2])), (q72, .inr (1, [.null]))] H := hP
  have hD : va_D A [(h, .inr (5, [.ref b0, .ref b1, .ref b2, .ref q30, .ref q44, .ref q58, .null, .null, .int 0])), (q19, .inr (8, [.ref b1])), (q30, .inr (4, [.ref b1, .ref q19])), (q44, .inr (6, [.ref b1, .ref q19])), (q58, .inr (0, [.ref b0, .ref b1, .ref b2])), (q72, .inr (1, [.null]))] := hD
  refine W.widen (k := 5) (n := 9) (Nat.le_of_ble_eq_true rfl) (Nat.le_of_ble_eq_true rfl) ?_
  refine lv_dup hx hb dX6_init_75 rfl ?_
  refine lv_aload_n hx hb dX6_init_76 rfl (lv_at hl 3 rfl) ?_
  refine ki (As := [.ref b1]) (rest := [.ref q72, .ref h]) (wr := [(h, .inr (5, [.ref b0, .ref b1, .ref b2, .ref q30, .ref q44, .ref q58, .null, .null, .int 0])), (q19, .inr (8, [.ref b1])), (q30, .inr (4, [.ref b1, .ref q19])), (q44, .inr (6, [.ref b1, .ref q19])), (q58, .inr (0, [.ref b0, .ref b1, .ref b2]))]) S hK hA hP hD hS [5] [0, 1, 2, 3, 4] rfl rfl (by decide) (by decide) (by decide) (c_X2_init l z q72 b1 H.size) ⟨tb_cBg 1 hts tc_X2_init ti_X2 tl_X6_53 rfl rfl (by decide +kernel) ⟨Nat.le_of_ble_eq_true rfl, Nat.le_of_ble_eq_true rfl⟩, rfl, hts _ tm_X2_init⟩ rfl hl.1 rfl (Nat.le_of_ble_eq_true rfl) dX6_init_77 ⟨Nat.le_of_ble_eq_true rfl, Nat.le_of_ble_eq_true rfl⟩ (fun w1 H locs hg hP hD hS => ?_)
  obtain rfl := hg
  have hP : va_P z.1 vwCl [(h, .inr (5, [.ref b0, .ref b1, .ref b2, .ref q30, .ref q44, .ref q58, .null, .null, .int 0])), (q19, .inr (8, [.ref b1])), (q30, .inr (4, [.ref b1, .ref q19])), (q44, .inr (6, [.ref b1, .ref q19])), (q58, .inr (0, [.ref b0, .ref b1, .ref b2])), (q72, .inr (1, [.ref b1]))] H := hP
  have hD : va_D A [(h, .inr (5, [.ref b0, .ref b1, .ref b2, .ref q30, .ref q44, .ref q58, .null, .null, .int 0])), (q19, .inr (8, [.ref b1])), (q30, .inr (4, [.ref b1, .ref q19])), (q44, .inr (6, [.ref b1, .ref q19])), (q58, .inr (0, [.ref b0, .ref b1, .ref b2])), (q72, .inr (1, [.ref b1]))] := hD
  refine W.widen (k := 5) (n := 9) (Nat.le_of_ble_eq_true rfl) (Nat.le_of_ble_eq_true rfl) ?_
  refine va_putF (ci := 5) (v := .ref q72) (C := RX6) (T := TX6) (N := 9) hx hb hts tw_X6 tyX6 tyX6_ok nmX6 hown hK hP hD hS 0 rfl rfl 6 (by decide) (hts _ tf_X6_54) (fun _ h9 => h9) rfl hin rfl (t_ok_X6 6 (by decide)) rfl rfl (Nat.le_of_ble_eq_true rfl) dX6_init_80 (fun H locs hP hD hS => ?_)
  have hP : va_P z.1 vwCl [(h, .inr (5, [.ref b0, .ref b1, .ref b2, .ref q30, .ref q44, .ref q58, .ref q72, .null, .int 0])), (q19, .inr (8, [.ref b1])), (q30, .inr (4, [.ref b1, .ref q19])), (q44, .inr (6, [.ref b1, .ref q19])), (q58, .inr (0, [.ref b0, .ref b1, .ref b2])), (q72, .inr (1, [.ref b1]))] H := hP
  have hD : va_D A [(h, .inr (5, [.ref b0, .ref b1, .ref b2, .ref q30, .ref q44, .ref q58, .ref q72, .null, .int 0])), (q19, .inr (8, [.ref b1])), (q30, .inr (4, [.ref b1, .ref q19])), (q44, .inr (6, [.ref b1, .ref q19])), (q58, .inr (0, [.ref b0, .ref b1, .ref b2])), (q72, .inr (1, [.ref b1]))] := hD
  refine lv_aload_n hx hb dX6_init_83 rfl (lv_at hl 1 rfl) ?_
  refine va_new (ci := 2) (fs := [.null]) (C := RX3) (T := TX3) (N := 1) hx hb hts tw_X3 tyX3 tyX3_ok hown (hts _ tq_X6_58) (hts _ tn_X3) (hts _ ti_X3) hK hP hD hS hA rfl (fun j hj => by rcases (show j = 0 by omega) with rfl <;> rfl) (Nat.le_of_ble_eq_true rfl) (Nat.le_of_ble_eq_true rfl) dX6_init_84 (fun q84 H hP hD hS => ?_)
  have hP : va_P z.1 vwCl [(h, .inr (5, [.ref b0, .ref b1, .ref b2, .ref q30, .ref q44, .ref q58, .ref q72, .null, .int 0])), (q19, .inr (8, [.ref b1])), (q30, .inr (4, [.ref b1, .ref q19])), (q44, .inr (6, [.ref b1, .ref q19])), (q58, .inr (0, [.ref b0, .ref b1, .ref b2])), (q72, .inr (1, [.ref b1])), (q84, .inr (2, [.null]))] H := hP
  have hD : va_D A [(h, .inr (5, [.ref b0, .ref b1, .ref b2, .ref q30, .ref q44, .ref q58, .ref q72, .null, .int 0])), (q19, .inr (8, [.ref b1])), (q30, .inr (4, [.ref b1, .ref q19])), (q44, .inr (6, [.ref b1, .ref q19])), (q58, .inr (0, [.ref b0, .ref b1, .ref b2])), (q72, .inr (1, [.ref b1])), (q84, .inr (2, [.null]))] := hD
  refine W.widen (k := 6) (n := 10) (Nat.le_of_ble_eq_true rfl) (Nat.le_of_ble_eq_true rfl) ?_
  refine lv_dup hx hb dX6_init_87 rfl ?_
  refine lv_aload_n hx hb dX6_init_88 rfl (lv_at hl 3 rfl) ?_
  refine ki (As := [.ref b1]) (rest := [.ref q84, .ref h]) (wr := [(h, .inr (5, [.ref b0, .ref b1, .ref b2, .ref q30, .ref q44, .ref q58, .ref q72, .null, .int 0])), (q19, .inr (8, [.ref b1])), (q30, .inr (4, [.ref b1, .ref q19])), (q44, .inr (6, [.ref b1, .ref q19])), (q58, .inr (0, [.ref b0, .ref b1, .ref b2])), (q72, .inr (1, [.ref b1]))]) S hK hA hP hD hS [6] [0, 1, 2, 3, 4, 5] rfl rfl (by decide) (by decide) (by decide) (c_X3_init l z q84 b1 H.size) ⟨tb_cBg 1 hts tc_X3_init ti_X3 tl_X6_60 rfl rfl (by decide +kernel) ⟨Nat.le_of_ble_eq_true rfl, Nat.le_of_ble_eq_true rfl⟩, rfl, hts _ tm_X3_init⟩ rfl hl.1 rfl (Nat.le_of_ble_eq_true rfl) dX6_init_89 ⟨Nat.le_of_ble_eq_true rfl, Nat.le_of_ble_eq_true rfl⟩ (fun w1 H locs hg hP hD hS => ?_)
  obtain rfl := hg
  have hP : va_P z.1 vwCl [(h, .inr (5, [.ref b0, .ref b1, .ref b2, .ref q30, .ref q44, .ref q58, .ref q72, .null, .int 0])), (q19, .inr (8, [.ref b1])), (q30, .inr (4, [.ref b1, .ref q19])), (q44, .inr (6, [.ref b1, .ref q19])), (q58, .inr (0, [.ref b0, .ref b1, .ref b2])), (q72, .inr (1, [.ref b1])), (q84, .inr (2, [.ref b1]))] H := hP
  have hD : va_D A [(h, .inr (5, [.ref b0, .ref b1, .ref b2, .ref q30, .ref q44, .ref q58, .ref q72, .null, .int 0])), (q19, .inr (8, [.ref b1])), (q30, .inr (4, [.ref b1, .ref q19])), (q44, .inr (6, [.ref b1, .ref q19])), (q58, .inr (0, [.ref b0, .ref b1, .ref b2])), (q72, .inr (1, [.ref b1])), (q84, .inr (2, [.ref b1]))] := hD
  refine W.widen (k := 6) (n := 10) (Nat.le_of_ble_eq_true rfl) (Nat.le_of_ble_eq_true rfl) ?_
  refine va_putF (ci := 5) (v := .ref q84) (C := RX6) (T := TX6) (N := 9) hx hb hts tw_X6 tyX6 tyX6_ok nmX6 hown hK hP hD hS 0 rfl rfl 7 (by decide) (hts _ tf_X6_61) (fun _ h9 => h9) rfl hin rfl (t_ok_X6 7 (by decide)) rfl rfl (Nat.le_of_ble_eq_true rfl) dX6_init_92 (fun H locs hP hD hS => ?_)
  have hP : va_P z.1 vwCl [(h, .inr (5, [.ref b0, .ref b1, .ref b2, .ref q30, .ref q44, .ref q58, .ref q72, .ref q84, .int 0])), (q19, .inr (8, [.ref b1])), (q30, .inr (4, [.ref b1, .ref q19])), (q44, .inr (6, [.ref b1, .ref q19])), (q58, .inr (0, [.ref b0, .ref b1, .ref b2])), (q72, .inr (1, [.ref b1])), (q84, .inr (2, [.ref b1]))] H := hP
  have hD : va_D A [(h, .inr (5, [.ref b0, .ref b1, .ref b2, .ref q30, .ref q44, .ref q58, .ref q72, .ref q84, .int 0])), (q19, .inr (8, [.ref b1])), (q30, .inr (4, [.ref b1, .ref q19])), (q44, .inr (6, [.ref b1, .ref q19])), (q58, .inr (0, [.ref b0, .ref b1, .ref b2])), (q72, .inr (1, [.ref b1])), (q84, .inr (2, [.ref b1]))] := hD
  have hP9 := hP.sub (ws' := [(h, .inr (5, [.ref b0, .ref b1, .ref b2, .ref q30, .ref q44, .ref q58, .ref q72, .ref q84, .int 0])), (q19, .inr (8, [.ref b1])), (q30, .inr (4, [.ref b1, .ref q19])), (q44, .inr (6, [.ref b1, .ref q19])), (q58, .inr (0, [.ref b0, .ref b1, .ref b2])), (q72, .inr (1, [.ref b1])), (q84, .inr (2, [.ref b1]))]) [0, 1, 2, 3, 4, 5, 6] rfl
  have hD9 := hD.sub (ws' := [(h, .inr (5, [.ref b0, .ref b1, .ref b2, .ref q30, .ref q44, .ref q58, .ref q72, .ref q84, .int 0])), (q19, .inr (8, [.ref b1])), (q30, .inr (4, [.ref b1, .ref q19])), (q44, .inr (6, [.ref b1, .ref q19])), (q58, .inr (0, [.ref b0, .ref b1, .ref b2])), (q72, .inr (1, [.ref b1])), (q84, .inr (2, [.ref b1]))]) [0, 1, 2, 3, 4, 5, 6] (by decide) rfl
  exact hend _ H locs 95 ls ⟨q19, q30, q44, q58, q72, q84, rfl⟩ hP9 hD9 hS dX6_init_95
def xS0 : XS := ((fun _ => 0), vp_updL (vp_updL (vp_updL (fun _ => 0) 43 1) 44 1) 45 1, false, 0, 0, 0)
def mS0 : MS := ((fun _ => 0), (fun _ => 0), (fun _ => 0), 0, 1, 1, 1, false, 0, 0, 0, 0, 0, 0, false, 0)
theorem dX11_init_0 : decode cX11_init 0 = .ok (.aload_n 0, 1) := by decide +kernel
theorem dX11_init_1 : decode cX11_init 1 = .ok (.invokespecial 1, 3) := by decide +kernel
theorem dX11_init_4 : decode cX11_init 4 = .ok (.aload_n 0, 1) := by decide +kernel
theorem dX11_init_5 : decode cX11_init 5 = .ok (.new 7, 3) := by decide +kernel
theorem dX11_init_8 : decode cX11_init 8 = .ok (.dup, 1) := by decide +kernel
theorem dX11_init_9 : decode cX11_init 9 = .ok (.invokespecial 9, 3) := by decide +kernel
theorem dX11_init_12 : decode cX11_init 12 = .ok (.putfield 10, 3) := by decide +kernel
theorem dX11_init_15 : decode cX11_init 15 = .ok (.aload_n 0, 1) := by decide +kernel
theorem dX11_init_16 : decode cX11_init 16 = .ok (.new 16, 3) := by decide +kernel
theorem dX11_init_19 : decode cX11_init 19 = .ok (.dup, 1) := by decide +kernel
theorem dX11_init_20 : decode cX11_init 20 = .ok (.invokespecial 18, 3) := by decide +kernel
theorem dX11_init_23 : decode cX11_init 23 = .ok (.putfield 19, 3) := by decide +kernel
theorem dX11_init_26 : decode cX11_init 26 = .ok (.aload_n 0, 1) := by decide +kernel
theorem dX11_init_27 : decode cX11_init 27 = .ok (.new 23, 3) := by decide +kernel
theorem dX11_init_30 : decode cX11_init 30 = .ok (.dup, 1) := by decide +kernel
theorem dX11_init_31 : decode cX11_init 31 = .ok (.aload_n 0, 1) := by decide +kernel
theorem dX11_init_32 : decode cX11_init 32 = .ok (.getfield 10, 3) := by decide +kernel
theorem dX11_init_35 : decode cX11_init 35 = .ok (.aload_n 0, 1) := by decide +kernel
theorem dX11_init_36 : decode cX11_init 36 = .ok (.getfield 19, 3) := by decide +kernel
theorem dX11_init_39 : decode cX11_init 39 = .ok (.invokespecial 25, 3) := by decide +kernel
theorem dX11_init_42 : decode cX11_init 42 = .ok (.putfield 28, 3) := by decide +kernel
theorem dX11_init_45 : decode cX11_init 45 = .ok (.aload_n 0, 1) := by decide +kernel
theorem dX11_init_46 : decode cX11_init 46 = .ok (.new 32, 3) := by decide +kernel
theorem dX11_init_49 : decode cX11_init 49 = .ok (.dup, 1) := by decide +kernel
theorem dX11_init_50 : decode cX11_init 50 = .ok (.aload_n 0, 1) := by decide +kernel
theorem dX11_init_51 : decode cX11_init 51 = .ok (.getfield 10, 3) := by decide +kernel
theorem dX11_init_54 : decode cX11_init 54 = .ok (.aload_n 0, 1) := by decide +kernel
theorem dX11_init_55 : decode cX11_init 55 = .ok (.getfield 19, 3) := by decide +kernel
theorem dX11_init_58 : decode cX11_init 58 = .ok (.aload_n 0, 1) := by decide +kernel
theorem dX11_init_59 : decode cX11_init 59 = .ok (.getfield 28, 3) := by decide +kernel
theorem dX11_init_62 : decode cX11_init 62 = .ok (.invokespecial 34, 3) := by decide +kernel
theorem dX11_init_65 : decode cX11_init 65 = .ok (.putfield 37, 3) := by decide +kernel
theorem dX11_init_68 : decode cX11_init 68 = .ok (.return_, 1) := by decide +kernel
set_option maxHeartbeats 4000000 in
set_option maxRecDepth 100000 in
theorem c_X11_init (l : Launch) (z : Cx) (h : Nat) (sz : Nat) : Met l yX11_init (wsC yX11_init cX11_init 1 none) { frames := 3, cells := 12, slots := 8264, locals := 67 } (mPc z [(h, .inr (10, [.null, .null, .null, .null]))] sz [.ref h]) (gC z (va_A [(h, .inr (10, [.null, .null, .null, .null]))] sz) (fun w => ∃ r : Nat → Nat, r 0 = h ∧ w = xW z r xS0)) 12 8264 (va_A [(h, .inr (10, [.null, .null, .null, .null]))] sz) := by
  refine mk_c (own := RX11) (by decide) rfl sz _ (Nat.le_of_ble_eq_true rfl) (fun p e s m below meth c A H locs Q ls S hin hK hA hP hD hS hl hend => ?_)
  have hx := S.1
  have hb := S.2.1
  have hml := S.2.2.1
  have hown := S.2.2.2.1
  have hts := S.2.2.2.2
  have hl : lv_has ls 1 [(0, .ref h)] := hl
  refine lv_aload_n hx hb dX11_init_0 rfl (lv_at hl 0 rfl) ?_
  refine W.objInit hx hb hown (hts _ tl_X11_1) (hts _ tm_objectInit) (hts _ tc_objectInit) rfl (by rw [hml]; exact hl.1) rfl dX11_init_1 (Nat.le_of_ble_eq_true rfl) (Nat.le_of_ble_eq_true rfl) ?_
  refine W.eq (g2 := F0 m 4 ls []) rfl ?_
  refine lv_aload_n hx hb dX11_init_4 rfl (lv_at hl 0 rfl) ?_
  refine va_new (ci := 3) (fs := [.null]) (C := RX4) (T := TX4) (N := 1) hx hb hts tw_X4 tyX4 tyX4_ok hown (hts _ tq_X11_7) (hts _ tn_X4) (hts _ ti_X4) hK hP hD hS hA rfl (fun j hj => by rcases (show j = 0 by omega) with rfl <;> rfl) (Nat.le_of_ble_eq_true rfl) (Nat.le_of_ble_eq_true rfl) dX11_init_5 (fun q5 H hP hD hS => ?_)
  have hP : va_P z.1 vwCl [(h, .inr (10, [.null, .null, .null, .null])), (q5, .inr (3, [.null]))] H := hP
  have hD : va_D A [(h, .inr (10, [.null, .null, .null, .null])), (q5, .inr (3, [.null]))] := hD
  refine W.widen (k := 1) (n := 1) (Nat.le_of_ble_eq_true rfl) (Nat.le_of_ble_eq_true rfl) ?_
  refine lv_dup hx hb dX11_init_8 rfl ?_
  refine ki (As := []) (rest := [.ref q5, .ref h]) (wr := [(h, .inr (10, [.null, .null, .null, .null]))]) S hK hA hP hD hS [1] [0] rfl rfl (by decide) (by decide) (by decide) (c_X4_init l z q5 H.size) ⟨tb_cBg 0 hts tc_X4_init ti_X4 tl_X11_9 rfl rfl (by decide +kernel) ⟨Nat.le_of_ble_eq_true rfl, Nat.le_of_ble_eq_true rfl⟩, rfl, hts _ tm_X4_init⟩ rfl hl.1 rfl (Nat.le_of_ble_eq_true rfl) dX11_init_9 ⟨Nat.le_of_ble_eq_true rfl, Nat.le_of_ble_eq_true rfl⟩ (fun w1 H locs hg hP hD hS => ?_)
  obtain ⟨p9_0, rfl⟩ := hg
  have hP : va_P z.1 vwCl [(h, .inr (10, [.null, .null, .null, .null])), (q5, .inr (3, [.ref p9_0])), (p9_0, .inl (z.2.2, 8192, .inr (.inl fun _ => 0)))] H := hP
  have hD : va_D A [(h, .inr (10, [.null, .null, .null, .null])), (q5, .inr (3, [.ref p9_0])), (p9_0, .inl (z.2.2, 8192, .inr (.inl fun _ => 0)))] := hD
  refine W.widen (k := 2) (n := 8193) (Nat.le_of_ble_eq_true rfl) (Nat.le_of_ble_eq_true rfl) ?_
  refine va_putF (ci := 10) (v := .ref q5) (C := RX11) (T := TX11) (N := 4) hx hb hts tw_X11 tyX11 tyX11_ok nmX11 hown hK hP hD hS 0 rfl rfl 0 (by decide) (hts _ tf_X11_10) (fun _ h9 => h9) rfl hin rfl (t_ok_X11 0 (by decide)) rfl rfl (Nat.le_of_ble_eq_true rfl) dX11_init_12 (fun H locs hP hD hS => ?_)
  have hP : va_P z.1 vwCl [(h, .inr (10, [.ref q5, .null, .null, .null])), (q5, .inr (3, [.ref p9_0])), (p9_0, .inl (z.2.2, 8192, .inr (.inl fun _ => 0)))] H := hP
  have hD : va_D A [(h, .inr (10, [.ref q5, .null, .null, .null])), (q5, .inr (3, [.ref p9_0])), (p9_0, .inl (z.2.2, 8192, .inr (.inl fun _ => 0)))] := hD
  refine lv_aload_n hx hb dX11_init_15 rfl (lv_at hl 0 rfl) ?_
  refine va_new (ci := 7) (fs := [.null, .int 0, .long 0, .int 0]) (C := RX8) (T := TX8) (N := 4) hx hb hts tw_X8 tyX8 tyX8_ok hown (hts _ tq_X11_16) (hts _ tn_X8) (hts _ ti_X8) hK hP hD hS hA rfl (fun j hj => by rcases (show j = 0 ∨ j = 1 ∨ j = 2 ∨ j = 3 by omega) with rfl | rfl | rfl | rfl <;> rfl) (Nat.le_of_ble_eq_true rfl) (Nat.le_of_ble_eq_true rfl) dX11_init_16 (fun q16 H hP hD hS => ?_)
  have hP : va_P z.1 vwCl [(h, .inr (10, [.ref q5, .null, .null, .null])), (q5, .inr (3, [.ref p9_0])), (p9_0, .inl (z.2.2, 8192, .inr (.inl fun _ => 0))), (q16, .inr (7, [.null, .int 0, .long 0, .int 0]))] H := hP
  have hD : va_D A [(h, .inr (10, [.ref q5, .null, .null, .null])), (q5, .inr (3, [.ref p9_0])), (p9_0, .inl (z.2.2, 8192, .inr (.inl fun _ => 0))), (q16, .inr (7, [.null, .int 0, .long 0, .int 0]))] := hD
  refine W.widen (k := 3) (n := 8197) (Nat.le_of_ble_eq_true rfl) (Nat.le_of_ble_eq_true rfl) ?_
  refine lv_dup hx hb dX11_init_19 rfl ?_
  refine ki (As := []) (rest := [.ref q16, .ref h]) (wr := [(h, .inr (10, [.ref q5, .null, .null, .null])), (q5, .inr (3, [.ref p9_0])), (p9_0, .inl (z.2.2, 8192, .inr (.inl fun _ => 0)))]) S hK hA hP hD hS [3] [0, 1, 2] rfl rfl (by decide) (by decide) (by decide) (c_X8_init l z q16 H.size) ⟨tb_cBg 0 hts tc_X8_init ti_X8 tl_X11_18 rfl rfl (by decide +kernel) ⟨Nat.le_of_ble_eq_true rfl, Nat.le_of_ble_eq_true rfl⟩, rfl, hts _ tm_X8_init⟩ rfl hl.1 rfl (Nat.le_of_ble_eq_true rfl) dX11_init_20 ⟨Nat.le_of_ble_eq_true rfl, Nat.le_of_ble_eq_true rfl⟩ (fun w1 H locs hg hP hD hS => ?_)
  obtain ⟨p20_0, rfl⟩ := hg
  have hP : va_P z.1 vwCl [(h, .inr (10, [.ref q5, .null, .null, .null])), (q5, .inr (3, [.ref p9_0])), (p9_0, .inl (z.2.2, 8192, .inr (.inl fun _ => 0))), (q16, .inr (7, [.ref p20_0, .int 0, .long 0, .int 0])), (p20_0, .inl (z.2.2, 46, .inr (.inl (vp_updL (vp_updL (vp_updL (fun _ => 0) 43 1) 44 1) 45 1))))] H := hP
  have hD : va_D A [(h, .inr (10, [.ref q5, .null, .null, .null])), (q5, .inr (3, [.ref p9_0])), (p9_0, .inl (z.2.2, 8192, .inr (.inl fun _ => 0))), (q16, .inr (7, [.ref p20_0, .int 0, .long 0, .int 0])), (p20_0, .inl (z.2.2, 46, .inr (.inl (vp_updL (vp_updL (vp_updL (fun _ => 0) 43 1) 44 1) 45 1))))] := hD
  refine W.widen (k := 4) (n := 8243) (Nat.le_of_ble_eq_true rfl) (Nat.le_of_ble_eq_true rfl) ?_
  refine va_putF (ci := 10) (v := .ref q16) (C := RX11) (T := TX11) (N := 4) hx hb hts tw_X11 tyX11 tyX11_ok nmX11 hown hK hP hD hS 0 rfl rfl 1 (by decide) (hts _ tf_X11_19) (fun _ h9 => h9) rfl hin rfl (t_ok_X11 1 (by decide)) rfl rfl (Nat.le_of_ble_eq_true rfl) dX11_init_23 (fun H locs hP hD hS => ?_)
  have hP : va_P z.1 vwCl [(h, .inr (10, [.ref q5, .ref q16, .null, .null])), (q5, .inr (3, [.ref p9_0])), (p9_0, .inl (z.2.2, 8192, .inr (.inl fun _ => 0))), (q16, .inr (7, [.ref p20_0, .int 0, .long 0, .int 0])), (p20_0, .inl (z.2.2, 46, .inr (.inl (vp_updL (vp_updL (vp_updL (fun _ => 0) 43 1) 44 1) 45 1))))] H := hP
  have hD : va_D A [(h, .inr (10, [.ref q5, .ref q16, .null, .null])), (q5, .inr (3, [.ref p9_0])), (p9_0, .inl (z.2.2, 8192, .inr (.inl fun _ => 0))), (q16, .inr (7, [.ref p20_0, .int 0, .long 0, .int 0])), (p20_0, .inl (z.2.2, 46, .inr (.inl (vp_updL (vp_updL (vp_updL (fun _ => 0) 43 1) 44 1) 45 1))))] := hD
  refine lv_aload_n hx hb dX11_init_26 rfl (lv_at hl 0 rfl) ?_
  refine va_new (ci := 9) (fs := [.null, .null]) (C := RX10) (T := TX10) (N := 2) hx hb hts tw_X10 tyX10 tyX10_ok hown (hts _ tq_X11_23) (hts _ tn_X10) (hts _ ti_X10) hK hP hD hS hA rfl (fun j hj => by rcases (show j = 0 ∨ j = 1 by omega) with rfl | rfl <;> rfl) (Nat.le_of_ble_eq_true rfl) (Nat.le_of_ble_eq_true rfl) dX11_init_27 (fun q27 H hP hD hS => ?_)
  have hP : va_P z.1 vwCl [(h, .inr (10, [.ref q5, .ref q16, .null, .null])), (q5, .inr (3, [.ref p9_0])), (p9_0, .inl (z.2.2, 8192, .inr (.inl fun _ => 0))), (q16, .inr (7, [.ref p20_0, .int 0, .long 0, .int 0])), (p20_0, .inl (z.2.2, 46, .inr (.inl (vp_updL (vp_updL (vp_updL (fun _ => 0) 43 1) 44 1) 45 1)))), (q27, .inr (9, [.null, .null]))] H := hP
  have hD : va_D A [(h, .inr (10, [.ref q5, .ref q16, .null, .null])), (q5, .inr (3, [.ref p9_0])), (p9_0, .inl (z.2.2, 8192, .inr (.inl fun _ => 0))), (q16, .inr (7, [.ref p20_0, .int 0, .long 0, .int 0])), (p20_0, .inl (z.2.2, 46, .inr (.inl (vp_updL (vp_updL (vp_updL (fun _ => 0) 43 1) 44 1) 45 1)))), (q27, .inr (9, [.null, .null]))] := hD
  refine W.widen (k := 5) (n := 8245) (Nat.le_of_ble_eq_true rfl) (Nat.le_of_ble_eq_true rfl) ?_
  refine lv_dup hx hb dX11_init_30 rfl ?_
  refine lv_aload_n hx hb dX11_init_31 rfl (lv_at hl 0 rfl) ?_
  refine va_get (ci := 10) (v := .ref q5) (C := RX11) (T := TX11) (N := 4) hx hb hts tw_X11 hown hK hP 0 rfl rfl 0 (by decide) (hts _ tf_X11_10) (fun _ h9 => h9) rfl dX11_init_32 ?_
  refine lv_aload_n hx hb dX11_init_35 rfl (lv_at hl 0 rfl) ?_
  refine va_get (ci := 10) (v := .ref q16) (C := RX11) (T := TX11) (N := 4) hx hb hts tw_X11 hown hK hP 0 rfl rfl 1 (by decide) (hts _ tf_X11_19) (fun _ h9 => h9) rfl dX11_init_36 ?_
  refine ki (As := [.ref q5, .ref q16]) (rest := [.ref q27, .ref h]) (wr := [(h, .inr (10, [.ref q5, .ref q16, .null, .null])), (q5, .inr (3, [.ref p9_0])), (p9_0, .inl (z.2.2, 8192, .inr (.inl fun _ => 0))), (q16, .inr (7, [.ref p20_0, .int 0, .long 0, .int 0])), (p20_0, .inl (z.2.2, 46, .inr (.inl (vp_updL (vp_updL (vp_updL (fun _ => 0) 43 1) 44 1) 45 1))))]) S hK hA hP hD hS [5] [0, 1, 2, 3, 4] rfl rfl (by decide) (by decide) (by decide) (c_X10_init l z q27 q5 q16 H.size) ⟨tb_cBg 2 hts tc_X10_init ti_X10 tl_X11_25 rfl rfl (by decide +kernel) ⟨Nat.le_of_ble_eq_true rfl, Nat.le_of_ble_eq_true rfl⟩, rfl, hts _ tm_X10_init⟩ rfl hl.1 rfl (Nat.le_of_ble_eq_true rfl) dX11_init_39 ⟨Nat.le_of_ble_eq_true rfl, Nat.le_of_ble_eq_true rfl⟩ (fun w1 H locs hg hP hD hS => ?_)
  obtain rfl := hg
  have hP : va_P z.1 vwCl [(h, .inr (10, [.ref q5, .ref q16, .null, .null])), (q5, .inr (3, [.ref p9_0])), (p9_0, .inl (z.2.2, 8192, .inr (.inl fun _ => 0))), (q16, .inr (7, [.ref p20_0, .int 0, .long 0, .int 0])), (p20_0, .inl (z.2.2, 46, .inr (.inl (vp_updL (vp_updL (vp_updL (fun _ => 0) 43 1) 44 1) 45 1)))), (q27, .inr (9, [.ref q5, .ref q16]))] H := hP
  have hD : va_D A [(h, .inr (10, [.ref q5, .ref q16, .null, .null])), (q5, .inr (3, [.ref p9_0])), (p9_0, .inl (z.2.2, 8192, .inr (.inl fun _ => 0))), (q16, .inr (7, [.ref p20_0, .int 0, .long 0, .int 0])), (p20_0, .inl (z.2.2, 46, .inr (.inl (vp_updL (vp_updL (vp_updL (fun _ => 0) 43 1) 44 1) 45 1)))), (q27, .inr (9, [.ref q5, .ref q16]))] := hD
  refine W.widen (k := 5) (n := 8245) (Nat.le_of_ble_eq_true rfl) (Nat.le_of_ble_eq_true rfl) ?_
  refine va_putF (ci := 10) (v := .ref q27) (C := RX11) (T := TX11) (N := 4) hx hb hts tw_X11 tyX11 tyX11_ok nmX11 hown hK hP hD hS 0 rfl rfl 2 (by decide) (hts _ tf_X11_28) (fun _ h9 => h9) rfl hin rfl (t_ok_X11 2 (by decide)) rfl rfl (Nat.le_of_ble_eq_true rfl) dX11_init_42 (fun H locs hP hD hS => ?_)
  have hP : va_P z.1 vwCl [(h, .inr (10, [.ref q5, .ref q16, .ref q27, .null])), (q5, .inr (3, [.ref p9_0])), (p9_0, .inl (z.2.2, 8192, .inr (.inl fun _ => 0))), (q16, .inr (7, [.ref p20_0, .int 0, .long 0, .int 0])), (p20_0, .inl (z.2.2, 46, .inr (.inl (vp_updL (vp_updL (vp_updL (fun _ => 0) 43 1) 44 1) 45 1)))), (q27, .inr (9, [.ref q5, .ref q16]))] H := hP
  have hD : va_D A [(h, .inr (10, [.ref q5, .ref q16, .ref q27, .null])), (q5, .inr (3, [.ref p9_0])), (p9_0, .inl (z.2.2, 8192, .inr (.inl fun _ => 0))), (q16, .inr (7, [.ref p20_0, .int 0, .long 0, .int 0])), (p20_0, .inl (z.2.2, 46, .inr (.inl (vp_updL (vp_updL (vp_updL (fun _ => 0) 43 1) 44 1) 45 1)))), (q27, .inr (9, [.ref q5, .ref q16]))] := hD
  refine lv_aload_n hx hb dX11_init_45 rfl (lv_at hl 0 rfl) ?_
  refine va_new (ci := 5) (fs := [.null, .null, .null, .null, .null, .null, .null, .null, .int 0]) (C := RX6) (T := TX6) (N := 9) hx hb hts tw_X6 tyX6 tyX6_ok hown (hts _ tq_X11_32) (hts _ tn_X6) (hts _ ti_X6) hK hP hD hS hA rfl (fun j hj => by rcases (show j = 0 ∨ j = 1 ∨ j = 2 ∨ j = 3 ∨ j = 4 ∨ j = 5 ∨ j = 6 ∨ j = 7 ∨ j = 8 by omega) with rfl | rfl | rfl | rfl | rfl | rfl | rfl | rfl | rfl <;> rfl) (Nat.le_of_ble_eq_true rfl) (Nat.le_of_ble_eq_true rfl) dX11_init_46 (fun q46 H hP hD hS => ?_)
  have hP : va_P z.1 vwCl [(h, .inr (10, [.ref q5, .ref q16, .ref q27, .null])), (q5, .inr (3, [.ref p9_0])), (p9_0, .inl (z.2.2, 8192, .inr (.inl fun _ => 0))), (q16, .inr (7, [.ref p20_0, .int 0, .long 0, .int 0])), (p20_0, .inl (z.2.2, 46, .inr (.inl (vp_updL (vp_updL (vp_updL (fun _ => 0) 43 1) 44 1) 45 1)))), (q27, .inr (9, [.ref q5, .ref q16])), (q46, .inr (5, [.null, .null, .null, .null, .null, .null, .null, .null, .int 0]))] H := hP
  have hD : va_D A [(h, .inr (10, [.ref q5, .ref q16, .ref q27, .null])), (q5, .inr (3, [.ref p9_0])), (p9_0, .inl (z.2.2, 8192, .inr (.inl fun _ => 0))), (q16, .inr (7, [.ref p20_0, .int 0, .long 0, .int 0])), (p20_0, .inl (z.2.2, 46, .inr (.inl (vp_updL (vp_updL (vp_updL (fun _ => 0) 43 1) 44 1) 45 1)))), (q27, .inr (9, [.ref q5, .ref q16])), (q46, .inr (5, [.null, .null, .null, .null, .null, .null, .null, .null, .int 0]))] := hD
  refine W.widen (k := 6) (n := 8254) (Nat.le_of_ble_eq_true rfl) (Nat.le_of_ble_eq_true rfl) ?_
  refine lv_dup hx hb dX11_init_49 rfl ?_
  refine lv_aload_n hx hb dX11_init_50 rfl (lv_at hl 0 rfl) ?_
  refine va_get (ci := 10) (v := .ref q5) (C := RX11) (T := TX11) (N := 4) hx hb hts tw_X11 hown hK hP 0 rfl rfl 0 (by decide) (hts _ tf_X11_10) (fun _ h9 => h9) rfl dX11_init_51 ?_
  refine lv_aload_n hx hb dX11_init_54 rfl (lv_at hl 0 rfl) ?_
  refine va_get (ci := 10) (v := .ref q16) (C := RX11) (T := TX11) (N := 4) hx hb hts tw_X11 hown hK hP 0 rfl rfl 1 (by decide) (hts _ tf_X11_19) (fun _ h9 => h9) rfl dX11_init_55 ?_
  refine lv_aload_n hx hb dX11_init_58 rfl (lv_at hl 0 rfl) ?_
  refine va_get (ci := 10) (v := .ref q27) (C := RX11) (T := TX11) (N := 4) hx hb hts tw_X11 hown hK hP 0 rfl rfl 2 (by decide) (hts _ tf_X11_28) (fun _ h9 => h9) rfl dX11_init_59 ?_
  refine ki (As := [.ref q5, .ref q16, .ref q27]) (rest := [.ref q46, .ref h]) (wr := [(h, .inr (10, [.ref q5, .ref q16, .ref q27, .null])), (q5, .inr (3, [.ref p9_0])), (p9_0, .inl (z.2.2, 8192, .inr (.inl fun _ => 0))), (q16, .inr (7, [.ref p20_0, .int 0, .long 0, .int 0])), (p20_0, .inl (z.2.2, 46, .inr (.inl (vp_updL (vp_updL (vp_updL (fun _ => 0) 43 1) 44 1) 45 1)))), (q27, .inr (9, [.ref q5, .ref q16]))]) S hK hA hP hD hS [6] [0, 1, 2, 3, 4, 5] rfl rfl (by decide) (by decide) (by decide) (c_X6_init l z q46 q5 q16 q27 H.size) ⟨tb_cBg 3 hts tc_X6_init ti_X6 tl_X11_34 rfl rfl (by decide +kernel) ⟨Nat.le_of_ble_eq_true rfl, Nat.le_of_ble_eq_true rfl⟩, rfl, hts _ tm_X6_init⟩ rfl hl.1 rfl (Nat.le_of_ble_eq_true rfl) dX11_init_62 ⟨Nat.le_of_ble_eq_true rfl, Nat.le_of_ble_eq_true rfl⟩ (fun w1 H locs hg hP hD hS => ?_)
  obtain ⟨p62_0, p62_1, p62_2, p62_3, p62_4, p62_5, rfl⟩ := hg
  have hP : va_P z.1 vwCl [(h, .inr (10, [.ref q5, .ref q16, .ref q27, .null])), (q5, .inr (3, [.ref p9_0])), (p9_0, .inl (z.2.2, 8192, .inr (.inl fun _ => 0))), (q16, .inr (7, [.ref p20_0, .int 0, .long 0, .int 0])), (p20_0, .inl (z.2.2, 46, .inr (.inl (vp_updL (vp_updL (vp_updL (fun _ => 0) 43 1) 44 1) 45 1)))), (q27, .inr (9, [.ref q5, .ref q16])), (q46, .inr (5, [.ref q5, .ref q16, .ref q27, .ref p62_1, .ref p62_2, .ref p62_3, .ref p62_4, .ref p62_5, .int 0])), (p62_0, .inr (8, [.ref q16])), (p62_1, .inr (4, [.ref q16, .ref p62_0])), (p62_2, .inr (6, [.ref q16, .ref p62_0])), (p62_3, .inr (0, [.ref q5, .ref q16, .ref q27])), (p62_4, .inr (1, [.ref q16])), (p62_5, .inr (2, [.ref q16]))] H := hP
  have hD : va_D A [(h, .inr (10, [.ref q5, .ref q16, .ref q27, .null])), (q5, .inr (3, [.ref p9_0])), (p9_0, .inl (z.2.2, 8192, .inr (.inl fun _ => 0))), (q16, .inr (7, [.ref p20_0, .int 0, .long 0, .int 0])), (p20_0, .inl (z.2.2, 46, .inr (.inl (vp_updL (vp_updL (vp_updL (fun _ => 0) 43 1) 44 1) 45 1)))), (q27, .inr (9, [.ref q5, .ref q16])), (q46, .inr (5, [.ref q5, .ref q16, .ref q27, .ref p62_1, .ref p62_2, .ref p62_3, .ref p62_4, .ref p62_5, .int 0])), (p62_0, .inr (8, [.ref q16])), (p62_1, .inr (4, [.ref q16, .ref p62_0])), (p62_2, .inr (6, [.ref q16, .ref p62_0])), (p62_3, .inr (0, [.ref q5, .ref q16, .ref q27])), (p62_4, .inr (1, [.ref q16])), (p62_5, .inr (2, [.ref q16]))] := hD
  refine W.widen (k := 12) (n := 8264) (Nat.le_of_ble_eq_true rfl) (Nat.le_of_ble_eq_true rfl) ?_
  refine va_putF (ci := 10) (v := .ref q46) (C := RX11) (T := TX11) (N := 4) hx hb hts tw_X11 tyX11 tyX11_ok nmX11 hown hK hP hD hS 0 rfl rfl 3 (by decide) (hts _ tf_X11_37) (fun _ h9 => h9) rfl hin rfl (t_ok_X11 3 (by decide)) rfl rfl (Nat.le_of_ble_eq_true rfl) dX11_init_65 (fun H locs hP hD hS => ?_)
  have hP : va_P z.1 vwCl [(h, .inr (10, [.ref q5, .ref q16, .ref q27, .ref q46])), (q5, .inr (3, [.ref p9_0])), (p9_0, .inl (z.2.2, 8192, .inr (.inl fun _ => 0))), (q16, .inr (7, [.ref p20_0, .int 0, .long 0, .int 0])), (p20_0, .inl (z.2.2, 46, .inr (.inl (vp_updL (vp_updL (vp_updL (fun _ => 0) 43 1) 44 1) 45 1)))), (q27, .inr (9, [.ref q5, .ref q16])), (q46, .inr (5, [.ref q5, .ref q16, .ref q27, .ref p62_1, .ref p62_2, .ref p62_3, .ref p62_4, .ref p62_5, .int 0])), (p62_0, .inr (8, [.ref q16])), (p62_1, .inr (4, [.ref q16, .ref p62_0])), (p62_2, .inr (6, [.ref q16, .ref p62_0])), (p62_3, .inr (0, [.ref q5, .ref q16, .ref q27])), (p62_4, .inr (1, [.ref q16])), (p62_5, .inr (2, [.ref q16]))] H := hP
  have hD : va_D A [(h, .inr (10, [.ref q5, .ref q16, .ref q27, .ref q46])), (q5, .inr (3, [.ref p9_0])), (p9_0, .inl (z.2.2, 8192, .inr (.inl fun _ => 0))), (q16, .inr (7, [.ref p20_0, .int 0, .long 0, .int 0])), (p20_0, .inl (z.2.2, 46, .inr (.inl (vp_updL (vp_updL (vp_updL (fun _ => 0) 43 1) 44 1) 45 1)))), (q27, .inr (9, [.ref q5, .ref q16])), (q46, .inr (5, [.ref q5, .ref q16, .ref q27, .ref p62_1, .ref p62_2, .ref p62_3, .ref p62_4, .ref p62_5, .int 0])), (p62_0, .inr (8, [.ref q16])), (p62_1, .inr (4, [.ref q16, .ref p62_0])), (p62_2, .inr (6, [.ref q16, .ref p62_0])), (p62_3, .inr (0, [.ref q5, .ref q16, .ref q27])), (p62_4, .inr (1, [.ref q16])), (p62_5, .inr (2, [.ref q16]))] := hD
  have hP9 := hP.sub (ws' := [(h, .inr (10, [.ref q5, .ref q16, .ref q27, .ref q46])), (q5, .inr (3, [.ref p9_0])), (p9_0, .inl (z.2.2, 8192, .inr (.inl fun _ => 0))), (q16, .inr (7, [.ref p20_0, .int 0, .long 0, .int 0])), (p20_0, .inl (z.2.2, 46, .inr (.inl (vp_updL (vp_updL (vp_updL (fun _ => 0) 43 1) 44 1) 45 1)))), (q27, .inr (9, [.ref q5, .ref q16])), (q46, .inr (5, [.ref q5, .ref q16, .ref q27, .ref p62_1, .ref p62_2, .ref p62_3, .ref p62_4, .ref p62_5, .int 0])), (p62_0, .inr (8, [.ref q16])), (p62_1, .inr (4, [.ref q16, .ref p62_0])), (p62_2, .inr (6, [.ref q16, .ref p62_0])), (p62_3, .inr (0, [.ref q5, .ref q16, .ref q27])), (p62_4, .inr (1, [.ref q16])), (p62_5, .inr (2, [.ref q16]))]) [0, 1, 2, 3, 4, 5, 6, 7, 8, 9, 10, 11, 12] rfl
  have hD9 := hD.sub (ws' := [(h, .inr (10, [.ref q5, .ref q16, .ref q27, .ref q46])), (q5, .inr (3, [.ref p9_0])), (p9_0, .inl (z.2.2, 8192, .inr (.inl fun _ => 0))), (q16, .inr (7, [.ref p20_0, .int 0, .long 0, .int 0])), (p20_0, .inl (z.2.2, 46, .inr (.inl (vp_updL (vp_updL (vp_updL (fun _ => 0) 43 1) 44 1) 45 1)))), (q27, .inr (9, [.ref q5, .ref q16])), (q46, .inr (5, [.ref q5, .ref q16, .ref q27, .ref p62_1, .ref p62_2, .ref p62_3, .ref p62_4, .ref p62_5, .int 0])), (p62_0, .inr (8, [.ref q16])), (p62_1, .inr (4, [.ref q16, .ref p62_0])), (p62_2, .inr (6, [.ref q16, .ref p62_0])), (p62_3, .inr (0, [.ref q5, .ref q16, .ref q27])), (p62_4, .inr (1, [.ref q16])), (p62_5, .inr (2, [.ref q16]))]) [0, 1, 2, 3, 4, 5, 6, 7, 8, 9, 10, 11, 12] (by decide) rfl
  exact hend _ H locs 68 ls ⟨fun k => ([h, q5, p9_0, q16, p20_0, q27, q46, p62_0, p62_1, p62_2, p62_3, p62_4, p62_5] : List Nat).getD k 0, rfl, rfl⟩ hP9 hD9 hS dX11_init_68
theorem dX12_init_0 : decode cX12_init 0 = .ok (.aload_n 0, 1) := by decide +kernel
theorem dX12_init_1 : decode cX12_init 1 = .ok (.invokespecial 1, 3) := by decide +kernel
theorem dX12_init_4 : decode cX12_init 4 = .ok (.aload_n 0, 1) := by decide +kernel
theorem dX12_init_5 : decode cX12_init 5 = .ok (.iconst 0, 1) := by decide +kernel
theorem dX12_init_6 : decode cX12_init 6 = .ok (.putfield 7, 3) := by decide +kernel
theorem dX12_init_9 : decode cX12_init 9 = .ok (.aload_n 0, 1) := by decide +kernel
theorem dX12_init_10 : decode cX12_init 10 = .ok (.ldc 13, 2) := by decide +kernel
theorem dX12_init_12 : decode cX12_init 12 = .ok (.newarray .int, 2) := by decide +kernel
theorem dX12_init_14 : decode cX12_init 14 = .ok (.putfield 14, 3) := by decide +kernel
theorem dX12_init_17 : decode cX12_init 17 = .ok (.aload_n 0, 1) := by decide +kernel
theorem dX12_init_18 : decode cX12_init 18 = .ok (.bipush 32, 2) := by decide +kernel
theorem dX12_init_20 : decode cX12_init 20 = .ok (.newarray .long, 2) := by decide +kernel
theorem dX12_init_22 : decode cX12_init 22 = .ok (.putfield 18, 3) := by decide +kernel
theorem dX12_init_25 : decode cX12_init 25 = .ok (.aload_n 0, 1) := by decide +kernel
theorem dX12_init_26 : decode cX12_init 26 = .ok (.bipush 11, 2) := by decide +kernel
theorem dX12_init_28 : decode cX12_init 28 = .ok (.newarray .long, 2) := by decide +kernel
theorem dX12_init_30 : decode cX12_init 30 = .ok (.putfield 22, 3) := by decide +kernel
theorem dX12_init_33 : decode cX12_init 33 = .ok (.aload_n 0, 1) := by decide +kernel
theorem dX12_init_34 : decode cX12_init 34 = .ok (.iconst 0, 1) := by decide +kernel
theorem dX12_init_35 : decode cX12_init 35 = .ok (.putfield 25, 3) := by decide +kernel
theorem dX12_init_38 : decode cX12_init 38 = .ok (.aload_n 0, 1) := by decide +kernel
theorem dX12_init_39 : decode cX12_init 39 = .ok (.iconst 1, 1) := by decide +kernel
theorem dX12_init_40 : decode cX12_init 40 = .ok (.putfield 28, 3) := by decide +kernel
theorem dX12_init_43 : decode cX12_init 43 = .ok (.aload_n 0, 1) := by decide +kernel
theorem dX12_init_44 : decode cX12_init 44 = .ok (.iconst 1, 1) := by decide +kernel
theorem dX12_init_45 : decode cX12_init 45 = .ok (.putfield 31, 3) := by decide +kernel
theorem dX12_init_48 : decode cX12_init 48 = .ok (.aload_n 0, 1) := by decide +kernel
theorem dX12_init_49 : decode cX12_init 49 = .ok (.iconst 1, 1) := by decide +kernel
theorem dX12_init_50 : decode cX12_init 50 = .ok (.putfield 34, 3) := by decide +kernel
theorem dX12_init_53 : decode cX12_init 53 = .ok (.aload_n 0, 1) := by decide +kernel
theorem dX12_init_54 : decode cX12_init 54 = .ok (.iconst 0, 1) := by decide +kernel
theorem dX12_init_55 : decode cX12_init 55 = .ok (.putfield 37, 3) := by decide +kernel
theorem dX12_init_58 : decode cX12_init 58 = .ok (.aload_n 0, 1) := by decide +kernel
theorem dX12_init_59 : decode cX12_init 59 = .ok (.iconst 0, 1) := by decide +kernel
theorem dX12_init_60 : decode cX12_init 60 = .ok (.putfield 41, 3) := by decide +kernel
theorem dX12_init_63 : decode cX12_init 63 = .ok (.aload_n 0, 1) := by decide +kernel
theorem dX12_init_64 : decode cX12_init 64 = .ok (.lconst 0, 1) := by decide +kernel
theorem dX12_init_65 : decode cX12_init 65 = .ok (.putfield 44, 3) := by decide +kernel
theorem dX12_init_68 : decode cX12_init 68 = .ok (.aload_n 0, 1) := by decide +kernel
theorem dX12_init_69 : decode cX12_init 69 = .ok (.iconst 0, 1) := by decide +kernel
theorem dX12_init_70 : decode cX12_init 70 = .ok (.putfield 48, 3) := by decide +kernel
theorem dX12_init_73 : decode cX12_init 73 = .ok (.aload_n 0, 1) := by decide +kernel
theorem dX12_init_74 : decode cX12_init 74 = .ok (.iconst 0, 1) := by decide +kernel
theorem dX12_init_75 : decode cX12_init 75 = .ok (.putfield 51, 3) := by decide +kernel
theorem dX12_init_78 : decode cX12_init 78 = .ok (.aload_n 0, 1) := by decide +kernel
theorem dX12_init_79 : decode cX12_init 79 = .ok (.iconst 0, 1) := by decide +kernel
theorem dX12_init_80 : decode cX12_init 80 = .ok (.putfield 54, 3) := by decide +kernel
theorem dX12_init_83 : decode cX12_init 83 = .ok (.aload_n 0, 1) := by decide +kernel
theorem dX12_init_84 : decode cX12_init 84 = .ok (.iconst 0, 1) := by decide +kernel
theorem dX12_init_85 : decode cX12_init 85 = .ok (.putfield 57, 3) := by decide +kernel
theorem dX12_init_88 : decode cX12_init 88 = .ok (.aload_n 0, 1) := by decide +kernel
theorem dX12_init_89 : decode cX12_init 89 = .ok (.iconst 0, 1) := by decide +kernel
theorem dX12_init_90 : decode cX12_init 90 = .ok (.putfield 60, 3) := by decide +kernel
theorem dX12_init_93 : decode cX12_init 93 = .ok (.return_, 1) := by decide +kernel
set_option maxHeartbeats 4000000 in
set_option maxRecDepth 100000 in
theorem c_X12_init (l : Launch) (z : Cx) (h : Nat) (sz : Nat) : Met l yX12_init (wsC yX12_init cX12_init 1 none) { frames := 1, cells := 3, slots := 65579, locals := 20 } (mPc z [(h, .inr (11, [.int 0, .null, .null, .null, .int 0, .int 0, .int 0, .int 0, .int 0, .int 0, .long 0, .int 0, .int 0, .int 0, .int 0, .int 0]))] sz [.ref h]) (gC z (va_A [(h, .inr (11, [.int 0, .null, .null, .null, .int 0, .int 0, .int 0, .int 0, .int 0, .int 0, .long 0, .int 0, .int 0, .int 0, .int 0, .int 0]))] sz) (fun w => ∃ r : Nat → Nat, r 0 = h ∧ w = mW z r mS0)) 3 65579 (va_A [(h, .inr (11, [.int 0, .null, .null, .null, .int 0, .int 0, .int 0, .int 0, .int 0, .int 0, .long 0, .int 0, .int 0, .int 0, .int 0, .int 0]))] sz) := by
  refine mk_c (own := RX12) (by decide) rfl sz _ (Nat.le_of_ble_eq_true rfl) (fun p e s m below meth c A H locs Q ls S hin hK hA hP hD hS hl hend => ?_)
  have hx := S.1
  have hb := S.2.1
  have hml := S.2.2.1
  have hown := S.2.2.2.1
  have hts := S.2.2.2.2
  have hl : lv_has ls 1 [(0, .ref h)] := hl
  refine lv_aload_n hx hb dX12_init_0 rfl (lv_at hl 0 rfl) ?_
  refine W.objInit hx hb hown (hts _ tl_X12_1) (hts _ tm_objectInit) (hts _ tc_objectInit) rfl (by rw [hml]; exact hl.1) rfl dX12_init_1 (Nat.le_of_ble_eq_true rfl) (Nat.le_of_ble_eq_true rfl) ?_
  refine W.eq (g2 := F0 m 4 ls []) rfl ?_
  refine lv_aload_n hx hb dX12_init_4 rfl (lv_at hl 0 rfl) ?_
  refine lv_iconst (v := 0) hx hb dX12_init_5 (by decide) ?_
  refine va_put (ci := 11) (v := .int 0) (C := RX12) (T := TX12) (N := 16) hx hb hts tw_X12 tyX12 tyX12_ok nmX12 hown hK hP hD hS 0 rfl rfl 0 (by decide) (hts _ tf_X12_7) (fun _ h9 => h9) rfl (t_ok_X12 0 (by decide)) rfl rfl (Nat.le_of_ble_eq_true rfl) dX12_init_6 (fun H locs hP hD hS => ?_)
  have hP : va_P z.1 vwCl [(h, .inr (11, [.int 0, .null, .null, .null, .int 0, .int 0, .int 0, .int 0, .int 0, .int 0, .long 0, .int 0, .int 0, .int 0, .int 0, .int 0]))] H := hP
  have hD : va_D A [(h, .inr (11, [.int 0, .null, .null, .null, .int 0, .int 0, .int 0, .int 0, .int 0, .int 0, .long 0, .int 0, .int 0, .int 0, .int 0, .int 0]))] := hD
  refine lv_aload_n hx hb dX12_init_9 rfl (lv_at hl 0 rfl) ?_
  refine lv_ldc (v := 65536) hx hb hown (hts _ tk_X12_13) dX12_init_10 ?_
  refine ga_newI (N := 65536) S hK hA hP hD hS (by decide) (by decide) (by decide) (Nat.le_of_ble_eq_true rfl) (Nat.le_of_ble_eq_true rfl) dX12_init_12 (fun q12 H hP hD hS => ?_)
  have hP : va_P z.1 vwCl [(h, .inr (11, [.int 0, .null, .null, .null, .int 0, .int 0, .int 0, .int 0, .int 0, .int 0, .long 0, .int 0, .int 0, .int 0, .int 0, .int 0])), (q12, .inl (z.2.1, 65536, .inl fun _ => 0))] H := hP
  have hD : va_D A [(h, .inr (11, [.int 0, .null, .null, .null, .int 0, .int 0, .int 0, .int 0, .int 0, .int 0, .long 0, .int 0, .int 0, .int 0, .int 0, .int 0])), (q12, .inl (z.2.1, 65536, .inl fun _ => 0))] := hD
  refine W.widen (k := 1) (n := 65536) (Nat.le_of_ble_eq_true rfl) (Nat.le_of_ble_eq_true rfl) ?_
  refine va_putF (ci := 11) (v := .ref q12) (C := RX12) (T := TX12) (N := 16) hx hb hts tw_X12 tyX12 tyX12_ok nmX12 hown hK hP hD hS 0 rfl rfl 1 (by decide) (hts _ tf_X12_14) (fun _ h9 => h9) rfl hin rfl (t_ok_X12 1 (by decide)) rfl rfl (Nat.le_of_ble_eq_true rfl) dX12_init_14 (fun H locs hP hD hS => ?_)
  have hP : va_P z.1 vwCl [(h, .inr (11, [.int 0, .ref q12, .null, .null, .int 0, .int 0, .int 0, .int 0, .int 0, .int 0, .long 0, .int 0, .int 0, .int 0, .int 0, .int 0])), (q12, .inl (z.2.1, 65536, .inl fun _ => 0))] H := hP
  have hD : va_D A [(h, .inr (11, [.int 0, .ref q12, .null, .null, .int 0, .int 0, .int 0, .int 0, .int 0, .int 0, .long 0, .int 0, .int 0, .int 0, .int 0, .int 0])), (q12, .inl (z.2.1, 65536, .inl fun _ => 0))] := hD
  refine lv_aload_n hx hb dX12_init_17 rfl (lv_at hl 0 rfl) ?_
  refine lv_bipush (v := 32) hx hb dX12_init_18 (by decide) ?_
  refine ga_newJ (N := 32) S hK hA hP hD hS (by decide) (by decide) (by decide) (Nat.le_of_ble_eq_true rfl) (Nat.le_of_ble_eq_true rfl) dX12_init_20 (fun q20 H hP hD hS => ?_)
  have hP : va_P z.1 vwCl [(h, .inr (11, [.int 0, .ref q12, .null, .null, .int 0, .int 0, .int 0, .int 0, .int 0, .int 0, .long 0, .int 0, .int 0, .int 0, .int 0, .int 0])), (q12, .inl (z.2.1, 65536, .inl fun _ => 0)), (q20, .inl (z.2.2, 32, .inr (.inl fun _ => 0)))] H := hP
  have hD : va_D A [(h, .inr (11, [.int 0, .ref q12, .null, .null, .int 0, .int 0, .int 0, .int 0, .int 0, .int 0, .long 0, .int 0, .int 0, .int 0, .int 0, .int 0])), (q12, .inl (z.2.1, 65536, .inl fun _ => 0)), (q20, .inl (z.2.2, 32, .inr (.inl fun _ => 0)))] := hD
  refine W.widen (k := 2) (n := 65568) (Nat.le_of_ble_eq_true rfl) (Nat.le_of_ble_eq_true rfl) ?_
  refine va_putF (ci := 11) (v := .ref q20) (C := RX12) (T := TX12) (N := 16) hx hb hts tw_X12 tyX12 tyX12_ok nmX12 hown hK hP hD hS 0 rfl rfl 2 (by decide) (hts _ tf_X12_18) (fun _ h9 => h9) rfl hin rfl (t_ok_X12 2 (by decide)) rfl rfl (Nat.le_of_ble_eq_true rfl) dX12_init_22 (fun H locs hP hD hS => ?_)
  have hP : va_P z.1 vwCl [(h, .inr (11, [.int 0, .ref q12, .ref q20, .null, .int 0, .int 0, .int 0, .int 0, .int 0, .int 0, .long 0, .int 0, .int 0, .int 0, .int 0, .int 0])), (q12, .inl (z.2.1, 65536, .inl fun _ => 0)), (q20, .inl (z.2.2, 32, .inr (.inl fun _ => 0)))] H := hP
  have hD : va_D A [(h, .inr (11, [.int 0, .ref q12, .ref q20, .null, .int 0, .int 0, .int 0, .int 0, .int 0, .int 0, .long 0, .int 0, .int 0, .int 0, .int 0, .int 0])), (q12, .inl (z.2.1, 65536, .inl fun _ => 0)), (q20, .inl (z.2.2, 32, .inr (.inl fun _ => 0)))] := hD
  refine lv_aload_n hx hb dX12_init_25 rfl (lv_at hl 0 rfl) ?_
  refine lv_bipush (v := 11) hx hb dX12_init_26 (by decide) ?_
  refine ga_newJ (N := 11) S hK hA hP hD hS (by decide) (by decide) (by decide) (Nat.le_of_ble_eq_true rfl) (Nat.le_of_ble_eq_true rfl) dX12_init_28 (fun q28 H hP hD hS => ?_)
  have hP : va_P z.1 vwCl [(h, .inr (11, [.int 0, .ref q12, .ref q20, .null, .int 0, .int 0, .int 0, .int 0, .int 0, .int 0, .long 0, .int 0, .int 0, .int 0, .int 0, .int 0])), (q12, .inl (z.2.1, 65536, .inl fun _ => 0)), (q20, .inl (z.2.2, 32, .inr (.inl fun _ => 0))), (q28, .inl (z.2.2, 11, .inr (.inl fun _ => 0)))] H := hP
  have hD : va_D A [(h, .inr (11, [.int 0, .ref q12, .ref q20, .null, .int 0, .int 0, .int 0, .int 0, .int 0, .int 0, .long 0, .int 0, .int 0, .int 0, .int 0, .int 0])), (q12, .inl (z.2.1, 65536, .inl fun _ => 0)), (q20, .inl (z.2.2, 32, .inr (.inl fun _ => 0))), (q28, .inl (z.2.2, 11, .inr (.inl fun _ => 0)))] := hD
  refine W.widen (k := 3) (n := 65579) (Nat.le_of_ble_eq_true rfl) (Nat.le_of_ble_eq_true rfl) ?_
  refine va_putF (ci := 11) (v := .ref q28) (C := RX12) (T := TX12) (N := 16) hx hb hts tw_X12 tyX12 tyX12_ok nmX12 hown hK hP hD hS 0 rfl rfl 3 (by decide) (hts _ tf_X12_22) (fun _ h9 => h9) rfl hin rfl (t_ok_X12 3 (by decide)) rfl rfl (Nat.le_of_ble_eq_true rfl) dX12_init_30 (fun H locs hP hD hS => ?_)
  have hP : va_P z.1 vwCl [(h, .inr (11, [.int 0, .ref q12, .ref q20, .ref q28, .int 0, .int 0, .int 0, .int 0, .int 0, .int 0, .long 0, .int 0, .int 0, .int 0, .int 0, .int 0])), (q12, .inl (z.2.1, 65536, .inl fun _ => 0)), (q20, .inl (z.2.2, 32, .inr (.inl fun _ => 0))), (q28, .inl (z.2.2, 11, .inr (.inl fun _ => 0)))] H := hP
  have hD : va_D A [(h, .inr (11, [.int 0, .ref q12, .ref q20, .ref q28, .int 0, .int 0, .int 0, .int 0, .int 0, .int 0, .long 0, .int 0, .int 0, .int 0, .int 0, .int 0])), (q12, .inl (z.2.1, 65536, .inl fun _ => 0)), (q20, .inl (z.2.2, 32, .inr (.inl fun _ => 0))), (q28, .inl (z.2.2, 11, .inr (.inl fun _ => 0)))] := hD
  refine lv_aload_n hx hb dX12_init_33 rfl (lv_at hl 0 rfl) ?_
  refine lv_iconst (v := 0) hx hb dX12_init_34 (by decide) ?_
  refine va_put (ci := 11) (v := .int 0) (C := RX12) (T := TX12) (N := 16) hx hb hts tw_X12 tyX12 tyX12_ok nmX12 hown hK hP hD hS 0 rfl rfl 4 (by decide) (hts _ tf_X12_25) (fun _ h9 => h9) rfl (t_ok_X12 4 (by decide)) rfl rfl (Nat.le_of_ble_eq_true rfl) dX12_init_35 (fun H locs hP hD hS => ?_)
  have hP : va_P z.1 vwCl [(h, .inr (11, [.int 0, .ref q12, .ref q20, .ref q28, .int 0, .int 0, .int 0, .int 0, .int 0, .int 0, .long 0, .int 0, .int 0, .int 0, .int 0, .int 0])), (q12, .inl (z.2.1, 65536, .inl fun _ => 0)), (q20, .inl (z.2.2, 32, .inr (.inl fun _ => 0))), (q28, .inl (z.2.2, 11, .inr (.inl fun _ => 0)))] H := hP
  have hD : va_D A [(h, .inr (11, [.int 0, .ref q12, .ref q20, .ref q28, .int 0, .int 0, .int 0, .int 0, .int 0, .int 0, .long 0, .int 0, .int 0, .int 0, .int 0, .int 0])), (q12, .inl (z.2.1, 65536, .inl fun _ => 0)), (q20, .inl (z.2.2, 32, .inr (.inl fun _ => 0))), (q28, .inl (z.2.2, 11, .inr (.inl fun _ => 0)))] := hD
  refine lv_aload_n hx hb dX12_init_38 rfl (lv_at hl 0 rfl) ?_
  refine lv_iconst (v := 1) hx hb dX12_init_39 (by decide) ?_
  refine va_put (ci := 11) (v := .int 1) (C := RX12) (T := TX12) (N := 16) hx hb hts tw_X12 tyX12 tyX12_ok nmX12 hown hK hP hD hS 0 rfl rfl 5 (by decide) (hts _ tf_X12_28) (fun _ h9 => h9) rfl (t_ok_X12 5 (by decide)) rfl rfl (Nat.le_of_ble_eq_true rfl) dX12_init_40 (fun H locs hP hD hS => ?_)
  have hP : va_P z.1 vwCl [(h, .inr (11, [.int 0, .ref q12, .ref q20, .ref q28, .int 0, .int 1, .int 0, .int 0, .int 0, .int 0, .long 0, .int 0, .int 0, .int 0, .int 0, .int 0])), (q12, .inl (z.2.1, 65536, .inl fun _ => 0)), (q20, .inl (z.2.2, 32, .inr (.inl fun _ => 0))), (q28, .inl (z.2.2, 11, .inr (.inl fun _ => 0)))] H := hP
  have hD : va_D A [(h, .inr (11, [.int 0, .ref q12, .ref q20, .ref q28, .int 0, .int 1, .int 0, .int 0, .int 0, .int 0, .long 0, .int 0, .int 0, .int 0, .int 0, .int 0])), (q12, .inl (z.2.1, 65536, .inl fun _ => 0)), (q20, .inl (z.2.2, 32, .inr (.inl fun _ => 0))), (q28, .inl (z.2.2, 11, .inr (.inl fun _ => 0)))] := hD
  refine lv_aload_n hx hb dX12_init_43 rfl (lv_at hl 0 rfl) ?_
  refine lv_iconst (v := 1) hx hb dX12_init_44 (by decide) ?_
  refine va_put (ci := 11) (v := .int 1) (C := RX12) (T := TX12) (N := 16) hx hb hts tw_X12 tyX12 tyX12_ok nmX12 hown hK hP hD hS 0 rfl rfl 6 (by decide) (hts _ tf_X12_31) (fun _ h9 => h9) rfl (t_ok_X12 6 (by decide)) rfl rfl (Nat.le_of_ble_eq_true rfl) dX12_init_45 (fun H locs hP hD hS => ?_)
  have hP : va_P z.1 vwCl [(h, .inr (11, [.int 0, .ref q12, .ref q20, .ref q28, .int 0, .int 1, .int 1, .int 0, .int 0, .int 0, .long 0, .int 0, .int 0, .int 0, .int 0, .int 0])), (q12, .inl (z.2.1, 65536, .inl fun _ => 0)), (q20, .inl (z.2.2, 32, .inr (.inl fun _ => 0))), (q28, .inl (z.2.2, 11, .inr (.inl fun _ => 0)))] H := hP
  have hD : va_D A [(h, .inr (11, [.int 0, .ref q12, .ref q20, .ref q28, .int 0, .int 1, .int 1, .int 0, .int 0, .int 0, .long 0, .int 0, .int 0, .int 0, .int 0, .int 0])), (q12, .inl (z.2.1, 65536, .inl fun _ => 0)), (q20, .inl (z.2.2, 32, .inr (.inl fun _ => 0))), (q28, .inl (z.2.2, 11, .inr (.inl fun _ => 0)))] := hD
  refine lv_aload_n hx hb dX12_init_48 rfl (lv_at hl 0 rfl) ?_
  refine lv_iconst (v := 1) hx hb dX12_init_49 (by decide) ?_
  refine va_put (ci := 11) (v := .int 1) (C := RX12) (T := TX12) (N := 16) hx hb hts tw_X12 tyX12 tyX12_ok nmX12 hown hK hP hD hS 0 rfl rfl 7 (by decide) (hts _ tf_X12_34) (fun _ h9 => h9) rfl (t_ok_X12 7 (by decide)) rfl rfl (Nat.le_of_ble_eq_true rfl) dX12_init_50 (fun H locs hP hD hS => ?_)
  have hP : va_P z.1 vwCl [(h, .inr (11, [.int 0, .ref q12, .ref q20, .ref q28, .int 0, .int 1, .int 1, .int 1, .int 0, .int 0, .long 0, .int 0, .int 0, .int 0, .int 0, .int 0])), (q12, .inl (z.2.1, 65536, .inl fun _ => 0)), (q20, .inl (z.2.2, 32, .inr (.inl fun _ => 0))), (q28, .inl (z.2.2, 11, .inr (.inl fun _ => 0)))] H := hP
  have hD : va_D A [(h, .inr (11, [.int 0, .ref q12, .ref q20, .ref q28, .int 0, .int 1, .int 1, .int 1, .int 0, .int 0, .long 0, .int 0, .int 0, .int 0, .int 0, .int 0])), (q12, .inl (z.2.1, 65536, .inl fun _ => 0)), (q20, .inl (z.2.2, 32, .inr (.inl fun _ => 0))), (q28, .inl (z.2.2, 11, .inr (.inl fun _ => 0)))] := hD
  refine lv_aload_n hx hb dX12_init_53 rfl (lv_at hl 0 rfl) ?_
  refine lv_iconst (v := 0) hx hb dX12_init_54 (by decide) ?_
  refine va_put (ci := 11) (v := .int 0) (C := RX12) (T := TX12) (N := 16) hx hb hts tw_X12 tyX12 tyX12_ok nmX12 hown hK hP hD hS 0 rfl rfl 8 (by decide) (hts _ tf_X12_37) (fun _ h9 => h9) rfl (t_ok_X12 8 (by decide)) (by decide +kernel) (by decide +kernel) (Nat.le_of_ble_eq_true rfl) dX12_init_55 (fun H locs hP hD hS => ?_)
  have hP : va_P z.1 vwCl [(h, .inr (11, [.int 0, .ref q12, .ref q20, .ref q28, .int 0, .int 1, .int 1, .int 1, .int 0, .int 0, .long 0, .int 0, .int 0, .int 0, .int 0, .int 0])), (q12, .inl (z.2.1, 65536, .inl fun _ => 0)), (q20, .inl (z.2.2, 32, .inr (.inl fun _ => 0))), (q28, .inl (z.2.2, 11, .inr (.inl fun _ => 0)))] H := hP
  have hD : va_D A [(h, .inr (11, [.int 0, .ref q12, .ref q20, .ref q28, .int 0, .int 1, .int 1, .int 1, .int 0, .int 0, .long 0, .int 0, .int 0, .int 0, .int 0, .int 0])), (q12, .inl (z.2.1, 65536, .inl fun _ => 0)), (q20, .inl (z.2.2, 32, .inr (.inl fun _ => 0))), (q28, .inl (z.2.2, 11, .inr (.inl fun _ => 0)))] := hD
  refine lv_aload_n hx hb dX12_init_58 rfl (lv_at hl 0 rfl) ?_
  refine lv_iconst (v := 0) hx hb dX12_init_59 (by decide) ?_
  refine va_put (ci := 11) (v := .int 0) (C := RX12) (T := TX12) (N := 16) hx hb hts tw_X12 tyX12 tyX12_ok nmX12 hown hK hP hD hS 0 rfl rfl 9 (by decide) (hts _ tf_X12_41) (fun _ h9 => h9) rfl (t_ok_X12 9 (by decide)) rfl rfl (Nat.le_of_ble_eq_true rfl) dX12_init_60 (fun H locs hP hD hS => ?_)
  have hP : va_P z.1 vwCl [(h, .inr (11, [.int 0, .ref q12, .ref q20, .ref q28, .int 0, .int 1, .int 1, .int 1, .int 0, .int 0, .long 0, .int 0, .int 0, .int 0, .int 0, .int 0])), (q12, .inl (z.2.1, 65536, .inl fun _ => 0)), (q20, .inl (z.2.2, 32, .inr (.inl fun _ => 0))), (q28, .inl (z.2.2, 11, .inr (.inl fun _ => 0)))] H := hP
  have hD : va_D A [(h, .inr (11, [.int 0, .ref q12, .ref q20, .ref q28, .int 0, .int 1, .int 1, .int 1, .int 0, .int 0, .long 0, .int 0, .int 0, .int 0, .int 0, .int 0])), (q12, .inl (z.2.1, 65536, .inl fun _ => 0)), (q20, .inl (z.2.2, 32, .inr (.inl fun _ => 0))), (q28, .inl (z.2.2, 11, .inr (.inl fun _ => 0)))] := hD
  refine lv_aload_n hx hb dX12_init_63 rfl (lv_at hl 0 rfl) ?_
  refine lv_lconst (v := 0) hx hb dX12_init_64 (by decide) ?_
  refine va_put (ci := 11) (v := .long 0) (C := RX12) (T := TX12) (N := 16) hx hb hts tw_X12 tyX12 tyX12_ok nmX12 hown hK hP hD hS 0 rfl rfl 10 (by decide) (hts _ tf_X12_44) (fun _ h9 => h9) rfl (t_ok_X12 10 (by decide)) rfl rfl (Nat.le_of_ble_eq_true rfl) dX12_init_65 (fun H locs hP hD hS => ?_)
  have hP : va_P z.1 vwCl [(h, .inr (11, [.int 0, .ref q12, .ref q20, .ref q28, .int 0, .int 1, .int 1, .int 1, .int 0, .int 0, .long 0, .int 0, .int 0, .int 0, .int 0, .int 0])), (q12, .inl (z.2.1, 65536, .inl fun _ => 0)), (q20, .inl (z.2.2, 32, .inr (.inl fun _ => 0))), (q28, .inl (z.2.2, 11, .inr (.inl fun _ => 0)))] H := hP
  have hD : va_D A [(h, .inr (11, [.int 0, .ref q12, .ref q20, .ref q28, .int 0, .int 1, .int 1, .int 1, .int 0, .int 0, .long 0, .int 0, .int 0, .int 0, .int 0, .int 0])), (q12, .inl (z.2.1, 65536, .inl fun _ => 0)), (q20, .inl (z.2.2, 32, .inr (.inl fun _ => 0))), (q28, .inl (z.2.2, 11, .inr (.inl fun _ => 0)))] := hD
  refine lv_aload_n hx hb dX12_init_68 rfl (lv_at hl 0 rfl) ?_
  refine lv_iconst (v := 0) hx hb dX12_init_69 (by decide) ?_
  refine va_put (ci := 11) (v := .int 0) (C := RX12) (T := TX12) (N := 16) hx hb hts tw_X12 tyX12 tyX12_ok nmX12 hown hK hP hD hS 0 rfl rfl 11 (by decide) (hts _ tf_X12_48) (fun _ h9 => h9) rfl (t_ok_X12 11 (by decide)) rfl rfl (Nat.le_of_ble_eq_true rfl) dX12_init_70 (fun H locs hP hD hS => ?_)
  have hP : va_P z.1 vwCl [(h, .inr (11, [.int 0, .ref q12, .ref q20, .ref q28, .int 0, .int 1, .int 1, .int 1, .int 0, .int 0, .long 0, .int 0, .int 0, .int 0, .int 0, .int 0])), (q12, .inl (z.2.1, 65536, .inl fun _ => 0)), (q20, .inl (z.2.2, 32, .inr (.inl fun _ => 0))), (q28, .inl (z.2.2, 11, .inr (.inl fun _ => 0)))] H := hP
  have hD : va_D A [(h, .inr (11, [.int 0, .ref q12, .ref q20, .ref q28, .int 0, .int 1, .int 1, .int 1, .int 0, .int 0, .long 0, .int 0, .int 0, .int 0, .int 0, .int 0])), (q12, .inl (z.2.1, 65536, .inl fun _ => 0)), (q20, .inl (z.2.2, 32, .inr (.inl fun _ => 0))), (q28, .inl (z.2.2, 11, .inr (.inl fun _ => 0)))] := hD
  refine lv_aload_n hx hb dX12_init_73 rfl (lv_at hl 0 rfl) ?_
  refine lv_iconst (v := 0) hx hb dX12_init_74 (by decide) ?_
  refine va_put (ci := 11) (v := .int 0) (C := RX12) (T := TX12) (N := 16) hx hb hts tw_X12 tyX12 tyX12_ok nmX12 hown hK hP hD hS 0 rfl rfl 12 (by decide) (hts _ tf_X12_51) (fun _ h9 => h9) rfl (t_ok_X12 12 (by decide)) rfl rfl (Nat.le_of_ble_eq_true rfl) dX12_init_75 (fun H locs hP hD hS => ?_)
  have hP : va_P z.1 vwCl [(h, .inr (11, [.int 0, .ref q12, .ref q20, .ref q28, .int 0, .int 1, .int 1, .int 1, .int 0, .int 0, .long 0, .int 0, .int 0, .int 0, .int 0, .int 0])), (q12, .inl (z.2.1, 65536, .inl fun _ => 0)), (q20, .inl (z.2.2, 32, .inr (.inl fun _ => 0))), (q28, .inl (z.2.2, 11, .inr (.inl fun _ => 0)))] H := hP
  have hD : va_D A [(h, .inr (11, [.int 0, .ref q12, .ref q20, .ref q28, .int 0, .int 1, .int 1, .int 1, .int 0, .int 0, .long 0, .int 0, .int 0, .int 0, .int 0, .int 0])), (q12, .inl (z.2.1, 65536, .inl fun _ => 0)), (q20, .inl (z.2.2, 32, .inr (.inl fun _ => 0))), (q28, .inl (z.2.2, 11, .inr (.inl fun _ => 0)))] := hD
  refine lv_aload_n hx hb dX12_init_78 rfl (lv_at hl 0 rfl) ?_
  refine lv_iconst (v := 0) hx hb dX12_init_79 (by decide) ?_
  refine va_put (ci := 11) (v := .int 0) (C := RX12) (T := TX12) (N := 16) hx hb hts tw_X12 tyX12 tyX12_ok nmX12 hown hK hP hD hS 0 rfl rfl 13 (by decide) (hts _ tf_X12_54) (fun _ h9 => h9) rfl (t_ok_X12 13 (by decide)) rfl rfl (Nat.le_of_ble_eq_true rfl) dX12_init_80 (fun H locs hP hD hS => ?_)
  have hP : va_P z.1 vwCl [(h, .inr (11, [.int 0, .ref q12, .ref q20, .ref q28, .int 0, .int 1, .int 1, .int 1, .int 0, .int 0, .long 0, .int 0, .int 0, .int 0, .int 0, .int 0])), (q12, .inl (z.2.1, 65536, .inl fun _ => 0)), (q20, .inl (z.2.2, 32, .inr (.inl fun _ => 0))), (q28, .inl (z.2.2, 11, .inr (.inl fun _ => 0)))] H := hP
  have hD : va_D A [(h, .inr (11, [.int 0, .ref q12, .ref q20, .ref q28, .int 0, .int 1, .int 1, .int 1, .int 0, .int 0, .long 0, .int 0, .int 0, .int 0, .int 0, .int 0])), (q12, .inl (z.2.1, 65536, .inl fun _ => 0)), (q20, .inl (z.2.2, 32, .inr (.inl fun _ => 0))), (q28, .inl (z.2.2, 11, .inr (.inl fun _ => 0)))] := hD
  refine lv_aload_n hx hb dX12_init_83 rfl (lv_at hl 0 rfl) ?_
  refine lv_iconst (v := 0) hx hb dX12_init_84 (by decide) ?_
  refine va_put (ci := 11) (v := .int 0) (C := RX12) (T := TX12) (N := 16) hx hb hts tw_X12 tyX12 tyX12_ok nmX12 hown hK hP hD hS 0 rfl rfl 14 (by decide) (hts _ tf_X12_57) (fun _ h9 => h9) rfl (t_ok_X12 14 (by decide)) rfl rfl (Nat.le_of_ble_eq_true rfl) dX12_init_85 (fun H locs hP hD hS => ?_)
  have hP : va_P z.1 vwCl [(h, .inr (11, [.int 0, .ref q12, .ref q20, .ref q28, .int 0, .int 1, .int 1, .int 1, .int 0, .int 0, .long 0, .int 0, .int 0, .int 0, .int 0, .int 0])), (q12, .inl (z.2.1, 65536, .inl fun _ => 0)), (q20, .inl (z.2.2, 32, .inr (.inl fun _ => 0))), (q28, .inl (z.2.2, 11, .inr (.inl fun _ => 0)))] H := hP
  have hD : va_D A [(h, .inr (11, [.int 0, .ref q12, .ref q20, .ref q28, .int 0, .int 1, .int 1, .int 1, .int 0, .int 0, .long 0, .int 0, .int 0, .int 0, .int 0, .int 0])), (q12, .inl (z.2.1, 65536, .inl fun _ => 0)), (q20, .inl (z.2.2, 32, .inr (.inl fun _ => 0))), (q28, .inl (z.2.2, 11, .inr (.inl fun _ => 0)))] := hD
  refine lv_aload_n hx hb dX12_init_88 rfl (lv_at hl 0 rfl) ?_
  refine lv_iconst (v := 0) hx hb dX12_init_89 (by decide) ?_
  refine va_put (ci := 11) (v := .int 0) (C := RX12) (T := TX12) (N := 16) hx hb hts tw_X12 tyX12 tyX12_ok nmX12 hown hK hP hD hS 0 rfl rfl 15 (by decide) (hts _ tf_X12_60) (fun _ h9 => h9) rfl (t_ok_X12 15 (by decide)) (by decide +kernel) (by decide +kernel) (Nat.le_of_ble_eq_true rfl) dX12_init_90 (fun H locs hP hD hS => ?_)
  have hP : va_P z.1 vwCl [(h, .inr (11, [.int 0, .ref q12, .ref q20, .ref q28, .int 0, .int 1, .int 1, .int 1, .int 0, .int 0, .long 0, .int 0, .int 0, .int 0, .int 0, .int 0])), (q12, .inl (z.2.1, 65536, .inl fun _ => 0)), (q20, .inl (z.2.2, 32, .inr (.inl fun _ => 0))), (q28, .inl (z.2.2, 11, .inr (.inl fun _ => 0)))] H := hP
  have hD : va_D A [(h, .inr (11, [.int 0, .ref q12, .ref q20, .ref q28, .int 0, .int 1, .int 1, .int 1, .int 0, .int 0, .long 0, .int 0, .int 0, .int 0, .int 0, .int 0])), (q12, .inl (z.2.1, 65536, .inl fun _ => 0)), (q20, .inl (z.2.2, 32, .inr (.inl fun _ => 0))), (q28, .inl (z.2.2, 11, .inr (.inl fun _ => 0)))] := hD
  have hP9 := hP.sub (ws' := [(h, .inr (11, [.int 0, .ref q12, .ref q20, .ref q28, .int 0, .int 1, .int 1, .int 1, .int 0, .int 0, .long 0, .int 0, .int 0, .int 0, .int 0, .int 0])), (q12, .inl (z.2.1, 65536, .inl fun _ => 0)), (q20, .inl (z.2.2, 32, .inr (.inl fun _ => 0))), (q28, .inl (z.2.2, 11, .inr (.inl fun _ => 0)))]) [0, 1, 2, 3] rfl
  have hD9 := hD.sub (ws' := [(h, .inr (11, [.int 0, .ref q12, .ref q20, .ref q28, .int 0, .int 1, .int 1, .int 1, .int 0, .int 0, .long 0, .int 0, .int 0, .int 0, .int 0, .int 0])), (q12, .inl (z.2.1, 65536, .inl fun _ => 0)), (q20, .inl (z.2.2, 32, .inr (.inl fun _ => 0))), (q28, .inl (z.2.2, 11, .inr (.inl fun _ => 0)))]) [0, 1, 2, 3] (by decide) rfl
  exact hend _ H locs 93 ls ⟨fun k => ([h, q12, q20, q28] : List Nat).getD k 0, rfl, rfl⟩ hP9 hD9 hS dX12_init_93
