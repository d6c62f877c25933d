theorem dX12_sum_0 : decode cX12_sum 0 = .ok (.lconst 0, 1) := by decide +kernel
theorem dX12_sum_1 : decode cX12_sum 1 = .ok (.lstore 7, 2) := by decide +kernel
theorem dX12_sum_3 : decode cX12_sum 3 = .ok (.iload 5, 2) := by decide +kernel
theorem dX12_sum_5 : decode cX12_sum 5 = .ok (.istore 9, 2) := by decide +kernel
theorem dX12_sum_7 : decode cX12_sum 7 = .ok (.iload 5, 2) := by decide +kernel
theorem dX12_sum_9 : decode cX12_sum 9 = .ok (.istore 10, 2) := by decide +kernel
theorem dX12_sum_11 : decode cX12_sum 11 = .ok (.iconst 0, 1) := by decide +kernel
theorem dX12_sum_12 : decode cX12_sum 12 = .ok (.istore 11, 2) := by decide +kernel
theorem dX12_sum_14 : decode cX12_sum 14 = .ok (.iload 11, 2) := by decide +kernel
theorem dX12_sum_16 : decode cX12_sum 16 = .ok (.iload 6, 2) := by decide +kernel
theorem dX12_sum_18 : decode cX12_sum 18 = .ok (.if_icmp .ge 52, 3) := by decide +kernel
theorem dX12_sum_21 : decode cX12_sum 21 = .ok (.iload 9, 2) := by decide +kernel
theorem dX12_sum_23 : decode cX12_sum 23 = .ok (.istore 10, 2) := by decide +kernel
theorem dX12_sum_25 : decode cX12_sum 25 = .ok (.lload_n 1, 1) := by decide +kernel
theorem dX12_sum_26 : decode cX12_sum 26 = .ok (.iload 11, 2) := by decide +kernel
theorem dX12_sum_28 : decode cX12_sum 28 = .ok (.lshr, 1) := by decide +kernel
theorem dX12_sum_29 : decode cX12_sum 29 = .ok (.lconst 1, 1) := by decide +kernel
theorem dX12_sum_30 : decode cX12_sum 30 = .ok (.land, 1) := by decide +kernel
theorem dX12_sum_31 : decode cX12_sum 31 = .ok (.l2i, 1) := by decide +kernel
theorem dX12_sum_32 : decode cX12_sum 32 = .ok (.lload_n 3, 1) := by decide +kernel
theorem dX12_sum_33 : decode cX12_sum 33 = .ok (.iload 11, 2) := by decide +kernel
theorem dX12_sum_35 : decode cX12_sum 35 = .ok (.lshr, 1) := by decide +kernel
theorem dX12_sum_36 : decode cX12_sum 36 = .ok (.lconst 1, 1) := by decide +kernel
theorem dX12_sum_37 : decode cX12_sum 37 = .ok (.land, 1) := by decide +kernel
theorem dX12_sum_38 : decode cX12_sum 38 = .ok (.l2i, 1) := by decide +kernel
theorem dX12_sum_39 : decode cX12_sum 39 = .ok (.iadd, 1) := by decide +kernel
theorem dX12_sum_40 : decode cX12_sum 40 = .ok (.iload 9, 2) := by decide +kernel
theorem dX12_sum_42 : decode cX12_sum 42 = .ok (.iadd, 1) := by decide +kernel
theorem dX12_sum_43 : decode cX12_sum 43 = .ok (.istore 12, 2) := by decide +kernel
theorem dX12_sum_45 : decode cX12_sum 45 = .ok (.lload 7, 2) := by decide +kernel
theorem dX12_sum_47 : decode cX12_sum 47 = .ok (.iload 12, 2) := by decide +kernel
theorem dX12_sum_49 : decode cX12_sum 49 = .ok (.iconst 1, 1) := by decide +kernel
theorem dX12_sum_50 : decode cX12_sum 50 = .ok (.iand, 1) := by decide +kernel
theorem dX12_sum_51 : decode cX12_sum 51 = .ok (.i2l, 1) := by decide +kernel
theorem dX12_sum_52 : decode cX12_sum 52 = .ok (.iload 11, 2) := by decide +kernel
theorem dX12_sum_54 : decode cX12_sum 54 = .ok (.lshl, 1) := by decide +kernel
theorem dX12_sum_55 : decode cX12_sum 55 = .ok (.lor, 1) := by decide +kernel
theorem dX12_sum_56 : decode cX12_sum 56 = .ok (.lstore 7, 2) := by decide +kernel
theorem dX12_sum_58 : decode cX12_sum 58 = .ok (.iload 12, 2) := by decide +kernel
theorem dX12_sum_60 : decode cX12_sum 60 = .ok (.iconst 1, 1) := by decide +kernel
theorem dX12_sum_61 : decode cX12_sum 61 = .ok (.ishr, 1) := by decide +kernel
theorem dX12_sum_62 : decode cX12_sum 62 = .ok (.istore 9, 2) := by decide +kernel
theorem dX12_sum_64 : decode cX12_sum 64 = .ok (.iinc 11 1, 3) := by decide +kernel
theorem dX12_sum_67 : decode cX12_sum 67 = .ok (.goto (-53), 3) := by decide +kernel
theorem dX12_sum_70 : decode cX12_sum 70 = .ok (.aload_n 0, 1) := by decide +kernel
theorem dX12_sum_71 : decode cX12_sum 71 = .ok (.iload 9, 2) := by decide +kernel
theorem dX12_sum_73 : decode cX12_sum 73 = .ok (.putfield 51, 3) := by decide +kernel
theorem dX12_sum_76 : decode cX12_sum 76 = .ok (.aload_n 0, 1) := by decide +kernel
theorem dX12_sum_77 : decode cX12_sum 77 = .ok (.iload 9, 2) := by decide +kernel
theorem dX12_sum_79 : decode cX12_sum 79 = .ok (.iload 10, 2) := by decide +kernel
theorem dX12_sum_81 : decode cX12_sum 81 = .ok (.ixor, 1) := by decide +kernel
theorem dX12_sum_82 : decode cX12_sum 82 = .ok (.putfield 54, 3) := by decide +kernel
theorem dX12_sum_85 : decode cX12_sum 85 = .ok (.lload 7, 2) := by decide +kernel
theorem dX12_sum_87 : decode cX12_sum 87 = .ok (.lreturn, 1) := by decide +kernel
def F_X12_sum_c64 (k : MS → Int64 → Int64 → Int32 → Int32 → Int64 → Int32 → Int32 → Int32 → Option (Int64 × MS)) (τ : MS) (a0 : Int64) (a1 : Int64) (a2 : Int32) (a3 : Int32) (w7 : Int64) (w9 : Int32) (w10 : Int32) (w11 : Int32) : Option (Int64 × MS) := (k τ a0 a1 a2 a3 w7 w9 w10 (w11 + (1)))
def F_X12_sum_c45 (k : MS → Int64 → Int64 → Int32 → Int32 → Int64 → Int32 → Int32 → Int32 → Option (Int64 × MS)) (τ : MS) (a0 : Int64) (a1 : Int64) (a2 : Int32) (a3 : Int32) (w7 : Int64) (w10 : Int32) (w11 : Int32) (w12 : Int32) : Option (Int64 × MS) := (F_X12_sum_c64 k τ a0 a1 a2 a3 (w7 ||| (j_lshl (w12 &&& (1 : Int32)).toInt64 w11)) (w12 >>> ((1 : Int32) &&& 31)) w10 w11)
def F_X12_sum_c14 : Nat → MS → Int64 → Int64 → Int32 → Int32 → Int64 → Int32 → Int32 → Int32 → Option (Int64 × MS)
  | 0, _, _, _, _, _, _, _, _, _ => none
  | n + 1, τ, a0, a1, a2, a3, w7, w9, w10, w11 => (if a3 ≤ w11 then some ((w7, (mu_over (mu_carry τ w9) (w9 ^^^ w10)))) else (F_X12_sum_c45 (F_X12_sum_c14 n) τ a0 a1 a2 a3 w7 w9 w11 ((((j_lshr a0 w11) &&& (1 : Int64)).toInt32 + ((j_lshr a1 w11) &&& (1 : Int64)).toInt32) + w9)))
def F_X12_sum (σ : MS) (a0 : Int64) (a1 : Int64) (a2 : Int32) (a3 : Int32) : Option (Int64 × MS) := (F_X12_sum_c14 70 σ a0 a1 a2 a3 (0 : Int64) a2 a2 (0 : Int32))
set_option maxHeartbeats 4000000 in
set_option maxRecDepth 100000 in
theorem c_X12_sum (l : Launch) (z : Cx) (r : Nat → Nat) (σ : MS) (a0 : Int64) (a1 : Int64) (a2 : Int32) (a3 : Int32) (sz : Nat) (res : Int64 × MS) (hf : F_X12_sum σ a0 a1 a2 a3 = some res) : Met l yX12_sum (wsC yX12_sum cX12_sum 13 (some .long)) { frames := 0, cells := 0, slots := 0, locals := 0 } (mPc z (mW z r σ) sz [.ref (r 0), .long a0, .long a1, .int a2, .int a3]) (gM z (va_A (mW z r σ) sz) (some (.long res.1)) (mW z r res.2)) 0 0 (va_A (mW z r σ) sz) := by
  refine mk_m_l (own := RX12) (wf := mW z r) (by decide) rfl sz _ (Nat.le_of_ble_eq_true rfl) (fun p e s m below meth c A H locs Q ls S hK hA hP hD hS hl hend => ?_)
  have hx := S.1
  have hb := S.2.1
  have hown := S.2.2.2.1
  have hts := S.2.2.2.2
  have hl : lv_has ls 13 [(0, .ref (r 0)), (1, .long a0), (3, .long a1), (5, .int a2), (6, .int a3)] := hl
  have J_c14 : ∀ (n : Nat) (τ : MS) (w7 : Int64) (w9 : Int32) (w10 : Int32) (w11 : Int32) (H : Heap) (locs : List Loc) (ls : Array Slot), F_X12_sum_c14 n τ a0 a1 a2 a3 w7 w9 w10 w11 = some res → va_P z.1 vwCl (mW z r τ) H → va_D A (mW z r τ) → va_S A s.heap H locs → lv_has ls 13 [(0, .ref (r 0)), (1, .long a0), (3, .long a1), (6, .int a3), (7, .long w7), (9, .int w9), (10, .int w10), (11, .int w11)] → W p l e { frames := 0, cells := 0, slots := 0, locals := 0 } s m ([.ref (r 0), .long a0, .long a1, .int a2, .int a3] : List Value).toArray below meth c H locs 0 0 Q (F0 m 14 ls []) := by
    intro n
    induction n with
    | zero => intro τ w7 w9 w10 w11 H locs ls hf; rw [F_X12_sum_c14] at hf; cases hf
    | succ n ih =>
      have J_c64 : ∀ (τ : MS) (w7 : Int64) (w9 : Int32) (w10 : Int32) (w11 : Int32) (H : Heap) (locs : List Loc) (ls : Array Slot), F_X12_sum_c64 (F_X12_sum_c14 n) τ a0 a1 a2 a3 w7 w9 w10 w11 = some res → va_P z.1 vwCl (mW z r τ) H → va_D A (mW z r τ) → va_S A s.heap H locs → lv_has ls 13 [(0, .ref (r 0)), (1, .long a0), (3, .long a1), (6, .int a3), (7, .long w7), (9, .int w9), (10, .int w10), (11, .int w11)] → W p l e { frames := 0, cells := 0, slots := 0, locals := 0 } s m ([.ref (r 0), .long a0, .long a1, .int a2, .int a3] : List Value).toArray below meth c H locs 0 0 Q (F0 m 64 ls []) := by
        intro τ w7 w9 w10 w11 H locs ls hf hP hD hS hl
        unfold F_X12_sum_c64 at hf
        refine lv_iinc (v := w11 + (1)) (lv' := [(11, .int (w11 + (1))), (0, .ref (r 0)), (1, .long a0), (3, .long a1), (6, .int a3), (7, .long w7), (9, .int w9), (10, .int w10)]) hx hb dX12_sum_64 hl (k := 7) rfl rfl (by decide) rfl (fun ls hl => ?_)
        refine lv_goto (tgt := 14) hx hb dX12_sum_67 (by decide) ?_
        exact ih τ w7 w9 w10 (w11 + (1)) H locs ls hf hP hD hS (lv_sub hl [1, 2, 3, 4, 5, 6, 7, 0] rfl)
      have J_c45 : ∀ (τ : MS) (w7 : Int64) (w10 : Int32) (w11 : Int32) (w12 : Int32) (H : Heap) (locs : List Loc) (ls : Array Slot), F_X12_sum_c45 (F_X12_sum_c14 n) τ a0 a1 a2 a3 w7 w10 w11 w12 = some res → va_P z.1 vwCl (mW z r τ) H → va_D A (mW z r τ) → va_S A s.heap H locs → lv_has ls 13 [(0, .ref (r 0)), (1, .long a0), (3, .long a1), (6, .int a3), (7, .long w7), (10, .int w10), (11, .int w11), (12, .int w12)] → W p l e { frames := 0, cells := 0, slots := 0, locals := 0 } s m ([.ref (r 0), .long a0, .long a1, .int a2, .int a3] : List Value).toArray below meth c H locs 0 0 Q (F0 m 45 ls []) := by
        intro τ w7 w10 w11 w12 H locs ls hf hP hD hS hl
        unfold F_X12_sum_c45 at hf
        refine lv_lload hx hb dX12_sum_45 (lv_at hl 4 rfl) ?_
        refine lv_iload hx hb dX12_sum_47 (lv_at hl 7 rfl) ?_
        refine lv_iconst (v := 1) hx hb dX12_sum_49 (by decide) ?_
        refine lv_iand hx hb dX12_sum_50 ?_
        refine lv_i2l hx hb dX12_sum_51 rfl ?_
        refine lv_iload hx hb dX12_sum_52 (lv_at hl 6 rfl) ?_
        refine lv_lshl (v := (j_lshl (w12 &&& (1 : Int32)).toInt64 w11)) hx hb dX12_sum_54 rfl ?_
        refine lv_lor hx hb dX12_sum_55 ?_
        refine lv_lstore (lv' := [(7, .long (w7 ||| (j_lshl (w12 &&& (1 : Int32)).toInt64 w11))), (0, .ref (r 0)), (1, .long a0), (3, .long a1), (6, .int a3), (10, .int w10), (11, .int w11), (12, .int w12)]) hx hb dX12_sum_56 hl (by decide) rfl (fun ls hl => ?_)
        refine lv_iload hx hb dX12_sum_58 (lv_at hl 7 rfl) ?_
        refine lv_iconst (v := 1) hx hb dX12_sum_60 (by decide) ?_
        refine lv_ishr hx hb dX12_sum_61 ?_
        refine lv_istore (lv' := [(9, .int (w12 >>> ((1 : Int32) &&& 31))), (7, .long (w7 ||| (j_lshl (w12 &&& (1 : Int32)).toInt64 w11))), (0, .ref (r 0)), (1, .long a0), (3, .long a1), (6, .int a3), (10, .int w10), (11, .int w11), (12, .int w12)]) hx hb dX12_sum_62 hl (by decide) rfl (fun ls hl => ?_)
        exact J_c64 τ (w7 ||| (j_lshl (w12 &&& (1 : Int32)).toInt64 w11)) (w12 >>> ((1 : Int32) &&& 31)) w10 w11 H locs ls hf hP hD hS (lv_sub hl [2, 3, 4, 5, 1, 0, 6, 7] rfl)
      intro τ w7 w9 w10 w11 H locs ls hf hP hD hS hl
      rw [F_X12_sum_c14] at hf
      refine lv_iload hx hb dX12_sum_14 (lv_at hl 7 rfl) ?_
      refine lv_iload hx hb dX12_sum_16 (lv_at hl 3 rfl) ?_
      refine lv_icmp_ge (tgt := 70) hx hb dX12_sum_18 (by decide) (fun c_18 => ?_) (fun c_18 => ?_)
      · rw [if_pos c_18] at hf
        refine lv_aload_n hx hb dX12_sum_70 rfl (lv_at hl 0 rfl) ?_
        refine lv_iload hx hb dX12_sum_71 (lv_at hl 5 rfl) ?_
        refine fp_X12_carry (v := w9) S hK hP hD hS tf_X12_51 dX12_sum_73 (fun H locs hP hD hS => ?_)
        refine lv_aload_n hx hb dX12_sum_76 rfl (lv_at hl 0 rfl) ?_
        refine lv_iload hx hb dX12_sum_77 (lv_at hl 5 rfl) ?_
        refine lv_iload hx hb dX12_sum_79 (lv_at hl 6 rfl) ?_
        refine lv_ixor hx hb dX12_sum_81 ?_
        refine fp_X12_over (v := (w9 ^^^ w10)) S hK hP hD hS tf_X12_54 dX12_sum_82 (fun H locs hP hD hS => ?_)
        refine lv_lload hx hb dX12_sum_85 (lv_at hl 4 rfl) ?_
        exact hend w7 (mu_over (mu_carry τ w9) (w9 ^^^ w10)) H locs 87 ls (Option.some.inj hf) hP hD hS dX12_sum_87
      · rw [if_neg c_18] at hf
        refine lv_iload hx hb dX12_sum_21 (lv_at hl 5 rfl) ?_
        refine lv_istore (lv' := [(10, .int w9), (0, .ref (r 0)), (1, .long a0), (3, .long a1), (6, .int a3), (7, .long w7), (9, .int w9), (11, .int w11)]) hx hb dX12_sum_23 hl (by decide) rfl (fun ls hl => ?_)
        refine lv_lload_n hx hb dX12_sum_25 rfl (lv_at hl 2 rfl) ?_
        refine lv_iload hx hb dX12_sum_26 (lv_at hl 7 rfl) ?_
        refine lv_lshr (v := (j_lshr a0 w11)) hx hb dX12_sum_28 rfl ?_
        refine lv_lconst (v := 1) hx hb dX12_sum_29 (by decide) ?_
        refine lv_land hx hb dX12_sum_30 ?_
        refine lv_l2i hx hb dX12_sum_31 rfl ?_
        refine lv_lload_n hx hb dX12_sum_32 rfl (lv_at hl 3 rfl) ?_
        refine lv_iload hx hb dX12_sum_33 (lv_at hl 7 rfl) ?_
        refine lv_lshr (v := (j_lshr a1 w11)) hx hb dX12_sum_35 rfl ?_
        refine lv_lconst (v := 1) hx hb dX12_sum_36 (by decide) ?_
        refine lv_land hx hb dX12_sum_37 ?_
        refine lv_l2i hx hb dX12_sum_38 rfl ?_
        refine lv_iadd hx hb dX12_sum_39 ?_
        refine lv_iload hx hb dX12_sum_40 (lv_at hl 6 rfl) ?_
        refine lv_iadd hx hb dX12_sum_42 ?_
        refine lv_istore (lv' := [(12, .int ((((j_lshr a0 w11) &&& (1 : Int64)).toInt32 + ((j_lshr a1 w11) &&& (1 : Int64)).toInt32) + w9)), (10, .int w9), (0, .ref (r 0)), (1, .long a0), (3, .long a1), (6, .int a3), (7, .long w7), (9, .int w9), (11, .int w11)]) hx hb dX12_sum_43 hl (by decide) rfl (fun ls hl => ?_)
        exact J_c45 τ w7 w9 w11 ((((j_lshr a0 w11) &&& (1 : Int64)).toInt32 + ((j_lshr a1 w11) &&& (1 : Int64)).toInt32) + w9) H locs ls hf hP hD hS (lv_sub hl [2, 3, 4, 5, 6, 1, 8, 0] rfl)
  unfold F_X12_sum at hf
  refine lv_lconst (v := 0) hx hb dX12_sum_0 (by decide) ?_
  refine lv_lstore (lv' := [(7, .long (0 : Int64)), (0, .ref (r 0)), (1, .long a0), (3, .long a1), (5, .int a2), (6, .int a3)]) hx hb dX12_sum_1 hl (by decide) rfl (fun ls hl => ?_)
  refine lv_iload hx hb dX12_sum_3 (lv_at hl 4 rfl) ?_
  refine lv_istore (lv' := [(9, .int a2), (7, .long (0 : Int64)), (0, .ref (r 0)), (1, .long a0), (3, .long a1), (5, .int a2), (6, .int a3)]) hx hb dX12_sum_5 hl (by decide) rfl (fun ls hl => ?_)
  refine lv_iload hx hb dX12_sum_7 (lv_at hl 5 rfl) ?_
  refine lv_istore (lv' := [(10, .int a2), (9, .int a2), (7, .long (0 : Int64)), (0, .ref (r 0)), (1, .long a0), (3, .long a1), (5, .int a2), (6, .int a3)]) hx hb dX12_sum_9 hl (by decide) rfl (fun ls hl => ?_)
  refine lv_iconst (v := 0) hx hb dX12_sum_11 (by decide) ?_
  refine lv_istore (lv' := [(11, .int (0 : Int32)), (10, .int a2), (9, .int a2), (7, .long (0 : Int64)), (0, .ref (r 0)), (1, .long a0), (3, .long a1), (5, .int a2), (6, .int a3)]) hx hb dX12_sum_12 hl (by decide) rfl (fun ls hl => ?_)
  exact J_c14 70 σ (0 : Int64) a2 a2 (0 : Int32) H locs ls hf hP hD hS (lv_sub hl [4, 5, 6, 8, 3, 2, 1, 0] rfl)
theorem k_X12_sum {p : Program} {l : Launch} {e : Env} {R : Room} {s : State} {m : MethodId} {args : Array Value} {below : List Frame} {meth : Method} {c : Code} {H : Heap} {locs : List Loc} {Q : State → Prop} {cc : ByteArray} {pc : Nat} {ls : Array Slot} {rest : List Value} {own : String} {index nL : Nat} {A : Nat → Prop} {z : Cx} {r : Nat → Nat} {σ : MS} {a0 : Int64} {a1 : Int64} {a2 : Int32} {a3 : Int32} {res : Int64 × MS} (hres : F_X12_sum σ a0 a1 a2 a3 = some res) (S : CallFix p m c cc nL s args tbG own) (hK : va_K z.1 vwCl (cxT z) s) (hA : ∀ q, s.heap.size ≤ q → A q) (hP : va_P z.1 vwCl (mW z r σ) H) (hD : va_D A (mW z r σ)) (hS : va_S A s.heap H locs) (hl : Cond.methodLink own index yX12_sum ∈ tbG) (hR : 0 + 1 ≤ R.frames ∧ 8 + (13 + 11) + 0 ≤ R.locals) (hsz : ls.size = nL) (hcat : (rest.map fun v => v.category).sum ≤ 8) (hdg : decode cc pc = .ok (.invokevirtual index, 3)) (kk : ∀ (H : Heap) (locs : List Loc), va_P z.1 vwCl (mW z r res.2) H → va_D A (mW z r res.2) → va_S A s.heap H locs → W p l e R s m args below meth c H locs 0 0 Q (F0 m (pc + 3) ls (.long res.1 :: rest))) : W p l e R s m args below meth c H locs 0 0 Q (F0 m pc ls (.int a3 :: .int a2 :: .long a1 :: .long a0 :: .ref (r 0) :: rest)) :=
  km (As := [.long a0, .long a1, .int a2, .int a3]) (ov := some (.long res.1)) (w' := mW z r res.2) (q0 := 0) (ci := 11) S hK hA hP hD hS (c_X12_sum l z r σ a0 a1 a2 a3 H.size _ hres) ⟨tb_cB 4 S.2.2.2.2 tc_X12_sum ti_X12 hl rfl rfl (by decide +kernel) hR, S.2.2.2.2 _ tm_X12_sum, S.2.2.2.2 _ te_X12_sum⟩ rfl rfl rfl rfl hsz rfl hcat hdg kk

theorem dX12_signs_0 : decode cX12_signs 0 = .ok (.iconst 0, 1) := by decide +kernel
theorem dX12_signs_1 : decode cX12_signs 1 = .ok (.istore 6, 2) := by decide +kernel
theorem dX12_signs_3 : decode cX12_signs 3 = .ok (.lload_n 1, 1) := by decide +kernel
theorem dX12_signs_4 : decode cX12_signs 4 = .ok (.iload_n 3, 1) := by decide +kernel
theorem dX12_signs_5 : decode cX12_signs 5 = .ok (.iconst 1, 1) := by decide +kernel
theorem dX12_signs_6 : decode cX12_signs 6 = .ok (.isub, 1) := by decide +kernel
theorem dX12_signs_7 : decode cX12_signs 7 = .ok (.invokestatic 68, 3) := by decide +kernel
theorem dX12_signs_10 : decode cX12_signs 10 = .ok (.ifCond .eq 7, 3) := by decide +kernel
theorem dX12_signs_13 : decode cX12_signs 13 = .ok (.bipush 8, 2) := by decide +kernel
theorem dX12_signs_15 : decode cX12_signs 15 = .ok (.istore 6, 2) := by decide +kernel
theorem dX12_signs_17 : decode cX12_signs 17 = .ok (.lload_n 1, 1) := by decide +kernel
theorem dX12_signs_18 : decode cX12_signs 18 = .ok (.lconst 0, 1) := by decide +kernel
theorem dX12_signs_19 : decode cX12_signs 19 = .ok (.lcmp, 1) := by decide +kernel
theorem dX12_signs_20 : decode cX12_signs 20 = .ok (.ifCond .ne 6, 3) := by decide +kernel
theorem dX12_signs_23 : decode cX12_signs 23 = .ok (.iinc 6 4, 3) := by decide +kernel
theorem dX12_signs_26 : decode cX12_signs 26 = .ok (.aload_n 0, 1) := by decide +kernel
theorem dX12_signs_27 : decode cX12_signs 27 = .ok (.iload 6, 2) := by decide +kernel
theorem dX12_signs_29 : decode cX12_signs 29 = .ok (.iconst 2, 1) := by decide +kernel
theorem dX12_signs_30 : decode cX12_signs 30 = .ok (.iload 4, 2) := by decide +kernel
theorem dX12_signs_32 : decode cX12_signs 32 = .ok (.imul, 1) := by decide +kernel
theorem dX12_signs_33 : decode cX12_signs 33 = .ok (.iadd, 1) := by decide +kernel
theorem dX12_signs_34 : decode cX12_signs 34 = .ok (.iload 5, 2) := by decide +kernel
theorem dX12_signs_36 : decode cX12_signs 36 = .ok (.iadd, 1) := by decide +kernel
theorem dX12_signs_37 : decode cX12_signs 37 = .ok (.putfield 25, 3) := by decide +kernel
theorem dX12_signs_40 : decode cX12_signs 40 = .ok (.return_, 1) := by decide +kernel
def F_X12_signs_c26 (τ : MS) (a0 : Int64) (a1 : Int32) (a2 : Int32) (a3 : Int32) (w6 : Int32) : MS := (mu_flags τ ((w6 + ((2 : Int32) * a2)) + a3))
def F_X12_signs_c17 (τ : MS) (a0 : Int64) (a1 : Int32) (a2 : Int32) (a3 : Int32) (w6 : Int32) : MS := (if a0 = (0 : Int64) then (F_X12_signs_c26 τ a0 a1 a2 a3 (w6 + (4))) else (F_X12_signs_c26 τ a0 a1 a2 a3 w6))
def F_X12_signs (σ : MS) (a0 : Int64) (a1 : Int32) (a2 : Int32) (a3 : Int32) : MS := (if (F_X12_bit a0 (a1 - (1 : Int32))) = true then (F_X12_signs_c17 σ a0 a1 a2 a3 (8 : Int32)) else (F_X12_signs_c17 σ a0 a1 a2 a3 (0 : Int32)))
set_option maxHeartbeats 4000000 in
set_option maxRecDepth 100000 in
theorem c_X12_signs (l : Launch) (z : Cx) (r : Nat → Nat) (σ : MS) (a0 : Int64) (a1 : Int32) (a2 : Int32) (a3 : Int32) (sz : Nat) (res : MS) (hf : F_X12_signs σ a0 a1 a2 a3 = res) : Met l yX12_signs (wsC yX12_signs cX12_signs 7 none) { frames := 1, cells := 0, slots := 0, locals := 22 } (mPc z (mW z r σ) sz [.ref (r 0), .long a0, .int a1, .int a2, .int a3]) (gM z (va_A (mW z r σ) sz) none (mW z r res)) 0 0 (va_A (mW z r σ) sz) := by
  refine mk_m_v (own := RX12) (wf := mW z r) (by decide) rfl sz _ (Nat.le_of_ble_eq_true rfl) (fun p e s m below meth c A H locs Q ls S hK hA hP hD hS hl hend => ?_)
  have hx := S.1
  have hb := S.2.1
  have hown := S.2.2.2.1
  have hts := S.2.2.2.2
  have hl : lv_has ls 7 [(0, .ref (r 0)), (1, .long a0), (3, .int a1), (4, .int a2), (5, .int a3)] := hl
  have J_c26 : ∀ (τ : MS) (w6 : Int32) (H : Heap) (locs : List Loc) (ls : Array Slot), F_X12_signs_c26 τ a0 a1 a2 a3 w6 = res → va_P z.1 vwCl (mW z r τ) H → va_D A (mW z r τ) → va_S A s.heap H locs → lv_has ls 7 [(0, .ref (r 0)), (4, .int a2), (5, .int a3), (6, .int w6)] → W p l e { frames := 1, cells := 0, slots := 0, locals := 22 } s m ([.ref (r 0), .long a0, .int a1, .int a2, .int a3] : List Value).toArray below meth c H locs 0 0 Q (F0 m 26 ls []) := by
    intro τ w6 H locs ls hf hP hD hS hl
    unfold F_X12_signs_c26 at hf
    refine lv_aload_n hx hb dX12_signs_26 rfl (lv_at hl 0 rfl) ?_
    refine lv_iload hx hb dX12_signs_27 (lv_at hl 3 rfl) ?_
    refine lv_iconst (v := 2) hx hb dX12_signs_29 (by decide) ?_
    refine lv_iload hx hb dX12_signs_30 (lv_at hl 1 rfl) ?_
    refine lv_imul hx hb dX12_signs_32 ?_
    refine lv_iadd hx hb dX12_signs_33 ?_
    refine lv_iload hx hb dX12_signs_34 (lv_at hl 2 rfl) ?_
    refine lv_iadd hx hb dX12_signs_36 ?_
    refine fp_X12_flags (v := ((w6 + ((2 : Int32) * a2)) + a3)) S hK hP hD hS tf_X12_25 dX12_signs_37 (fun H locs hP hD hS => ?_)
    exact hend (mu_flags τ ((w6 + ((2 : Int32) * a2)) + a3)) H locs 40 ls hf hP hD hS dX12_signs_40
  have J_c17 : ∀ (τ : MS) (w6 : Int32) (H : Heap) (locs : List Loc) (ls : Array Slot), F_X12_signs_c17 τ a0 a1 a2 a3 w6 = res → va_P z.1 vwCl (mW z r τ) H → va_D A (mW z r τ) → va_S A s.heap H locs → lv_has ls 7 [(0, .ref (r 0)), (1, .long a0), (4, .int a2), (5, .int a3), (6, .int w6)] → W p l e { frames := 1, cells := 0, slots := 0, locals := 22 } s m ([.ref (r 0), .long a0, .int a1, .int a2, .int a3] : List Value).toArray below meth c H locs 0 0 Q (F0 m 17 ls []) := by
    intro τ w6 H locs ls hf hP hD hS hl
    unfold F_X12_signs_c17 at hf
    refine lv_lload_n hx hb dX12_signs_17 rfl (lv_at hl 1 rfl) ?_
    refine lv_lconst (v := 0) hx hb dX12_signs_18 (by decide) ?_
    refine gl_ne (tgt := 26) hx hb dX12_signs_19 dX12_signs_20 (by decide) (fun c_19 => ?_) (fun c_19 => ?_)
    · rw [if_neg c_19] at hf
      exact J_c26 τ w6 H locs ls hf hP hD hS (lv_sub hl [0, 2, 3, 4] rfl)
    · rw [if_pos c_19] at hf
      refine lv_iinc (v := w6 + (4)) (lv' := [(6, .int (w6 + (4))), (0, .ref (r 0)), (1, .long a0), (4, .int a2), (5, .int a3)]) hx hb dX12_signs_23 hl (k := 4) rfl rfl (by decide) rfl (fun ls hl => ?_)
      exact J_c26 τ (w6 + (4)) H locs ls hf hP hD hS (lv_sub hl [1, 3, 4, 0] rfl)
  unfold F_X12_signs at hf
  refine lv_iconst (v := 0) hx hb dX12_signs_0 (by decide) ?_
  refine lv_istore (lv' := [(6, .int (0 : Int32)), (0, .ref (r 0)), (1, .long a0), (3, .int a1), (4, .int a2), (5, .int a3)]) hx hb dX12_signs_1 hl (by decide) rfl (fun ls hl => ?_)
  refine lv_lload_n hx hb dX12_signs_3 rfl (lv_at hl 2 rfl) ?_
  refine lv_iload_n hx hb dX12_signs_4 rfl (lv_at hl 3 rfl) ?_
  refine lv_iconst (v := 1) hx hb dX12_signs_5 (by decide) ?_
  refine lv_isub hx hb dX12_signs_6 ?_
  refine k_X12_bit (a0 := a0) (a1 := (a1 - (1 : Int32))) S tl_X12_68 ⟨Nat.le_of_ble_eq_true rfl, Nat.le_of_ble_eq_true rfl⟩ hl.1 (Nat.le_of_ble_eq_true rfl) dX12_signs_7 ?_
  refine gz_eq (tgt := 17) hx hb dX12_signs_10 (by decide) (fun c_10 => ?_) (fun c_10 => ?_)
  · rw [if_neg c_10] at hf
    exact J_c17 σ (0 : Int32) H locs ls hf hP hD hS (lv_sub hl [1, 2, 4, 5, 0] rfl)
  · rw [if_pos c_10] at hf
    refine lv_bipush (v := 8) hx hb dX12_signs_13 (by decide) ?_
    refine lv_istore (lv' := [(6, .int (8 : Int32)), (0, .ref (r 0)), (1, .long a0), (3, .int a1), (4, .int a2), (5, .int a3)]) hx hb dX12_signs_15 hl (by decide) rfl (fun ls hl => ?_)
    exact J_c17 σ (8 : Int32) H locs ls hf hP hD hS (lv_sub hl [1, 2, 4, 5, 0] rfl)
theorem k_X12_signs {p : Program} {l : Launch} {e : Env} {R : Room} {s : State} {m : MethodId} {args : Array Value} {below : List Frame} {meth : Method} {c : Code} {H : Heap} {locs : List Loc} {Q : State → Prop} {cc : ByteArray} {pc : Nat} {ls : Array Slot} {rest : List Value} {own : String} {index nL : Nat} {A : Nat → Prop} {z : Cx} {r : Nat → Nat} {σ : MS} {a0 : Int64} {a1 : Int32} {a2 : Int32} {a3 : Int32} (S : CallFix p m c cc nL s args tbG own) (hK : va_K z.1 vwCl (cxT z) s) (hA : ∀ q, s.heap.size ≤ q → A q) (hP : va_P z.1 vwCl (mW z r σ) H) (hD : va_D A (mW z r σ)) (hS : va_S A s.heap H locs) (hl : Cond.methodLink own index yX12_signs ∈ tbG) (hR : 1 + 1 ≤ R.frames ∧ 8 + (7 + 11) + 22 ≤ R.locals) (hsz : ls.size = nL) (hcat : (rest.map fun v => v.category).sum ≤ 8) (hdg : decode cc pc = .ok (.invokevirtual index, 3)) (kk : ∀ (H : Heap) (locs : List Loc), va_P z.1 vwCl (mW z r (F_X12_signs σ a0 a1 a2 a3)) H → va_D A (mW z r (F_X12_signs σ a0 a1 a2 a3)) → va_S A s.heap H locs → W p l e R s m args below meth c H locs 0 0 Q (F0 m (pc + 3) ls (rest))) : W p l e R s m args below meth c H locs 0 0 Q (F0 m pc ls (.int a3 :: .int a2 :: .int a1 :: .long a0 :: .ref (r 0) :: rest)) :=
  km (As := [.long a0, .int a1, .int a2, .int a3]) (ov := none) (w' := mW z r (F_X12_signs σ a0 a1 a2 a3)) (q0 := 0) (ci := 11) S hK hA hP hD hS (c_X12_signs l z r σ a0 a1 a2 a3 H.size _ rfl) ⟨tb_cB 4 S.2.2.2.2 tc_X12_signs ti_X12 hl rfl rfl (by decide +kernel) hR, S.2.2.2.2 _ tm_X12_signs, S.2.2.2.2 _ te_X12_signs⟩ rfl rfl rfl rfl hsz rfl hcat hdg kk

theorem dX12_moved_0 : decode cX12_moved 0 = .ok (.lconst 0, 1) := by decide +kernel
theorem dX12_moved_1 : decode cX12_moved 1 = .ok (.lstore 5, 2) := by decide +kernel
theorem dX12_moved_3 : decode cX12_moved 3 = .ok (.iconst 0, 1) := by decide +kernel
theorem dX12_moved_4 : decode cX12_moved 4 = .ok (.istore 7, 2) := by decide +kernel
theorem dX12_moved_6 : decode cX12_moved 6 = .ok (.iload 7, 2) := by decide +kernel
theorem dX12_moved_8 : decode cX12_moved 8 = .ok (.iload 4, 2) := by decide +kernel
theorem dX12_moved_10 : decode cX12_moved 10 = .ok (.if_icmp .ge 88, 3) := by decide +kernel
theorem dX12_moved_13 : decode cX12_moved 13 = .ok (.iload 7, 2) := by decide +kernel
theorem dX12_moved_15 : decode cX12_moved 15 = .ok (.iload_n 3, 1) := by decide +kernel
theorem dX12_moved_16 : decode cX12_moved 16 = .ok (.iadd, 1) := by decide +kernel
theorem dX12_moved_17 : decode cX12_moved 17 = .ok (.istore 8, 2) := by decide +kernel
theorem dX12_moved_19 : decode cX12_moved 19 = .ok (.iload_n 2, 1) := by decide +kernel
theorem dX12_moved_20 : decode cX12_moved 20 = .ok (.ifCond .ne 9, 3) := by decide +kernel
theorem dX12_moved_23 : decode cX12_moved 23 = .ok (.iload 7, 2) := by decide +kernel
theorem dX12_moved_25 : decode cX12_moved 25 = .ok (.iload_n 3, 1) := by decide +kernel
theorem dX12_moved_26 : decode cX12_moved 26 = .ok (.isub, 1) := by decide +kernel
theorem dX12_moved_27 : decode cX12_moved 27 = .ok (.istore 8, 2) := by decide +kernel
theorem dX12_moved_29 : decode cX12_moved 29 = .ok (.iload_n 2, 1) := by decide +kernel
theorem dX12_moved_30 : decode cX12_moved 30 = .ok (.iconst 2, 1) := by decide +kernel
theorem dX12_moved_31 : decode cX12_moved 31 = .ok (.if_icmp .ne 16, 3) := by decide +kernel
theorem dX12_moved_34 : decode cX12_moved 34 = .ok (.iload 8, 2) := by decide +kernel
theorem dX12_moved_36 : decode cX12_moved 36 = .ok (.iload 4, 2) := by decide +kernel
theorem dX12_moved_38 : decode cX12_moved 38 = .ok (.if_icmp .lt 9, 3) := by decide +kernel
theorem dX12_moved_41 : decode cX12_moved 41 = .ok (.iload 4, 2) := by decide +kernel
theorem dX12_moved_43 : decode cX12_moved 43 = .ok (.iconst 1, 1) := by decide +kernel
theorem dX12_moved_44 : decode cX12_moved 44 = .ok (.isub, 1) := by decide +kernel
theorem dX12_moved_45 : decode cX12_moved 45 = .ok (.istore 8, 2) := by decide +kernel
theorem dX12_moved_47 : decode cX12_moved 47 = .ok (.iload_n 2, 1) := by decide +kernel
theorem dX12_moved_48 : decode cX12_moved 48 = .ok (.iconst 3, 1) := by decide +kernel
theorem dX12_moved_49 : decode cX12_moved 49 = .ok (.if_icmp .ne 17, 3) := by decide +kernel
theorem dX12_moved_52 : decode cX12_moved 52 = .ok (.iload 8, 2) := by decide +kernel
theorem dX12_moved_54 : decode cX12_moved 54 = .ok (.iload 4, 2) := by decide +kernel
theorem dX12_moved_56 : decode cX12_moved 56 = .ok (.if_icmp .lt 10, 3) := by decide +kernel
theorem dX12_moved_59 : decode cX12_moved 59 = .ok (.iload 8, 2) := by decide +kernel
theorem dX12_moved_61 : decode cX12_moved 61 = .ok (.iload 4, 2) := by decide +kernel
theorem dX12_moved_63 : decode cX12_moved 63 = .ok (.isub, 1) := by decide +kernel
theorem dX12_moved_64 : decode cX12_moved 64 = .ok (.istore 8, 2) := by decide +kernel
theorem dX12_moved_66 : decode cX12_moved 66 = .ok (.iload 8, 2) := by decide +kernel
theorem dX12_moved_68 : decode cX12_moved 68 = .ok (.ifCond .lt 24, 3) := by decide +kernel
theorem dX12_moved_71 : decode cX12_moved 71 = .ok (.iload 8, 2) := by decide +kernel
theorem dX12_moved_73 : decode cX12_moved 73 = .ok (.iload 4, 2) := by decide +kernel
theorem dX12_moved_75 : decode cX12_moved 75 = .ok (.if_icmp .ge 17, 3) := by decide +kernel
theorem dX12_moved_78 : decode cX12_moved 78 = .ok (.lload 5, 2) := by decide +kernel
theorem dX12_moved_80 : decode cX12_moved 80 = .ok (.lload_n 0, 1) := by decide +kernel
theorem dX12_moved_81 : decode cX12_moved 81 = .ok (.iload 8, 2) := by decide +kernel
theorem dX12_moved_83 : decode cX12_moved 83 = .ok (.lshr, 1) := by decide +kernel
theorem dX12_moved_84 : decode cX12_moved 84 = .ok (.lconst 1, 1) := by decide +kernel
theorem dX12_moved_85 : decode cX12_moved 85 = .ok (.land, 1) := by decide +kernel
theorem dX12_moved_86 : decode cX12_moved 86 = .ok (.iload 7, 2) := by decide +kernel
theorem dX12_moved_88 : decode cX12_moved 88 = .ok (.lshl, 1) := by decide +kernel
theorem dX12_moved_89 : decode cX12_moved 89 = .ok (.lor, 1) := by decide +kernel
theorem dX12_moved_90 : decode cX12_moved 90 = .ok (.lstore 5, 2) := by decide +kernel
theorem dX12_moved_92 : decode cX12_moved 92 = .ok (.iinc 7 1, 3) := by decide +kernel
theorem dX12_moved_95 : decode cX12_moved 95 = .ok (.goto (-89), 3) := by decide +kernel
theorem dX12_moved_98 : decode cX12_moved 98 = .ok (.lload 5, 2) := by decide +kernel
theorem dX12_moved_100 : decode cX12_moved 100 = .ok (.lreturn, 1) := by decide +kernel
def F_X12_moved_c92 (k : Int64 → Int32 → Int32 → Int32 → Int64 → Int32 → Option (Int64)) (a0 : Int64) (a1 : Int32) (a2 : Int32) (a3 : Int32) (w5 : Int64) (w7 : Int32) : Option (Int64) := (k a0 a1 a2 a3 w5 (w7 + (1)))
def F_X12_moved_c66 (k : Int64 → Int32 → Int32 → Int32 → Int64 → Int32 → Option (Int64)) (a0 : Int64) (a1 : Int32) (a2 : Int32) (a3 : Int32) (w5 : Int64) (w7 : Int32) (w8 : Int32) : Option (Int64) := (if w8 < 0 then (F_X12_moved_c92 k a0 a1 a2 a3 w5 w7) else (if a3 ≤ w8 then (F_X12_moved_c92 k a0 a1 a2 a3 w5 w7) else (F_X12_moved_c92 k a0 a1 a2 a3 (w5 ||| (j_lshl ((j_lshr a0 w8) &&& (1 : Int64)) w7)) w7)))
def F_X12_moved_c47 (k : Int64 → Int32 → Int32 → Int32 → Int64 → Int32 → Option (Int64)) (a0 : Int64) (a1 : Int32) (a2 : Int32) (a3 : Int32) (w5 : Int64) (w7 : Int32) (w8 : Int32) : Option (Int64) := (if a1 = (3 : Int32) then (if w8 < a3 then (F_X12_moved_c66 k a0 a1 a2 a3 w5 w7 w8) else (F_X12_moved_c66 k a0 a1 a2 a3 w5 w7 (w8 - a3))) else (F_X12_moved_c66 k a0 a1 a2 a3 w5 w7 w8))
def F_X12_moved_c29 (k : Int64 → Int32 → Int32 → Int32 → Int64 → Int32 → Option (Int64)) (a0 : Int64) (a1 : Int32) (a2 : Int32) (a3 : Int32) (w5 : Int64) (w7 : Int32) (w8 : Int32) : Option (Int64) := (if a1 = (2 : Int32) then (if w8 < a3 then (F_X12_moved_c47 k a0 a1 a2 a3 w5 w7 w8) else (F_X12_moved_c47 k a0 a1 a2 a3 w5 w7 (a3 - (1 : Int32)))) else (F_X12_moved_c47 k a0 a1 a2 a3 w5 w7 w8))
def F_X12_moved_c6 : Nat → Int64 → Int32 → Int32 → Int32 → Int64 → Int32 → Option (Int64)
  | 0, _, _, _, _, _, _ => none
  | n + 1, a0, a1, a2, a3, w5, w7 => (if a3 ≤ w7 then some (w5) else (if a1 = 0 then (F_X12_moved_c29 (F_X12_moved_c6 n) a0 a1 a2 a3 w5 w7 (w7 - a2)) else (F_X12_moved_c29 (F_X12_moved_c6 n) a0 a1 a2 a3 w5 w7 (w7 + a2))))
def F_X12_moved (a0 : Int64) (a1 : Int32) (a2 : Int32) (a3 : Int32) : Option (Int64) := (F_X12_moved_c6 70 a0 a1 a2 a3 (0 : Int64) (0 : Int32))
set_option maxHeartbeats 4000000 in
set_option maxRecDepth 100000 in
theorem c_X12_moved (l : Launch) (a0 : Int64) (a1 : Int32) (a2 : Int32) (a3 : Int32) (res : Int64) (hf : F_X12_moved a0 a1 a2 a3 = some res) : Met l yX12_moved (wsC yX12_moved cX12_moved 9 (some .long)) { frames := 0, cells := 0, slots := 0, locals := 0 } (fun v _ => v = ([.long a0, .int a1, .int a2, .int a3] : List Value).toArray) (gS (some (.long res))) 0 0 (fun _ => False) := by
  refine mk_s_l (own := RX12) (by decide) rfl _ (Nat.le_of_ble_eq_true rfl) (fun p e s m below meth c H locs Q ls S hl hend => ?_)
  have hx := S.1
  have hb := S.2.1
  have hown := S.2.2.2.1
  have hts := S.2.2.2.2
  have hl : lv_has ls 9 [(0, .long a0), (2, .int a1), (3, .int a2), (4, .int a3)] := hl
  have J_c6 : ∀ (n : Nat) (w5 : Int64) (w7 : Int32) (ls : Array Slot), F_X12_moved_c6 n a0 a1 a2 a3 w5 w7 = some res → lv_has ls 9 [(0, .long a0), (2, .int a1), (3, .int a2), (4, .int a3), (5, .long w5), (7, .int w7)] → W p l e { frames := 0, cells := 0, slots := 0, locals := 0 } s m ([.long a0, .int a1, .int a2, .int a3] : List Value).toArray below meth c H locs 0 0 Q (F0 m 6 ls []) := by
    intro n
    induction n with
    | zero => intro w5 w7 ls hf; rw [F_X12_moved_c6] at hf; cases hf
    | succ n ih =>
      have J_c92 : ∀ (w5 : Int64) (w7 : Int32) (ls : Array Slot), F_X12_moved_c92 (F_X12_moved_c6 n) a0 a1 a2 a3 w5 w7 = some res → lv_has ls 9 [(0, .long a0), (2, .int a1), (3, .int a2), (4, .int a3), (5, .long w5), (7, .int w7)] → W p l e { frames := 0, cells := 0, slots := 0, locals := 0 } s m ([.long a0, .int a1, .int a2, .int a3] : List Value).toArray below meth c H locs 0 0 Q (F0 m 92 ls []) := by
        intro w5 w7 ls hf hl
        unfold F_X12_moved_c92 at hf
        refine lv_iinc (v := w7 + (1)) (lv' := [(7, .int (w7 + (1))), (0, .long a0), (2, .int a1), (3, .int a2), (4, .int a3), (5, .long w5)]) hx hb dX12_moved_92 hl (k := 5) rfl rfl (by decide) rfl (fun ls hl => ?_)
        refine lv_goto (tgt := 6) hx hb dX12_moved_95 (by decide) ?_
        exact ih w5 (w7 + (1)) ls hf (lv_sub hl [1, 2, 3, 4, 5, 0] rfl)
      have J_c66 : ∀ (w5 : Int64) (w7 : Int32) (w8 : Int32) (ls : Array Slot), F_X12_moved_c66 (F_X12_moved_c6 n) a0 a1 a2 a3 w5 w7 w8 = some res → lv_has ls 9 [(0, .long a0), (2, .int a1), (3, .int a2), (4, .int a3), (5, .long w5), (7, .int w7), (8, .int w8)] → W p l e { frames := 0, cells := 0, slots := 0, locals := 0 } s m ([.long a0, .int a1, .int a2, .int a3] : List Value).toArray below meth c H locs 0 0 Q (F0 m 66 ls []) := by
        intro w5 w7 w8 ls hf hl
        unfold F_X12_moved_c66 at hf
        refine lv_iload hx hb dX12_moved_66 (lv_at hl 6 rfl) ?_
        refine lv_if_lt (tgt := 92) hx hb dX12_moved_68 (by decide) (fun c_68 => ?_) (fun c_68 => ?_)
        · rw [if_pos c_68] at hf
          exact J_c92 w5 w7 ls hf (lv_sub hl [0, 1, 2, 3, 4, 5] rfl)
        · rw [if_neg c_68] at hf
          refine lv_iload hx hb dX12_moved_71 (lv_at hl 6 rfl) ?_
          refine lv_iload hx hb dX12_moved_73 (lv_at hl 3 rfl) ?_
          refine lv_icmp_ge (tgt := 92) hx hb dX12_moved_75 (by decide) (fun c_75 => ?_) (fun c_75 => ?_)
          · rw [if_pos c_75] at hf
            exact J_c92 w5 w7 ls hf (lv_sub hl [0, 1, 2, 3, 4, 5] rfl)
          · rw [if_neg c_75] at hf
            refine lv_lload hx hb dX12_moved_78 (lv_at hl 4 rfl) ?_
            refine lv_lload_n hx hb dX12_moved_80 rfl (lv_at hl 0 rfl) ?_
            refine lv_iload hx hb dX12_moved_81 (lv_at hl 6 rfl) ?_
            refine lv_lshr (v := (j_lshr a0 w8)) hx hb dX12_moved_83 rfl ?_
            refine lv_lconst (v := 1) hx hb dX12_moved_84 (by decide) ?_
            refine lv_land hx hb dX12_moved_85 ?_
            refine lv_iload hx hb dX12_moved_86 (lv_at hl 5 rfl) ?_
            refine lv_lshl (v := (j_lshl ((j_lshr a0 w8) &&& (1 : Int64)) w7)) hx hb dX12_moved_88 rfl ?_
            refine lv_lor hx hb dX12_moved_89 ?_
            refine lv_lstore (lv' := [(5, .long (w5 ||| (j_lshl ((j_lshr a0 w8) &&& (1 : Int64)) w7))), (0, .long a0), (2, .int a1), (3, .int a2), (4, .int a3), (7, .int w7), (8, .int w8)]) hx hb dX12_moved_90 hl (by decide) rfl (fun ls hl => ?_)
            exact J_c92 (w5 ||| (j_lshl ((j_lshr a0 w8) &&& (1 : Int64)) w7)) w7 ls hf (lv_sub hl [1, 2, 3, 4, 0, 5] rfl)
      have J_c47 : ∀ (w5 : Int64) (w7 : Int32) (w8 : Int32) (ls : Array Slot), F_X12_moved_c47 (F_X12_moved_c6 n) a0 a1 a2 a3 w5 w7 w8 = some res → lv_has ls 9 [(0, .long a0), (2, .int a1), (3, .int a2), (4, .int a3), (5, .long w5), (7, .int w7), (8, .int w8)] → W p l e { frames := 0, cells := 0, slots := 0, locals := 0 } s m ([.long a0, .int a1, .int a2, .int a3] : List Value).toArray below meth c H locs 0 0 Q (F0 m 47 ls []) := by
        intro w5 w7 w8 ls hf hl
        unfold F_X12_moved_c47 at hf
        refine lv_iload_n hx hb dX12_moved_47 rfl (lv_at hl 1 rfl) ?_
        refine lv_iconst (v := 3) hx hb dX12_moved_48 (by decide) ?_
        refine lv_icmp_ne (tgt := 66) hx hb dX12_moved_49 (by decide) (fun c_49 => ?_) (fun c_49 => ?_)
        · rw [if_neg c_49] at hf
          exact J_c66 w5 w7 w8 ls hf (lv_sub hl [0, 1, 2, 3, 4, 5, 6] rfl)
        · rw [if_pos c_49] at hf
          refine lv_iload hx hb dX12_moved_52 (lv_at hl 6 rfl) ?_
          refine lv_iload hx hb dX12_moved_54 (lv_at hl 3 rfl) ?_
          refine lv_icmp_lt (tgt := 66) hx hb dX12_moved_56 (by decide) (fun c_56 => ?_) (fun c_56 => ?_)
          · rw [if_pos c_56] at hf
            exact J_c66 w5 w7 w8 ls hf (lv_sub hl [0, 1, 2, 3, 4, 5, 6] rfl)
          · rw [if_neg c_56] at hf
            refine lv_iload hx hb dX12_moved_59 (lv_at hl 6 rfl) ?_
            refine lv_iload hx hb dX12_moved_61 (lv_at hl 3 rfl) ?_
            refine lv_isub hx hb dX12_moved_63 ?_
            refine lv_istore (lv' := [(8, .int (w8 - a3)), (0, .long a0), (2, .int a1), (3, .int a2), (4, .int a3), (5, .long w5), (7, .int w7)]) hx hb dX12_moved_64 hl (by decide) rfl (fun ls hl => ?_)
            exact J_c66 w5 w7 (w8 - a3) ls hf (lv_sub hl [1, 2, 3, 4, 5, 6, 0] rfl)
      have J_c29 : ∀ (w5 : Int64) (w7 : Int32) (w8 : Int32) (ls : Array Slot), F_X12_moved_c29 (F_X12_moved_c6 n) a0 a1 a2 a3 w5 w7 w8 = some res → lv_has ls 9 [(0, .long a0), (2, .int a1), (3, .int a2), (4, .int a3), (5, .long w5), (7, .int w7), (8, .int w8)] → W p l e { frames := 0, cells := 0, slots := 0, locals := 0 } s m ([.long a0, .int a1, .int a2, .int a3] : List Value).toArray below meth c H locs 0 0 Q (F0 m 29 ls []) := by
        intro w5 w7 w8 ls hf hl
        unfold F_X12_moved_c29 at hf
        refine lv_iload_n hx hb dX12_moved_29 rfl (lv_at hl 1 rfl) ?_
        refine lv_iconst (v := 2) hx hb dX12_moved_30 (by decide) ?_
        refine lv_icmp_ne (tgt := 47) hx hb dX12_moved_31 (by decide) (fun c_31 => ?_) (fun c_31 => ?_)
        · rw [if_neg c_31] at hf
          exact J_c47 w5 w7 w8 ls hf (lv_sub hl [0, 1, 2, 3, 4, 5, 6] rfl)
        · rw [if_pos c_31] at hf
          refine lv_iload hx hb dX12_moved_34 (lv_at hl 6 rfl) ?_
          refine lv_iload hx hb dX12_moved_36 (lv_at hl 3 rfl) ?_
          refine lv_icmp_lt (tgt := 47) hx hb dX12_moved_38 (by decide) (fun c_38 => ?_) (fun c_38 => ?_)
          · rw [if_pos c_38] at hf
            exact J_c47 w5 w7 w8 ls hf (lv_sub hl [0, 1, 2, 3, 4, 5, 6] rfl)
          · rw [if_neg c_38] at hf
            refine lv_iload hx hb dX12_moved_41 (lv_at hl 3 rfl) ?_
            refine lv_iconst (v := 1) hx hb dX12_moved_43 (by decide) ?_
            refine lv_isub hx hb dX12_moved_44 ?_
            refine lv_istore (lv' := [(8, .int (a3 - (1 : Int32))), (0, .long a0), (2, .int a1), (3, .int a2), (4, .int a3), (5, .long w5), (7, .int w7)]) hx hb dX12_moved_45 hl (by decide) rfl (fun ls hl => ?_)
            exact J_c47 w5 w7 (a3 - (1 : Int32)) ls hf (lv_sub hl [1, 2, 3, 4, 5, 6, 0] rfl)
      intro w5 w7 ls hf hl
      rw [F_X12_moved_c6] at hf
      refine lv_iload hx hb dX12_moved_6 (lv_at hl 5 rfl) ?_
      refine lv_iload hx hb dX12_moved_8 (lv_at hl 3 rfl) ?_
      refine lv_icmp_ge (tgt := 98) hx hb dX12_moved_10 (by decide) (fun c_10 => ?_) (fun c_10 => ?_)
      · rw [if_pos c_10] at hf
        refine lv_lload hx hb dX12_moved_98 (lv_at hl 4 rfl) ?_
        exact hend w5 100 ls (Option.some.inj hf) dX12_moved_100
      · rw [if_neg c_10] at hf
        refine lv_iload hx hb dX12_moved_13 (lv_at hl 5 rfl) ?_
        refine lv_iload_n hx hb dX12_moved_15 rfl (lv_at hl 2 rfl) ?_
        refine lv_iadd hx hb dX12_moved_16 ?_
        refine lv_istore (lv' := [(8, .int (w7 + a2)), (0, .long a0), (2, .int a1), (3, .int a2), (4, .int a3), (5, .long w5), (7, .int w7)]) hx hb dX12_moved_17 hl (by decide) rfl (fun ls hl => ?_)
        refine lv_iload_n hx hb dX12_moved_19 rfl (lv_at hl 2 rfl) ?_
        refine lv_if_ne (tgt := 29) hx hb dX12_moved_20 (by decide) (fun c_20 => ?_) (fun c_20 => ?_)
        · rw [if_neg c_20] at hf
          exact J_c29 w5 w7 (w7 + a2) ls hf (lv_sub hl [1, 2, 3, 4, 5, 6, 0] rfl)
        · rw [if_pos c_20] at hf
          refine lv_iload hx hb dX12_moved_23 (lv_at hl 6 rfl) ?_
          refine lv_iload_n hx hb dX12_moved_25 rfl (lv_at hl 3 rfl) ?_
          refine lv_isub hx hb dX12_moved_26 ?_
          refine lv_istore (lv' := [(8, .int (w7 - a2)), (0, .long a0), (2, .int a1), (3, .int a2), (4, .int a3), (5, .long w5), (7, .int w7)]) hx hb dX12_moved_27 hl (by decide) rfl (fun ls hl => ?_)
          exact J_c29 w5 w7 (w7 - a2) ls hf (lv_sub hl [1, 2, 3, 4, 5, 6, 0] rfl)
  unfold F_X12_moved at hf
  refine lv_lconst (v := 0) hx hb dX12_moved_0 (by decide) ?_
  refine lv_lstore (lv' := [(5, .long (0 : Int64)), (0, .long a0), (2, .int a1), (3, .int a2), (4, .int a3)]) hx hb dX12_moved_1 hl (by decide) rfl (fun ls hl => ?_)
  refine lv_iconst (v := 0) hx hb dX12_moved_3 (by decide) ?_
  refine lv_istore (lv' := [(7, .int (0 : Int32)), (5, .long (0 : Int64)), (0, .long a0), (2, .int a1), (3, .int a2), (4, .int a3)]) hx hb dX12_moved_4 hl (by decide) rfl (fun ls hl => ?_)
  exact J_c6 70 (0 : Int64) (0 : Int32) ls hf (lv_sub hl [2, 3, 4, 5, 1, 0] rfl)
theorem k_X12_moved {p : Program} {l : Launch} {e : Env} {R : Room} {s : State} {m : MethodId} {args : Array Value} {below : List Frame} {meth : Method} {c : Code} {H : Heap} {locs : List Loc} {Q : State → Prop} {cc : ByteArray} {pc : Nat} {ls : Array Slot} {rest : List Value} {own : String} {index nL : Nat} {a0 : Int64} {a1 : Int32} {a2 : Int32} {a3 : Int32} {res : Int64} (hres : F_X12_moved a0 a1 a2 a3 = some res) (S : CallFix p m c cc nL s args tbG own) (hl : Cond.methodLink own index yX12_moved ∈ tbG) (hR : 0 + 1 ≤ R.frames ∧ 8 + (9 + 11) + 0 ≤ R.locals) (hsz : ls.size = nL) (hcat : (rest.map fun v => v.category).sum ≤ 8) (hdg : decode cc pc = .ok (.invokestatic index, 3)) (kk : W p l e R s m args below meth c H locs 0 0 Q (F0 m (pc + 3) ls (.long res :: rest))) : W p l e R s m args below meth c H locs 0 0 Q (F0 m pc ls (.int a3 :: .int a2 :: .int a1 :: .long a0 :: rest)) :=
  ks (As := [.long a0, .int a1, .int a2, .int a3]) (ov := some (.long res)) S (c_X12_moved l a0 a1 a2 a3 _ hres) ⟨tb_cB 4 S.2.2.2.2 tc_X12_moved ti_X12 hl rfl rfl (by decide +kernel) hR, S.2.2.2.2 _ ts_X12_moved⟩ rfl hsz rfl hcat hdg kk

theorem dX12_extend_0 : decode cX12_extend 0 = .ok (.lload_n 0, 1) := by decide +kernel
theorem dX12_extend_1 : decode cX12_extend 1 = .ok (.lstore_n 3, 1) := by decide +kernel
theorem dX12_extend_2 : decode cX12_extend 2 = .ok (.iload_n 2, 1) := by decide +kernel
theorem dX12_extend_3 : decode cX12_extend 3 = .ok (.bipush 64, 2) := by decide +kernel
theorem dX12_extend_5 : decode cX12_extend 5 = .ok (.if_icmp .ge 36, 3) := by decide +kernel
theorem dX12_extend_8 : decode cX12_extend 8 = .ok (.lload_n 0, 1) := by decide +kernel
theorem dX12_extend_9 : decode cX12_extend 9 = .ok (.iload_n 2, 1) := by decide +kernel
theorem dX12_extend_10 : decode cX12_extend 10 = .ok (.iconst 1, 1) := by decide +kernel
theorem dX12_extend_11 : decode cX12_extend 11 = .ok (.isub, 1) := by decide +kernel
theorem dX12_extend_12 : decode cX12_extend 12 = .ok (.invokestatic 68, 3) := by decide +kernel
theorem dX12_extend_15 : decode cX12_extend 15 = .ok (.ifCond .eq 26, 3) := by decide +kernel
theorem dX12_extend_18 : decode cX12_extend 18 = .ok (.iload_n 2, 1) := by decide +kernel
theorem dX12_extend_19 : decode cX12_extend 19 = .ok (.istore 5, 2) := by decide +kernel
theorem dX12_extend_21 : decode cX12_extend 21 = .ok (.iload 5, 2) := by decide +kernel
theorem dX12_extend_23 : decode cX12_extend 23 = .ok (.bipush 64, 2) := by decide +kernel
theorem dX12_extend_25 : decode cX12_extend 25 = .ok (.if_icmp .ge 16, 3) := by decide +kernel
theorem dX12_extend_28 : decode cX12_extend 28 = .ok (.lload_n 3, 1) := by decide +kernel
theorem dX12_extend_29 : decode cX12_extend 29 = .ok (.lconst 1, 1) := by decide +kernel
theorem dX12_extend_30 : decode cX12_extend 30 = .ok (.iload 5, 2) := by decide +kernel
theorem dX12_extend_32 : decode cX12_extend 32 = .ok (.lshl, 1) := by decide +kernel
theorem dX12_extend_33 : decode cX12_extend 33 = .ok (.lor, 1) := by decide +kernel
theorem dX12_extend_34 : decode cX12_extend 34 = .ok (.lstore_n 3, 1) := by decide +kernel
theorem dX12_extend_35 : decode cX12_extend 35 = .ok (.iinc 5 1, 3) := by decide +kernel
theorem dX12_extend_38 : decode cX12_extend 38 = .ok (.goto (-17), 3) := by decide +kernel
theorem dX12_extend_41 : decode cX12_extend 41 = .ok (.lload_n 3, 1) := by decide +kernel
theorem dX12_extend_42 : decode cX12_extend 42 = .ok (.lreturn, 1) := by decide +kernel
def F_X12_extend_c21 : Nat → Int64 → Int32 → Int64 → Int32 → Option (Int64)
  | 0, _, _, _, _ => none
  | n + 1, a0, a1, w3, w5 => (if (64 : Int32) ≤ w5 then some (w3) else (F_X12_extend_c21 n a0 a1 (w3 ||| (j_lshl (1 : Int64) w5)) (w5 + (1))))
def F_X12_extend (a0 : Int64) (a1 : Int32) : Option (Int64) := (if (64 : Int32) ≤ a1 then some (a0) else (if (F_X12_bit a0 (a1 - (1 : Int32))) = true then (F_X12_extend_c21 70 a0 a1 a0 a1) else some (a0)))
set_option maxHeartbeats 4000000 in
set_option maxRecDepth 100000 in
theorem c_X12_extend (l : Launch) (a0 : Int64) (a1 : Int32) (res : Int64) (hf : F_X12_extend a0 a1 = some res) : Met l yX12_extend (wsC yX12_extend cX12_extend 6 (some .long)) { frames := 1, cells := 0, slots := 0, locals := 22 } (fun v _ => v = ([.long a0, .int a1] : List Value).toArray) (gS (some (.long res))) 0 0 (fun _ => False) := by
  refine mk_s_l (own := RX12) (by decide) rfl _ (Nat.le_of_ble_eq_true rfl) (fun p e s m below meth c H locs Q ls S hl hend => ?_)
  have hx := S.1
  have hb := S.2.1
  have hown := S.2.2.2.1
  have hts := S.2.2.2.2
  have hl : lv_has ls 6 [(0, .long a0), (2, .int a1)] := hl
  have J_c21 : ∀ (n : Nat) (w3 : Int64) (w5 : Int32) (ls : Array Slot), F_X12_extend_c21 n a0 a1 w3 w5 = some res → lv_has ls 6 [(3, .long w3), (5, .int w5)] → W p l e { frames := 1, cells := 0, slots := 0, locals := 22 } s m ([.long a0, .int a1] : List Value).toArray below meth c H locs 0 0 Q (F0 m 21 ls []) := by
    intro n
    induction n with
    | zero => intro w3 w5 ls hf; rw [F_X12_extend_c21] at hf; cases hf
    | succ n ih =>
      intro w3 w5 ls hf hl
      rw [F_X12_extend_c21] at hf
      refine lv_iload hx hb dX12_extend_21 (lv_at hl 1 rfl) ?_
      refine lv_bipush (v := 64) hx hb dX12_extend_23 (by decide) ?_
      refine lv_icmp_ge (tgt := 41) hx hb dX12_extend_25 (by decide) (fun c_25 => ?_) (fun c_25 => ?_)
      · rw [if_pos c_25] at hf
        refine lv_lload_n hx hb dX12_extend_41 rfl (lv_at hl 0 rfl) ?_
        exact hend w3 42 ls (Option.some.inj hf) dX12_extend_42
      · rw [if_neg c_25] at hf
        refine lv_lload_n hx hb dX12_extend_28 rfl (lv_at hl 0 rfl) ?_
        refine lv_lconst (v := 1) hx hb dX12_extend_29 (by decide) ?_
        refine lv_iload hx hb dX12_extend_30 (lv_at hl 1 rfl) ?_
        refine lv_lshl (v := (j_lshl (1 : Int64) w5)) hx hb dX12_extend_32 rfl ?_
        refine lv_lor hx hb dX12_extend_33 ?_
        refine lv_lstore_n (lv' := [(3, .long (w3 ||| (j_lshl (1 : Int64) w5))), (5, .int w5)]) hx hb dX12_extend_34 rfl hl (by decide) rfl (fun ls hl => ?_)
        refine lv_iinc (v := w5 + (1)) (lv' := [(5, .int (w5 + (1))), (3, .long (w3 ||| (j_lshl (1 : Int64) w5)))]) hx hb dX12_extend_35 hl (k := 1) rfl rfl (by decide) rfl (fun ls hl => ?_)
        refine lv_goto (tgt := 21) hx hb dX12_extend_38 (by decide) ?_
        exact ih (w3 ||| (j_lshl (1 : Int64) w5)) (w5 + (1)) ls hf (lv_sub hl [1, 0] rfl)
  unfold F_X12_extend at hf
  refine lv_lload_n hx hb dX12_extend_0 rfl (lv_at hl 0 rfl) ?_
  refine lv_lstore_n (lv' := [(3, .long a0), (0, .long a0), (2, .int a1)]) hx hb dX12_extend_1 rfl hl (by decide) rfl (fun ls hl => ?_)
  refine lv_iload_n hx hb dX12_extend_2 rfl (lv_at hl 2 rfl) ?_
  refine lv_bipush (v := 64) hx hb dX12_extend_3 (by decide) ?_
  refine lv_icmp_ge (tgt := 41) hx hb dX12_extend_5 (by decide) (fun c_5 => ?_) (fun c_5 => ?_)
  · rw [if_pos c_5] at hf
    refine lv_lload_n hx hb dX12_extend_41 rfl (lv_at hl 0 rfl) ?_
    exact hend a0 42 ls (Option.some.inj hf) dX12_extend_42
  · rw [if_neg c_5] at hf
    refine lv_lload_n hx hb dX12_extend_8 rfl (lv_at hl 1 rfl) ?_
    refine lv_iload_n hx hb dX12_extend_9 rfl (lv_at hl 2 rfl) ?_
    refine lv_iconst (v := 1) hx hb dX12_extend_10 (by decide) ?_
    refine lv_isub hx hb dX12_extend_11 ?_
    refine k_X12_bit (a0 := a0) (a1 := (a1 - (1 : Int32))) S tl_X12_68 ⟨Nat.le_of_ble_eq_true rfl, Nat.le_of_ble_eq_true rfl⟩ hl.1 (Nat.le_of_ble_eq_true rfl) dX12_extend_12 ?_
    refine gz_eq (tgt := 41) hx hb dX12_extend_15 (by decide) (fun c_15 => ?_) (fun c_15 => ?_)
    · rw [if_neg c_15] at hf
      refine lv_lload_n hx hb dX12_extend_41 rfl (lv_at hl 0 rfl) ?_
      exact hend a0 42 ls (Option.some.inj hf) dX12_extend_42
    · rw [if_pos c_15] at hf
      refine lv_iload_n hx hb dX12_extend_18 rfl (lv_at hl 2 rfl) ?_
      refine lv_istore (lv' := [(5, .int a1), (3, .long a0), (0, .long a0), (2, .int a1)]) hx hb dX12_extend_19 hl (by decide) rfl (fun ls hl => ?_)
      exact J_c21 70 a0 a1 ls hf (lv_sub hl [1, 0] rfl)
theorem k_X12_extend {p : Program} {l : Launch} {e : Env} {R : Room} {s : State} {m : MethodId} {args : Array Value} {below : List Frame} {meth : Method} {c : Code} {H : Heap} {locs : List Loc} {Q : State → Prop} {cc : ByteArray} {pc : Nat} {ls : Array Slot} {rest : List Value} {own : String} {index nL : Nat} {a0 : Int64} {a1 : Int32} {res : Int64} (hres : F_X12_extend a0 a1 = some res) (S : CallFix p m c cc nL s args tbG own) (hl : Cond.methodLink own index yX12_extend ∈ tbG) (hR : 1 + 1 ≤ R.frames ∧ 8 + (6 + 11) + 22 ≤ R.locals) (hsz : ls.size = nL) (hcat : (rest.map fun v => v.category).sum ≤ 8) (hdg : decode cc pc = .ok (.invokestatic index, 3)) (kk : W p l e R s m args below meth c H locs 0 0 Q (F0 m (pc + 3) ls (.long res :: rest))) : W p l e R s m args below meth c H locs 0 0 Q (F0 m pc ls (.int a1 :: .long a0 :: rest)) :=
  ks (As := [.long a0, .int a1]) (ov := some (.long res)) S (c_X12_extend l a0 a1 _ hres) ⟨tb_cB 2 S.2.2.2.2 tc_X12_extend ti_X12 hl rfl rfl (by decide +kernel) hR, S.2.2.2.2 _ ts_X12_extend⟩ rfl hsz rfl hcat hdg kk

theorem dX12_holds_0 : decode cX12_holds 0 = .ok (.aload_n 0, 1) := by decide +kernel
theorem dX12_holds_1 : decode cX12_holds 1 = .ok (.getfield 25, 3) := by decide +kernel
theorem dX12_holds_4 : decode cX12_holds 4 = .ok (.bipush 8, 2) := by decide +kernel
theorem dX12_holds_6 : decode cX12_holds 6 = .ok (.iand, 1) := by decide +kernel
theorem dX12_holds_7 : decode cX12_holds 7 = .ok (.ifCond .eq 7, 3) := by decide +kernel
theorem dX12_holds_10 : decode cX12_holds 10 = .ok (.iconst 1, 1) := by decide +kernel
theorem dX12_holds_11 : decode cX12_holds 11 = .ok (.goto 4, 3) := by decide +kernel
theorem dX12_holds_14 : decode cX12_holds 14 = .ok (.iconst 0, 1) := by decide +kernel
theorem dX12_holds_15 : decode cX12_holds 15 = .ok (.istore_n 2, 1) := by decide +kernel
theorem dX12_holds_16 : decode cX12_holds 16 = .ok (.aload_n 0, 1) := by decide +kernel
theorem dX12_holds_17 : decode cX12_holds 17 = .ok (.getfield 25, 3) := by decide +kernel
theorem dX12_holds_20 : decode cX12_holds 20 = .ok (.iconst 4, 1) := by decide +kernel
theorem dX12_holds_21 : decode cX12_holds 21 = .ok (.iand, 1) := by decide +kernel
theorem dX12_holds_22 : decode cX12_holds 22 = .ok (.ifCond .eq 7, 3) := by decide +kernel
theorem dX12_holds_25 : decode cX12_holds 25 = .ok (.iconst 1, 1) := by decide +kernel
theorem dX12_holds_26 : decode cX12_holds 26 = .ok (.goto 4, 3) := by decide +kernel
theorem dX12_holds_29 : decode cX12_holds 29 = .ok (.iconst 0, 1) := by decide +kernel
theorem dX12_holds_30 : decode cX12_holds 30 = .ok (.istore_n 3, 1) := by decide +kernel
theorem dX12_holds_31 : decode cX12_holds 31 = .ok (.aload_n 0, 1) := by decide +kernel
theorem dX12_holds_32 : decode cX12_holds 32 = .ok (.getfield 25, 3) := by decide +kernel
theorem dX12_holds_35 : decode cX12_holds 35 = .ok (.iconst 2, 1) := by decide +kernel
theorem dX12_holds_36 : decode cX12_holds 36 = .ok (.iand, 1) := by decide +kernel
theorem dX12_holds_37 : decode cX12_holds 37 = .ok (.ifCond .eq 7, 3) := by decide +kernel
theorem dX12_holds_40 : decode cX12_holds 40 = .ok (.iconst 1, 1) := by decide +kernel
theorem dX12_holds_41 : decode cX12_holds 41 = .ok (.goto 4, 3) := by decide +kernel
theorem dX12_holds_44 : decode cX12_holds 44 = .ok (.iconst 0, 1) := by decide +kernel
theorem dX12_holds_45 : decode cX12_holds 45 = .ok (.istore 4, 2) := by decide +kernel
theorem dX12_holds_47 : decode cX12_holds 47 = .ok (.aload_n 0, 1) := by decide +kernel
theorem dX12_holds_48 : decode cX12_holds 48 = .ok (.getfield 25, 3) := by decide +kernel
theorem dX12_holds_51 : decode cX12_holds 51 = .ok (.iconst 1, 1) := by decide +kernel
theorem dX12_holds_52 : decode cX12_holds 52 = .ok (.iand, 1) := by decide +kernel
theorem dX12_holds_53 : decode cX12_holds 53 = .ok (.ifCond .eq 7, 3) := by decide +kernel
theorem dX12_holds_56 : decode cX12_holds 56 = .ok (.iconst 1, 1) := by decide +kernel
theorem dX12_holds_57 : decode cX12_holds 57 = .ok (.goto 4, 3) := by decide +kernel
theorem dX12_holds_60 : decode cX12_holds 60 = .ok (.iconst 0, 1) := by decide +kernel
theorem dX12_holds_61 : decode cX12_holds 61 = .ok (.istore 5, 2) := by decide +kernel
theorem dX12_holds_63 : decode cX12_holds 63 = .ok (.iload_n 1, 1) := by decide +kernel
theorem dX12_holds_64 : decode cX12_holds 64 = .ok (.iconst 1, 1) := by decide +kernel
theorem dX12_holds_65 : decode cX12_holds 65 = .ok (.ishr, 1) := by decide +kernel
theorem dX12_holds_66 : decode cX12_holds 66 = .ok (.istore 6, 2) := by decide +kernel
theorem dX12_holds_68 : decode cX12_holds 68 = .ok (.iconst 1, 1) := by decide +kernel
theorem dX12_holds_69 : decode cX12_holds 69 = .ok (.istore 7, 2) := by decide +kernel
theorem dX12_holds_71 : decode cX12_holds 71 = .ok (.iload 6, 2) := by decide +kernel
theorem dX12_holds_73 : decode cX12_holds 73 = .ok (.ifCond .ne 6, 3) := by decide +kernel
theorem dX12_holds_76 : decode cX12_holds 76 = .ok (.iload_n 3, 1) := by decide +kernel
theorem dX12_holds_77 : decode cX12_holds 77 = .ok (.istore 7, 2) := by decide +kernel
theorem dX12_holds_79 : decode cX12_holds 79 = .ok (.iload 6, 2) := by decide +kernel
theorem dX12_holds_81 : decode cX12_holds 81 = .ok (.iconst 1, 1) := by decide +kernel
theorem dX12_holds_82 : decode cX12_holds 82 = .ok (.if_icmp .ne 7, 3) := by decide +kernel
theorem dX12_holds_85 : decode cX12_holds 85 = .ok (.iload 4, 2) := by decide +kernel
theorem dX12_holds_87 : decode cX12_holds 87 = .ok (.istore 7, 2) := by decide +kernel
theorem dX12_holds_89 : decode cX12_holds 89 = .ok (.iload 6, 2) := by decide +kernel
theorem dX12_holds_91 : decode cX12_holds 91 = .ok (.iconst 2, 1) := by decide +kernel
theorem dX12_holds_92 : decode cX12_holds 92 = .ok (.if_icmp .ne 6, 3) := by decide +kernel
theorem dX12_holds_95 : decode cX12_holds 95 = .ok (.iload_n 2, 1) := by decide +kernel
theorem dX12_holds_96 : decode cX12_holds 96 = .ok (.istore 7, 2) := by decide +kernel
theorem dX12_holds_98 : decode cX12_holds 98 = .ok (.iload 6, 2) := by decide +kernel
theorem dX12_holds_100 : decode cX12_holds 100 = .ok (.iconst 3, 1) := by decide +kernel
theorem dX12_holds_101 : decode cX12_holds 101 = .ok (.if_icmp .ne 7, 3) := by decide +kernel
theorem dX12_holds_104 : decode cX12_holds 104 = .ok (.iload 5, 2) := by decide +kernel
theorem dX12_holds_106 : decode cX12_holds 106 = .ok (.istore 7, 2) := by decide +kernel
theorem dX12_holds_108 : decode cX12_holds 108 = .ok (.iload 6, 2) := by decide +kernel
theorem dX12_holds_110 : decode cX12_holds 110 = .ok (.iconst 4, 1) := by decide +kernel
theorem dX12_holds_111 : decode cX12_holds 111 = .ok (.if_icmp .ne 19, 3) := by decide +kernel
theorem dX12_holds_114 : decode cX12_holds 114 = .ok (.iload 4, 2) := by decide +kernel
theorem dX12_holds_116 : decode cX12_holds 116 = .ok (.ifCond .eq 11, 3) := by decide +kernel
theorem dX12_holds_119 : decode cX12_holds 119 = .ok (.iload_n 3, 1) := by decide +kernel
theorem dX12_holds_120 : decode cX12_holds 120 = .ok (.ifCond .ne 7, 3) := by decide +kernel
theorem dX12_holds_123 : decode cX12_holds 123 = .ok (.iconst 1, 1) := by decide +kernel
theorem dX12_holds_124 : decode cX12_holds 124 = .ok (.goto 4, 3) := by decide +kernel
theorem dX12_holds_127 : decode cX12_holds 127 = .ok (.iconst 0, 1) := by decide +kernel
theorem dX12_holds_128 : decode cX12_holds 128 = .ok (.istore 7, 2) := by decide +kernel
theorem dX12_holds_130 : decode cX12_holds 130 = .ok (.iload 6, 2) := by decide +kernel
theorem dX12_holds_132 : decode cX12_holds 132 = .ok (.iconst 5, 1) := by decide +kernel
theorem dX12_holds_133 : decode cX12_holds 133 = .ok (.if_icmp .ne 16, 3) := by decide +kernel
theorem dX12_holds_136 : decode cX12_holds 136 = .ok (.iload_n 2, 1) := by decide +kernel
theorem dX12_holds_137 : decode cX12_holds 137 = .ok (.iload 5, 2) := by decide +kernel
theorem dX12_holds_139 : decode cX12_holds 139 = .ok (.if_icmp .ne 7, 3) := by decide +kernel
theorem dX12_holds_142 : decode cX12_holds 142 = .ok (.iconst 1, 1) := by decide +kernel
theorem dX12_holds_143 : decode cX12_holds 143 = .ok (.goto 4, 3) := by decide +kernel
theorem dX12_holds_146 : decode cX12_holds 146 = .ok (.iconst 0, 1) := by decide +kernel
theorem dX12_holds_147 : decode cX12_holds 147 = .ok (.istore 7, 2) := by decide +kernel
theorem dX12_holds_149 : decode cX12_holds 149 = .ok (.iload 6, 2) := by decide +kernel
theorem dX12_holds_151 : decode cX12_holds 151 = .ok (.bipush 6, 2) := by decide +kernel
theorem dX12_holds_153 : decode cX12_holds 153 = .ok (.if_icmp .ne 20, 3) := by decide +kernel
theorem dX12_holds_156 : decode cX12_holds 156 = .ok (.iload_n 2, 1) := by decide +kernel
theorem dX12_holds_157 : decode cX12_holds 157 = .ok (.iload 5, 2) := by decide +kernel
theorem dX12_holds_159 : decode cX12_holds 159 = .ok (.if_icmp .ne 11, 3) := by decide +kernel
theorem dX12_holds_162 : decode cX12_holds 162 = .ok (.iload_n 3, 1) := by decide +kernel
theorem dX12_holds_163 : decode cX12_holds 163 = .ok (.ifCond .ne 7, 3) := by decide +kernel
theorem dX12_holds_166 : decode cX12_holds 166 = .ok (.iconst 1, 1) := by decide +kernel
theorem dX12_holds_167 : decode cX12_holds 167 = .ok (.goto 4, 3) := by decide +kernel
theorem dX12_holds_170 : decode cX12_holds 170 = .ok (.iconst 0, 1) := by decide +kernel
theorem dX12_holds_171 : decode cX12_holds 171 = .ok (.istore 7, 2) := by decide +kernel
theorem dX12_holds_173 : decode cX12_holds 173 = .ok (.iload 6, 2) := by decide +kernel
theorem dX12_holds_175 : decode cX12_holds 175 = .ok (.bipush 7, 2) := by decide +kernel
theorem dX12_holds_177 : decode cX12_holds 177 = .ok (.if_icmp .ne 5, 3) := by decide +kernel
theorem dX12_holds_180 : decode cX12_holds 180 = .ok (.iconst 1, 1) := by decide +kernel
theorem dX12_holds_181 : decode cX12_holds 181 = .ok (.ireturn, 1) := by decide +kernel
theorem dX12_holds_182 : decode cX12_holds 182 = .ok (.iload 7, 2) := by decide +kernel
theorem dX12_holds_184 : decode cX12_holds 184 = .ok (.iload_n 1, 1) := by decide +kernel
theorem dX12_holds_185 : decode cX12_holds 185 = .ok (.iconst 1, 1) := by decide +kernel
theorem dX12_holds_186 : decode cX12_holds 186 = .ok (.iand, 1) := by decide +kernel
theorem dX12_holds_187 : decode cX12_holds 187 = .ok (.ifCond .ne 7, 3) := by decide +kernel
theorem dX12_holds_190 : decode cX12_holds 190 = .ok (.iconst 1, 1) := by decide +kernel
theorem dX12_holds_191 : decode cX12_holds 191 = .ok (.goto 4, 3) := by decide +kernel
theorem dX12_holds_194 : decode cX12_holds 194 = .ok (.iconst 0, 1) := by decide +kernel
theorem dX12_holds_195 : decode cX12_holds 195 = .ok (.if_icmp .ne 7, 3) := by decide +kernel
theorem dX12_holds_198 : decode cX12_holds 198 = .ok (.iconst 1, 1) := by decide +kernel
theorem dX12_holds_199 : decode cX12_holds 199 = .ok (.goto 4, 3) := by decide +kernel
theorem dX12_holds_202 : decode cX12_holds 202 = .ok (.iconst 0, 1) := by decide +kernel
theorem dX12_holds_203 : decode cX12_holds 203 = .ok (.ireturn, 1) := by decide +kernel
def F_X12_holds_c195 (σ : MS) (a0 : Int32) (s0 : Bool) (s1 : Bool) : Bool := (if s0 = s1 then true else false)
def F_X12_holds_c173 (σ : MS) (a0 : Int32) (w6 : Int32) (w7 : Bool) : Bool := (if w6 = (7 : Int32) then true else (if (a0 &&& (1 : Int32)) = 0 then (F_X12_holds_c195 σ a0 w7 true) else (F_X12_holds_c195 σ a0 w7 false)))
def F_X12_holds_c171 (σ : MS) (a0 : Int32) (w6 : Int32) (s0 : Bool) : Bool := (F_X12_holds_c173 σ a0 w6 s0)
def F_X12_holds_c170 (σ : MS) (a0 : Int32) (w6 : Int32) : Bool := (F_X12_holds_c171 σ a0 w6 false)
def F_X12_holds_c149 (σ : MS) (a0 : Int32) (w2 : Bool) (w3 : Bool) (w5 : Bool) (w6 : Int32) (w7 : Bool) : Bool := (if w6 = (6 : Int32) then (if w2 = w5 then (if w3 = true then (F_X12_holds_c170 σ a0 w6) else (F_X12_holds_c171 σ a0 w6 true)) else (F_X12_holds_c170 σ a0 w6)) else (F_X12_holds_c173 σ a0 w6 w7))
def F_X12_holds_c147 (σ : MS) (a0 : Int32) (w2 : Bool) (w3 : Bool) (w5 : Bool) (w6 : Int32) (s0 : Bool) : Bool := (F_X12_holds_c149 σ a0 w2 w3 w5 w6 s0)
def F_X12_holds_c130 (σ : MS) (a0 : Int32) (w2 : Bool) (w3 : Bool) (w5 : Bool) (w6 : Int32) (w7 : Bool) : Bool := (if w6 = (5 : Int32) then (if w2 = w5 then (F_X12_holds_c147 σ a0 w2 w3 w5 w6 true) else (F_X12_holds_c147 σ a0 w2 w3 w5 w6 false)) else (F_X12_holds_c149 σ a0 w2 w3 w5 w6 w7))
def F_X12_holds_c128 (σ : MS) (a0 : Int32) (w2 : Bool) (w3 : Bool) (w5 : Bool) (w6 : Int32) (s0 : Bool) : Bool := (F_X12_holds_c130 σ a0 w2 w3 w5 w6 s0)
def F_X12_holds_c127 (σ : MS) (a0 : Int32) (w2 : Bool) (w3 : Bool) (w5 : Bool) (w6 : Int32) : Bool := (F_X12_holds_c128 σ a0 w2 w3 w5 w6 false)
def F_X12_holds_c108 (σ : MS) (a0 : Int32) (w2 : Bool) (w3 : Bool) (w4 : Bool) (w5 : Bool) (w6 : Int32) (w7 : Bool) : Bool := (if w6 = (4 : Int32) then (if w4 = true then (if w3 = true then (F_X12_holds_c127 σ a0 w2 w3 w5 w6) else (F_X12_holds_c128 σ a0 w2 w3 w5 w6 true)) else (F_X12_holds_c127 σ a0 w2 w3 w5 w6)) else (F_X12_holds_c130 σ a0 w2 w3 w5 w6 w7))
def F_X12_holds_c98 (σ : MS) (a0 : Int32) (w2 : Bool) (w3 : Bool) (w4 : Bool) (w5 : Bool) (w6 : Int32) (w7 : Bool) : Bool := (if w6 = (3 : Int32) then (F_X12_holds_c108 σ a0 w2 w3 w4 w5 w6 w5) else (F_X12_holds_c108 σ a0 w2 w3 w4 w5 w6 w7))
def F_X12_holds_c89 (σ : MS) (a0 : Int32) (w2 : Bool) (w3 : Bool) (w4 : Bool) (w5 : Bool) (w6 : Int32) (w7 : Bool) : Bool := (if w6 = (2 : Int32) then (F_X12_holds_c98 σ a0 w2 w3 w4 w5 w6 w2) else (F_X12_holds_c98 σ a0 w2 w3 w4 w5 w6 w7))
def F_X12_holds_c79 (σ : MS) (a0 : Int32) (w2 : Bool) (w3 : Bool) (w4 : Bool) (w5 : Bool) (w6 : Int32) (w7 : Bool) : Bool := (if w6 = (1 : Int32) then (F_X12_holds_c89 σ a0 w2 w3 w4 w5 w6 w4) else (F_X12_holds_c89 σ a0 w2 w3 w4 w5 w6 w7))
def F_X12_holds_c68 (σ : MS) (a0 : Int32) (w2 : Bool) (w3 : Bool) (w4 : Bool) (w5 : Bool) (w6 : Int32) : Bool := (if w6 = 0 then (F_X12_holds_c79 σ a0 w2 w3 w4 w5 w6 w3) else (F_X12_holds_c79 σ a0 w2 w3 w4 w5 w6 true))
def F_X12_holds_c61 (σ : MS) (a0 : Int32) (w2 : Bool) (w3 : Bool) (w4 : Bool) (s0 : Bool) : Bool := (F_X12_holds_c68 σ a0 w2 w3 w4 s0 (a0 >>> ((1 : Int32) &&& 31)))
def F_X12_holds_c45 (σ : MS) (a0 : Int32) (w2 : Bool) (w3 : Bool) (s0 : Bool) : Bool := (if ((m_flags σ) &&& (1 : Int32)) = 0 then (F_X12_holds_c61 σ a0 w2 w3 s0 false) else (F_X12_holds_c61 σ a0 w2 w3 s0 true))
def F_X12_holds_c30 (σ : MS) (a0 : Int32) (w2 : Bool) (s0 : Bool) : Bool := (if ((m_flags σ) &&& (2 : Int32)) = 0 then (F_X12_holds_c45 σ a0 w2 s0 false) else (F_X12_holds_c45 σ a0 w2 s0 true))
def F_X12_holds_c15 (σ : MS) (a0 : Int32) (s0 : Bool) : Bool := (if ((m_flags σ) &&& (4 : Int32)) = 0 then (F_X12_holds_c30 σ a0 s0 false) else (F_X12_holds_c30 σ a0 s0 true))
def F_X12_holds (σ : MS) (a0 : Int32) : Bool := (if ((m_flags σ) &&& (8 : Int32)) = 0 then (F_X12_holds_c15 σ a0 false) else (F_X12_holds_c15 σ a0 true))
set_option maxHeartbeats 4000000 in
set_option maxRecDepth 100000 in
theorem c_X12_holds (l : Launch) (z : Cx) (r : Nat → Nat) (σ : MS) (a0 : Int32) (res : Bool) (hf : F_X12_holds σ a0 = res) : Met l yX12_holds (wsC yX12_holds cX12_holds 8 (some .boolean)) { frames := 0, cells := 0, slots := 0, locals := 0 } (rPc z (mW z r σ) [.ref (r 0), .int a0]) (gS (some (.int (zB res)))) 0 0 (fun _ => False) := by
  refine mk_r_z (own := RX12) (by decide) rfl _ (Nat.le_of_ble_eq_true rfl) (fun p e s m below meth c H locs Q ls S hK hP hl hend => ?_)
  have hx := S.1
  have hb := S.2.1
  have hown := S.2.2.2.1
  have hts := S.2.2.2.2
  have hl : lv_has ls 8 [(0, .ref (r 0)), (1, .int a0)] := hl
  have J_c195 : ∀ (s0 : Bool) (s1 : Bool) (ls : Array Slot), F_X12_holds_c195 σ a0 s0 s1 = res → lv_has ls 8 [] → W p l e { frames := 0, cells := 0, slots := 0, locals := 0 } s m ([.ref (r 0), .int a0] : List Value).toArray below meth c H locs 0 0 Q (F0 m 195 ls [.int (zB s1), .int (zB s0)]) := by
    intro s0 s1 ls hf hl
    unfold F_X12_holds_c195 at hf
    refine gz_cne (tgt := 202) hx hb dX12_holds_195 (by decide) (fun c_195 => ?_) (fun c_195 => ?_)
    · rw [if_neg c_195] at hf
      refine lv_iconst (v := 0) hx hb dX12_holds_202 (by decide) ?_
      exact hend false 203 ls hf dX12_holds_203
    · rw [if_pos c_195] at hf
      refine lv_iconst (v := 1) hx hb dX12_holds_198 (by decide) ?_
      refine lv_goto (tgt := 203) hx hb dX12_holds_199 (by decide) ?_
      exact hend true 203 ls hf dX12_holds_203
  have J_c173 : ∀ (w6 : Int32) (w7 : Bool) (ls : Array Slot), F_X12_holds_c173 σ a0 w6 w7 = res → lv_has ls 8 [(1, .int a0), (6, .int w6), (7, .int (zB w7))] → W p l e { frames := 0, cells := 0, slots := 0, locals := 0 } s m ([.ref (r 0), .int a0] : List Value).toArray below meth c H locs 0 0 Q (F0 m 173 ls []) := by
    intro w6 w7 ls hf hl
    unfold F_X12_holds_c173 at hf
    refine lv_iload hx hb dX12_holds_173 (lv_at hl 1 rfl) ?_
    refine lv_bipush (v := 7) hx hb dX12_holds_175 (by decide) ?_
    refine lv_icmp_ne (tgt := 182) hx hb dX12_holds_177 (by decide) (fun c_177 => ?_) (fun c_177 => ?_)
    · rw [if_neg c_177] at hf
      refine lv_iload hx hb dX12_holds_182 (lv_at hl 2 rfl) ?_
      refine lv_iload_n hx hb dX12_holds_184 rfl (lv_at hl 0 rfl) ?_
      refine lv_iconst (v := 1) hx hb dX12_holds_185 (by decide) ?_
      refine lv_iand hx hb dX12_holds_186 ?_
      refine lv_if_ne (tgt := 194) hx hb dX12_holds_187 (by decide) (fun c_187 => ?_) (fun c_187 => ?_)
      · rw [if_neg c_187] at hf
        refine lv_iconst (v := 0) hx hb dX12_holds_194 (by decide) ?_
        exact J_c195 w7 false ls hf (lv_sub hl [] rfl)
      · rw [if_pos c_187] at hf
        refine lv_iconst (v := 1) hx hb dX12_holds_190 (by decide) ?_
        refine lv_goto (tgt := 195) hx hb dX12_holds_191 (by decide) ?_
        exact J_c195 w7 true ls hf (lv_sub hl [] rfl)
    · rw [if_pos c_177] at hf
      refine lv_iconst (v := 1) hx hb dX12_holds_180 (by decide) ?_
      exact hend true 181 ls hf dX12_holds_181
  have J_c171 : ∀ (w6 : Int32) (s0 : Bool) (ls : Array Slot), F_X12_holds_c171 σ a0 w6 s0 = res → lv_has ls 8 [(1, .int a0), (6, .int w6)] → W p l e { frames := 0, cells := 0, slots := 0, locals := 0 } s m ([.ref (r 0), .int a0] : List Value).toArray below meth c H locs 0 0 Q (F0 m 171 ls [.int (zB s0)]) := by
    intro w6 s0 ls hf hl
    unfold F_X12_holds_c171 at hf
    refine lv_istore (lv' := [(7, .int (zB s0)), (1, .int a0), (6, .int w6)]) hx hb dX12_holds_171 hl (by decide) rfl (fun ls hl => ?_)
    exact J_c173 w6 s0 ls hf (lv_sub hl [1, 2, 0] rfl)
  have J_c170 : ∀ (w6 : Int32) (ls : Array Slot), F_X12_holds_c170 σ a0 w6 = res → lv_has ls 8 [(1, .int a0), (6, .int w6)] → W p l e { frames := 0, cells := 0, slots := 0, locals := 0 } s m ([.ref (r 0), .int a0] : List Value).toArray below meth c H locs 0 0 Q (F0 m 170 ls []) := by
    intro w6 ls hf hl
    unfold F_X12_holds_c170 at hf
    refine lv_iconst (v := 0) hx hb dX12_holds_170 (by decide) ?_
    exact J_c171 w6 false ls hf (lv_sub hl [0, 1] rfl)
  have J_c149 : ∀ (w2 : Bool) (w3 : Bool) (w5 : Bool) (w6 : Int32) (w7 : Bool) (ls : Array Slot), F_X12_holds_c149 σ a0 w2 w3 w5 w6 w7 = res → lv_has ls 8 [(1, .int a0), (2, .int (zB w2)), (3, .int (zB w3)), (5, .int (zB w5)), (6, .int w6), (7, .int (zB w7))] → W p l e { frames := 0, cells := 0, slots := 0, locals := 0 } s m ([.ref (r 0), .int a0] : List Value).toArray below meth c H locs 0 0 Q (F0 m 149 ls []) := by
    intro w2 w3 w5 w6 w7 ls hf hl
    unfold F_X12_holds_c149 at hf
    refine lv_iload hx hb dX12_holds_149 (lv_at hl 4 rfl) ?_
    refine lv_bipush (v := 6) hx hb dX12_holds_151 (by decide) ?_
    refine lv_icmp_ne (tgt := 173) hx hb dX12_holds_153 (by decide) (fun c_153 => ?_) (fun c_153 => ?_)
    · rw [if_neg c_153] at hf
      exact J_c173 w6 w7 ls hf (lv_sub hl [0, 4, 5] rfl)
    · rw [if_pos c_153] at hf
      refine lv_iload_n hx hb dX12_holds_156 rfl (lv_at hl 1 rfl) ?_
      refine lv_iload hx hb dX12_holds_157 (lv_at hl 3 rfl) ?_
      refine gz_cne (tgt := 170) hx hb dX12_holds_159 (by decide) (fun c_159 => ?_) (fun c_159 => ?_)
      · rw [if_neg c_159] at hf
        exact J_c170 w6 ls hf (lv_sub hl [0, 4] rfl)
      · rw [if_pos c_159] at hf
        refine lv_iload_n hx hb dX12_holds_162 rfl (lv_at hl 2 rfl) ?_
        refine gz_ne (tgt := 170) hx hb dX12_holds_163 (by decide) (fun c_163 => ?_) (fun c_163 => ?_)
        · rw [if_pos c_163] at hf
          exact J_c170 w6 ls hf (lv_sub hl [0, 4] rfl)
        · rw [if_neg c_163] at hf
          refine lv_iconst (v := 1) hx hb dX12_holds_166 (by decide) ?_
          refine lv_goto (tgt := 171) hx hb dX12_holds_167 (by decide) ?_
          exact J_c171 w6 true ls hf (lv_sub hl [0, 4] rfl)
  have J_c147 : ∀ (w2 : Bool) (w3 : Bool) (w5 : Bool) (w6 : Int32) (s0 : Bool) (ls : Array Slot), F_X12_holds_c147 σ a0 w2 w3 w5 w6 s0 = res → lv_has ls 8 [(1, .int a0), (2, .int (zB w2)), (3, .int (zB w3)), (5, .int (zB w5)), (6, .int w6)] → W p l e { frames := 0, cells := 0, slots := 0, locals := 0 } s m ([.ref (r 0), .int a0] : List Value).toArray below meth c H locs 0 0 Q (F0 m 147 ls [.int (zB s0)]) := by
    intro w2 w3 w5 w6 s0 ls hf hl
    unfold F_X12_holds_c147 at hf
    refine lv_istore (lv' := [(7, .int (zB s0)), (1, .int a0), (2, .int (zB w2)), (3, .int (zB w3)), (5, .int (zB w5)), (6, .int w6)]) hx hb dX12_holds_147 hl (by decide) rfl (fun ls hl => ?_)
    exact J_c149 w2 w3 w5 w6 s0 ls hf (lv_sub hl [1, 2, 3, 4, 5, 0] rfl)
  have J_c130 : ∀ (w2 : Bool) (w3 : Bool) (w5 : Bool) (w6 : Int32) (w7 : Bool) (ls : Array Slot), F_X12_holds_c130 σ a0 w2 w3 w5 w6 w7 = res → lv_has ls 8 [(1, .int a0), (2, .int (zB w2)), (3, .int (zB w3)), (5, .int (zB w5)), (6, .int w6), (7, .int (zB w7))] → W p l e { frames := 0, cells := 0, slots := 0, locals := 0 } s m ([.ref (r 0), .int a0] : List Value).toArray below meth c H locs 0 0 Q (F0 m 130 ls []) := by
    intro w2 w3 w5 w6 w7 ls hf hl
    unfold F_X12_holds_c130 at hf
    refine lv_iload hx hb dX12_holds_130 (lv_at hl 4 rfl) ?_
    refine lv_iconst (v := 5) hx hb dX12_holds_132 (by decide) ?_
    refine lv_icmp_ne (tgt := 149) hx hb dX12_holds_133 (by decide) (fun c_133 => ?_) (fun c_133 => ?_)
    · rw [if_neg c_133] at hf
      exact J_c149 w2 w3 w5 w6 w7 ls hf (lv_sub hl [0, 1, 2, 3, 4, 5] rfl)
    · rw [if_pos c_133] at hf
      refine lv_iload_n hx hb dX12_holds_136 rfl (lv_at hl 1 rfl) ?_
      refine lv_iload hx hb dX12_holds_137 (lv_at hl 3 rfl) ?_
      refine gz_cne (tgt := 146) hx hb dX12_holds_139 (by decide) (fun c_139 => ?_) (fun c_139 => ?_)
      · rw [if_neg c_139] at hf
        refine lv_iconst (v := 0) hx hb dX12_holds_146 (by decide) ?_
        exact J_c147 w2 w3 w5 w6 false ls hf (lv_sub hl [0, 1, 2, 3, 4] rfl)
      · rw [if_pos c_139] at hf
        refine lv_iconst (v := 1) hx hb dX12_holds_142 (by decide) ?_
        refine lv_goto (tgt := 147) hx hb dX12_holds_143 (by decide) ?_
        exact J_c147 w2 w3 w5 w6 true ls hf (lv_sub hl [0, 1, 2, 3, 4] rfl)
  have J_c128 : ∀ (w2 : Bool) (w3 : Bool) (w5 : Bool) (w6 : Int32) (s0 : Bool) (ls : Array Slot), F_X12_holds_c128 σ a0 w2 w3 w5 w6 s0 = res → lv_has ls 8 [(1, .int a0), (2, .int (zB w2)), (3, .int (zB w3)), (5, .int (zB w5)), (6, .int w6)] → W p l e { frames := 0, cells := 0, slots := 0, locals := 0 } s m ([.ref (r 0), .int a0] : List Value).toArray below meth c H locs 0 0 Q (F0 m 128 ls [.int (zB s0)]) := by
    intro w2 w3 w5 w6 s0 ls hf hl
    unfold F_X12_holds_c128 at hf
    refine lv_istore (lv' := [(7, .int (zB s0)), (1, .int a0), (2, .int (zB w2)), (3, .int (zB w3)), (5, .int (zB w5)), (6, .int w6)]) hx hb dX12_holds_128 hl (by decide) rfl (fun ls hl => ?_)
    exact J_c130 w2 w3 w5 w6 s0 ls hf (lv_sub hl [1, 2, 3, 4, 5, 0] rfl)
  have J_c127 : ∀ (w2 : Bool) (w3 : Bool) (w5 : Bool) (w6 : Int32) (ls : Array Slot), F_X12_holds_c127 σ a0 w2 w3 w5 w6 = res → lv_has ls 8 [(1, .int a0), (2, .int (zB w2)), (3, .int (zB w3)), (5, .int (zB w5)), (6, .int w6)] → W p l e { frames := 0, cells := 0, slots := 0, locals := 0 } s m ([.ref (r 0), .int a0] : List Value).toArray below meth c H locs 0 0 Q (F0 m 127 ls []) := by
    intro w2 w3 w5 w6 ls hf hl
    unfold F_X12_holds_c127 at hf
    refine lv_iconst (v := 0) hx hb dX12_holds_127 (by decide) ?_
    exact J_c128 w2 w3 w5 w6 false ls hf (lv_sub hl [0, 1, 2, 3, 4] rfl)
  have J_c108 : ∀ (w2 : Bool) (w3 : Bool) (w4 : Bool) (w5 : Bool) (w6 : Int32) (w7 : Bool) (ls : Array Slot), F_X12_holds_c108 σ a0 w2 w3 w4 w5 w6 w7 = res → lv_has ls 8 [(1, .int a0), (2, .int (zB w2)), (3, .int (zB w3)), (4, .int (zB w4)), (5, .int (zB w5)), (6, .int w6), (7, .int (zB w7))] → W p l e { frames := 0, cells := 0, slots := 0, locals := 0 } s m ([.ref (r 0), .int a0] : List Value).toArray below meth c H locs 0 0 Q (F0 m 108 ls []) := by
    intro w2 w3 w4 w5 w6 w7 ls hf hl
    unfold F_X12_holds_c108 at hf
    refine lv_iload hx hb dX12_holds_108 (lv_at hl 5 rfl) ?_
    refine lv_iconst (v := 4) hx hb dX12_holds_110 (by decide) ?_
    refine lv_icmp_ne (tgt := 130) hx hb dX12_holds_111 (by decide) (fun c_111 => ?_) (fun c_111 => ?_)
    · rw [if_neg c_111] at hf
      exact J_c130 w2 w3 w5 w6 w7 ls hf (lv_sub hl [0, 1, 2, 4, 5, 6] rfl)
    · rw [if_pos c_111] at hf
      refine lv_iload hx hb dX12_holds_114 (lv_at hl 3 rfl) ?_
      refine gz_eq (tgt := 127) hx hb dX12_holds_116 (by decide) (fun c_116 => ?_) (fun c_116 => ?_)
      · rw [if_neg c_116] at hf
        exact J_c127 w2 w3 w5 w6 ls hf (lv_sub hl [0, 1, 2, 4, 5] rfl)
      · rw [if_pos c_116] at hf
        refine lv_iload_n hx hb dX12_holds_119 rfl (lv_at hl 2 rfl) ?_
        refine gz_ne (tgt := 127) hx hb dX12_holds_120 (by decide) (fun c_120 => ?_) (fun c_120 => ?_)
        · rw [if_pos c_120] at hf
          exact J_c127 w2 w3 w5 w6 ls hf (lv_sub hl [0, 1, 2, 4, 5] rfl)
        · rw [if_neg c_120] at hf
          refine lv_iconst (v := 1) hx hb dX12_holds_123 (by decide) ?_
          refine lv_goto (tgt := 128) hx hb dX12_holds_124 (by decide) ?_
          exact J_c128 w2 w3 w5 w6 true ls hf (lv_sub hl [0, 1, 2, 4, 5] rfl)
  have J_c98 : ∀ (w2 : Bool) (w3 : Bool) (w4 : Bool) (w5 : Bool) (w6 : Int32) (w7 : Bool) (ls : Array Slot), F_X12_holds_c98 σ a0 w2 w3 w4 w5 w6 w7 = res → lv_has ls 8 [(1, .int a0), (2, .int (zB w2)), (3, .int (zB w3)), (4, .int (zB w4)), (5, .int (zB w5)), (6, .int w6), (7, .int (zB w7))] → W p l e { frames := 0, cells := 0, slots := 0, locals := 0 } s m ([.ref (r 0), .int a0] : List Value).toArray below meth c H locs 0 0 Q (F0 m 98 ls []) := by
    intro w2 w3 w4 w5 w6 w7 ls hf hl
    unfold F_X12_holds_c98 at hf
    refine lv_iload hx hb dX12_holds_98 (lv_at hl 5 rfl) ?_
    refine lv_iconst (v := 3) hx hb dX12_holds_100 (by decide) ?_
    refine lv_icmp_ne (tgt := 108) hx hb dX12_holds_101 (by decide) (fun c_101 => ?_) (fun c_101 => ?_)
    · rw [if_neg c_101] at hf
      exact J_c108 w2 w3 w4 w5 w6 w7 ls hf (lv_sub hl [0, 1, 2, 3, 4, 5, 6] rfl)
    · rw [if_pos c_101] at hf
      refine lv_iload hx hb dX12_holds_104 (lv_at hl 4 rfl) ?_
      refine lv_istore (lv' := [(7, .int (zB w5)), (1, .int a0), (2, .int (zB w2)), (3, .int (zB w3)), (4, .int (zB w4)), (5, .int (zB w5)), (6, .int w6)]) hx hb dX12_holds_106 hl (by decide) rfl (fun ls hl => ?_)
      exact J_c108 w2 w3 w4 w5 w6 w5 ls hf (lv_sub hl [1, 2, 3, 4, 5, 6, 0] rfl)
  have J_c89 : ∀ (w2 : Bool) (w3 : Bool) (w4 : Bool) (w5 : Bool) (w6 : Int32) (w7 : Bool) (ls : Array Slot), F_X12_holds_c89 σ a0 w2 w3 w4 w5 w6 w7 = res → lv_has ls 8 [(1, .int a0), (2, .int (zB w2)), (3, .int (zB w3)), (4, .int (zB w4)), (5, .int (zB w5)), (6, .int w6), (7, .int (zB w7))] → W p l e { frames := 0, cells := 0, slots := 0, locals := 0 } s m ([.ref (r 0), .int a0] : List Value).toArray below meth c H locs 0 0 Q (F0 m 89 ls []) := by
    intro w2 w3 w4 w5 w6 w7 ls hf hl
    unfold F_X12_holds_c89 at hf
    refine lv_iload hx hb dX12_holds_89 (lv_at hl 5 rfl) ?_
    refine lv_iconst (v := 2) hx hb dX12_holds_91 (by decide) ?_
    refine lv_icmp_ne (tgt := 98) hx hb dX12_holds_92 (by decide) (fun c_92 => ?_) (fun c_92 => ?_)
    · rw [if_neg c_92] at hf
      exact J_c98 w2 w3 w4 w5 w6 w7 ls hf (lv_sub hl [0, 1, 2, 3, 4, 5, 6] rfl)
    · rw [if_pos c_92] at hf
      refine lv_iload_n hx hb dX12_holds_95 rfl (lv_at hl 1 rfl) ?_
      refine lv_istore (lv' := [(7, .int (zB w2)), (1, .int a0), (2, .int (zB w2)), (3, .int (zB w3)), (4, .int (zB w4)), (5, .int (zB w5)), (6, .int w6)]) hx hb dX12_holds_96 hl (by decide) rfl (fun ls hl => ?_)
      exact J_c98 w2 w3 w4 w5 w6 w2 ls hf (lv_sub hl [1, 2, 3, 4, 5, 6, 0] rfl)
  have J_c79 : ∀ (w2 : Bool) (w3 : Bool) (w4 : Bool) (w5 : Bool) (w6 : Int32) (w7 : Bool) (ls : Array Slot), F_X12_holds_c79 σ a0 w2 w3 w4 w5 w6 w7 = res → lv_has ls 8 [(1, .int a0), (2, .int (zB w2)), (3, .int (zB w3)), (4, .int (zB w4)), (5, .int (zB w5)), (6, .int w6), (7, .int (zB w7))] → W p l e { frames := 0, cells := 0, slots := 0, locals := 0 } s m ([.ref (r 0), .int a0] : List Value).toArray below meth c H locs 0 0 Q (F0 m 79 ls []) := by
    intro w2 w3 w4 w5 w6 w7 ls hf hl
    unfold F_X12_holds_c79 at hf
    refine lv_iload hx hb dX12_holds_79 (lv_at hl 5 rfl) ?_
    refine lv_iconst (v := 1) hx hb dX12_holds_81 (by decide) ?_
    refine lv_icmp_ne (tgt := 89) hx hb dX12_holds_82 (by decide) (fun c_82 => ?_) (fun c_82 => ?_)
    · rw [if_neg c_82] at hf
      exact J_c89 w2 w3 w4 w5 w6 w7 ls hf (lv_sub hl [0, 1, 2, 3, 4, 5, 6] rfl)
    · rw [if_pos c_82] at hf
      refine lv_iload hx hb dX12_holds_85 (lv_at hl 3 rfl) ?_
      refine lv_istore (lv' := [(7, .int (zB w4)), (1, .int a0), (2, .int (zB w2)), (3, .int (zB w3)), (4, .int (zB w4)), (5, .int (zB w5)), (6, .int w6)]) hx hb dX12_holds_87 hl (by decide) rfl (fun ls hl => ?_)
      exact J_c89 w2 w3 w4 w5 w6 w4 ls hf (lv_sub hl [1, 2, 3, 4, 5, 6, 0] rfl)
  have J_c68 : ∀ (w2 : Bool) (w3 : Bool) (w4 : Bool) (w5 : Bool) (w6 : Int32) (ls : Array Slot), F_X12_holds_c68 σ a0 w2 w3 w4 w5 w6 = res → lv_has ls 8 [(1, .int a0), (2, .int (zB w2)), (3, .int (zB w3)), (4, .int (zB w4)), (5, .int (zB w5)), (6, .int w6)] → W p l e { frames := 0, cells := 0, slots := 0, locals := 0 } s m ([.ref (r 0), .int a0] : List Value).toArray below meth c H locs 0 0 Q (F0 m 68 ls []) := by
    intro w2 w3 w4 w5 w6 ls hf hl
    unfold F_X12_holds_c68 at hf
    refine lv_iconst (v := 1) hx hb dX12_holds_68 (by decide) ?_
    refine lv_istore (lv' := [(7, .int (1 : Int32)), (1, .int a0), (2, .int (zB w2)), (3, .int (zB w3)), (4, .int (zB w4)), (5, .int (zB w5)), (6, .int w6)]) hx hb dX12_holds_69 hl (by decide) rfl (fun ls hl => ?_)
    refine lv_iload hx hb dX12_holds_71 (lv_at hl 6 rfl) ?_
    refine lv_if_ne (tgt := 79) hx hb dX12_holds_73 (by decide) (fun c_73 => ?_) (fun c_73 => ?_)
    · rw [if_neg c_73] at hf
      exact J_c79 w2 w3 w4 w5 w6 true ls hf (lv_sub hl [1, 2, 3, 4, 5, 6, 0] rfl)
    · rw [if_pos c_73] at hf
      refine lv_iload_n hx hb dX12_holds_76 rfl (lv_at hl 3 rfl) ?_
      refine lv_istore (lv' := [(7, .int (zB w3)), (1, .int a0), (2, .int (zB w2)), (3, .int (zB w3)), (4, .int (zB w4)), (5, .int (zB w5)), (6, .int w6)]) hx hb dX12_holds_77 hl (by decide) rfl (fun ls hl => ?_)
      exact J_c79 w2 w3 w4 w5 w6 w3 ls hf (lv_sub hl [1, 2, 3, 4, 5, 6, 0] rfl)
  have J_c61 : ∀ (w2 : Bool) (w3 : Bool) (w4 : Bool) (s0 : Bool) (ls : Array Slot), F_X12_holds_c61 σ a0 w2 w3 w4 s0 = res → lv_has ls 8 [(1, .int a0), (2, .int (zB w2)), (3, .int (zB w3)), (4, .int (zB w4))] → W p l e { frames := 0, cells := 0, slots := 0, locals := 0 } s m ([.ref (r 0), .int a0] : List Value).toArray below meth c H locs 0 0 Q (F0 m 61 ls [.int (zB s0)]) := by
    intro w2 w3 w4 s0 ls hf hl
    unfold F_X12_holds_c61 at hf
    refine lv_istore (lv' := [(5, .int (zB s0)), (1, .int a0), (2, .int (zB w2)), (3, .int (zB w3)), (4, .int (zB w4))]) hx hb dX12_holds_61 hl (by decide) rfl (fun ls hl => ?_)
    refine lv_iload_n hx hb dX12_holds_63 rfl (lv_at hl 1 rfl) ?_
    refine lv_iconst (v := 1) hx hb dX12_holds_64 (by decide) ?_
    refine lv_ishr hx hb dX12_holds_65 ?_
    refine lv_istore (lv' := [(6, .int (a0 >>> ((1 : Int32) &&& 31))), (5, .int (zB s0)), (1, .int a0), (2, .int (zB w2)), (3, .int (zB w3)), (4, .int (zB w4))]) hx hb dX12_holds_66 hl (by decide) rfl (fun ls hl => ?_)
    exact J_c68 w2 w3 w4 s0 (a0 >>> ((1 : Int32) &&& 31)) ls hf (lv_sub hl [2, 3, 4, 5, 1, 0] rfl)
  have J_c45 : ∀ (w2 : Bool) (w3 : Bool) (s0 : Bool) (ls : Array Slot), F_X12_holds_c45 σ a0 w2 w3 s0 = res → lv_has ls 8 [(0, .ref (r 0)), (1, .int a0), (2, .int (zB w2)), (3, .int (zB w3))] → W p l e { frames := 0, cells := 0, slots := 0, locals := 0 } s m ([.ref (r 0), .int a0] : List Value).toArray below meth c H locs 0 0 Q (F0 m 45 ls [.int (zB s0)]) := by
    intro w2 w3 s0 ls hf hl
    unfold F_X12_holds_c45 at hf
    refine lv_istore (lv' := [(4, .int (zB s0)), (0, .ref (r 0)), (1, .int a0), (2, .int (zB w2)), (3, .int (zB w3))]) hx hb dX12_holds_45 hl (by decide) rfl (fun ls hl => ?_)
    refine lv_aload_n hx hb dX12_holds_47 rfl (lv_at hl 1 rfl) ?_
    refine fg_X12_flags S hK hP tf_X12_25 dX12_holds_48 ?_
    refine lv_iconst (v := 1) hx hb dX12_holds_51 (by decide) ?_
    refine lv_iand hx hb dX12_holds_52 ?_
    refine lv_if_eq (tgt := 60) hx hb dX12_holds_53 (by decide) (fun c_53 => ?_) (fun c_53 => ?_)
    · rw [if_pos c_53] at hf
      refine lv_iconst (v := 0) hx hb dX12_holds_60 (by decide) ?_
      exact J_c61 w2 w3 s0 false ls hf (lv_sub hl [2, 3, 4, 0] rfl)
    · rw [if_neg c_53] at hf
      refine lv_iconst (v := 1) hx hb dX12_holds_56 (by decide) ?_
      refine lv_goto (tgt := 61) hx hb dX12_holds_57 (by decide) ?_
      exact J_c61 w2 w3 s0 true ls hf (lv_sub hl [2, 3, 4, 0] rfl)
  have J_c30 : ∀ (w2 : Bool) (s0 : Bool) (ls : Array Slot), F_X12_holds_c30 σ a0 w2 s0 = res → lv_has ls 8 [(0, .ref (r 0)), (1, .int a0), (2, .int (zB w2))] → W p l e { frames := 0, cells := 0, slots := 0, locals := 0 } s m ([.ref (r 0), .int a0] : List Value).toArray below meth c H locs 0 0 Q (F0 m 30 ls [.int (zB s0)]) := by
    intro w2 s0 ls hf hl
    unfold F_X12_holds_c30 at hf
    refine lv_istore_n (lv' := [(3, .int (zB s0)), (0, .ref (r 0)), (1, .int a0), (2, .int (zB w2))]) hx hb dX12_holds_30 rfl hl (by decide) rfl (fun ls hl => ?_)
    refine lv_aload_n hx hb dX12_holds_31 rfl (lv_at hl 1 rfl) ?_
    refine fg_X12_flags S hK hP tf_X12_25 dX12_holds_32 ?_
    refine lv_iconst (v := 2) hx hb dX12_holds_35 (by decide) ?_
    refine lv_iand hx hb dX12_holds_36 ?_
    refine lv_if_eq (tgt := 44) hx hb dX12_holds_37 (by decide) (fun c_37 => ?_) (fun c_37 => ?_)
    · rw [if_pos c_37] at hf
      refine lv_iconst (v := 0) hx hb dX12_holds_44 (by decide) ?_
      exact J_c45 w2 s0 false ls hf (lv_sub hl [1, 2, 3, 0] rfl)
    · rw [if_neg c_37] at hf
      refine lv_iconst (v := 1) hx hb dX12_holds_40 (by decide) ?_
      refine lv_goto (tgt := 45) hx hb dX12_holds_41 (by decide) ?_
      exact J_c45 w2 s0 true ls hf (lv_sub hl [1, 2, 3, 0] rfl)
  have J_c15 : ∀ (s0 : Bool) (ls : Array Slot), F_X12_holds_c15 σ a0 s0 = res → lv_has ls 8 [(0, .ref (r 0)), (1, .int a0)] → W p l e { frames := 0, cells := 0, slots := 0, locals := 0 } s m ([.ref (r 0), .int a0] : List Value).toArray below meth c H locs 0 0 Q (F0 m 15 ls [.int (zB s0)]) := by
    intro s0 ls hf hl
    unfold F_X12_holds_c15 at hf
    refine lv_istore_n (lv' := [(2, .int (zB s0)), (0, .ref (r 0)), (1, .int a0)]) hx hb dX12_holds_15 rfl hl (by decide) rfl (fun ls hl => ?_)
    refine lv_aload_n hx hb dX12_holds_16 rfl (lv_at hl 1 rfl) ?_
    refine fg_X12_flags S hK hP tf_X12_25 dX12_holds_17 ?_
    refine lv_iconst (v := 4) hx hb dX12_holds_20 (by decide) ?_
    refine lv_iand hx hb dX12_holds_21 ?_
    refine lv_if_eq (tgt := 29) hx hb dX12_holds_22 (by decide) (fun c_22 => ?_) (fun c_22 => ?_)
    · rw [if_pos c_22] at hf
      refine lv_iconst (v := 0) hx hb dX12_holds_29 (by decide) ?_
      exact J_c30 s0 false ls hf (lv_sub hl [1, 2, 0] rfl)
    · rw [if_neg c_22] at hf
      refine lv_iconst (v := 1) hx hb dX12_holds_25 (by decide) ?_
      refine lv_goto (tgt := 30) hx hb dX12_holds_26 (by decide) ?_
      exact J_c30 s0 true ls hf (lv_sub hl [1, 2, 0] rfl)
  unfold F_X12_holds at hf
  refine lv_aload_n hx hb dX12_holds_0 rfl (lv_at hl 0 rfl) ?_
  refine fg_X12_flags S hK hP tf_X12_25 dX12_holds_1 ?_
  refine lv_bipush (v := 8) hx hb dX12_holds_4 (by decide) ?_
  refine lv_iand hx hb dX12_holds_6 ?_
  refine lv_if_eq (tgt := 14) hx hb dX12_holds_7 (by decide) (fun c_7 => ?_) (fun c_7 => ?_)
  · rw [if_pos c_7] at hf
    refine lv_iconst (v := 0) hx hb dX12_holds_14 (by decide) ?_
    exact J_c15 false ls hf (lv_sub hl [0, 1] rfl)
  · rw [if_neg c_7] at hf
    refine lv_iconst (v := 1) hx hb dX12_holds_10 (by decide) ?_
    refine lv_goto (tgt := 15) hx hb dX12_holds_11 (by decide) ?_
    exact J_c15 true ls hf (lv_sub hl [0, 1] rfl)
theorem k_X12_holds {p : Program} {l : Launch} {e : Env} {R : Room} {s : State} {m : MethodId} {args : Array Value} {below : List Frame} {meth : Method} {c : Code} {H : Heap} {locs : List Loc} {Q : State → Prop} {cc : ByteArray} {pc : Nat} {ls : Array Slot} {rest : List Value} {own : String} {index nL : Nat} {z : Cx} {r : Nat → Nat} {σ : MS} {a0 : Int32} (S : CallFix p m c cc nL s args tbG own) (hK : va_K z.1 vwCl (cxT z) s) (hP : va_P z.1 vwCl (mW z r σ) H) (hl : Cond.methodLink own index yX12_holds ∈ tbG) (hR : 0 + 1 ≤ R.frames ∧ 8 + (8 + 11) + 0 ≤ R.locals) (hsz : ls.size = nL) (hcat : (rest.map fun v => v.category).sum ≤ 8) (hdg : decode cc pc = .ok (.invokevirtual index, 3)) (kk : W p l e R s m args below meth c H locs 0 0 Q (F0 m (pc + 3) ls (.int (zB (F_X12_holds σ a0)) :: rest))) : W p l e R s m args below meth c H locs 0 0 Q (F0 m pc ls (.int a0 :: .ref (r 0) :: rest)) :=
  kr (As := [.int a0]) (ov := some (.int (zB (F_X12_holds σ a0)))) (q0 := 0) (ci := 11) S hK hP (c_X12_holds l z r σ a0 _ rfl) ⟨tb_cB 1 S.2.2.2.2 tc_X12_holds ti_X12 hl rfl rfl (by decide +kernel) hR, S.2.2.2.2 _ tm_X12_holds, S.2.2.2.2 _ te_X12_holds⟩ rfl rfl rfl rfl hsz rfl hcat hdg kk

theorem dX12_f_0 : decode cX12_f 0 = .ok (.iconst 0, 1) := by decide +kernel
theorem dX12_f_1 : decode cX12_f 1 = .ok (.istore_n 3, 1) := by decide +kernel
theorem dX12_f_2 : decode cX12_f 2 = .ok (.iload_n 1, 1) := by decide +kernel
theorem dX12_f_3 : decode cX12_f 3 = .ok (.istore 4, 2) := by decide +kernel
theorem dX12_f_5 : decode cX12_f 5 = .ok (.iload 4, 2) := by decide +kernel
theorem dX12_f_7 : decode cX12_f 7 = .ok (.iload_n 2, 1) := by decide +kernel
theorem dX12_f_8 : decode cX12_f 8 = .ok (.if_icmp .lt 23, 3) := by decide +kernel
theorem dX12_f_11 : decode cX12_f 11 = .ok (.iload_n 3, 1) := by decide +kernel
theorem dX12_f_12 : decode cX12_f 12 = .ok (.iconst 1, 1) := by decide +kernel
theorem dX12_f_13 : decode cX12_f 13 = .ok (.ishl, 1) := by decide +kernel
theorem dX12_f_14 : decode cX12_f 14 = .ok (.aload_n 0, 1) := by decide +kernel
theorem dX12_f_15 : decode cX12_f 15 = .ok (.getfield 57, 3) := by decide +kernel
theorem dX12_f_18 : decode cX12_f 18 = .ok (.iload 4, 2) := by decide +kernel
theorem dX12_f_20 : decode cX12_f 20 = .ok (.ishr, 1) := by decide +kernel
theorem dX12_f_21 : decode cX12_f 21 = .ok (.iconst 1, 1) := by decide +kernel
theorem dX12_f_22 : decode cX12_f 22 = .ok (.iand, 1) := by decide +kernel
theorem dX12_f_23 : decode cX12_f 23 = .ok (.ior, 1) := by decide +kernel
theorem dX12_f_24 : decode cX12_f 24 = .ok (.istore_n 3, 1) := by decide +kernel
theorem dX12_f_25 : decode cX12_f 25 = .ok (.iinc 4 (-1), 3) := by decide +kernel
theorem dX12_f_28 : decode cX12_f 28 = .ok (.goto (-23), 3) := by decide +kernel
theorem dX12_f_31 : decode cX12_f 31 = .ok (.iload_n 3, 1) := by decide +kernel
theorem dX12_f_32 : decode cX12_f 32 = .ok (.ireturn, 1) := by decide +kernel
def F_X12_f_c5 : Nat → MS → Int32 → Int32 → Int32 → Int32 → Option (Int32)
  | 0, _, _, _, _, _ => none
  | n + 1, σ, a0, a1, w3, w4 => (if w4 < a1 then some (w3) else (F_X12_f_c5 n σ a0 a1 ((w3 <<< ((1 : Int32) &&& 31)) ||| (((m_ins σ) >>> (w4 &&& 31)) &&& (1 : Int32))) (w4 + (-1))))
def F_X12_f (σ : MS) (a0 : Int32) (a1 : Int32) : Option (Int32) := (F_X12_f_c5 70 σ a0 a1 (0 : Int32) a0)
set_option maxHeartbeats 4000000 in
set_option maxRecDepth 100000 in
theorem c_X12_f (l : Launch) (z : Cx) (r : Nat → Nat) (σ : MS) (a0 : Int32) (a1 : Int32) (res : Int32) (hf : F_X12_f σ a0 a1 = some res) : Met l yX12_f (wsC yX12_f cX12_f 5 (some .int)) { frames := 0, cells := 0, slots := 0, locals := 0 } (rPc z (mW z r σ) [.ref (r 0), .int a0, .int a1]) (gS (some (.int res))) 0 0 (fun _ => False) := by
  refine mk_r_i (own := RX12) (by decide) rfl _ (Nat.le_of_ble_eq_true rfl) (fun p e s m below meth c H locs Q ls S hK hP hl hend => ?_)
  have hx := S.1
  have hb := S.2.1
  have hown := S.2.2.2.1
  have hts := S.2.2.2.2
  have hl : lv_has ls 5 [(0, .ref (r 0)), (1, .int a0), (2, .int a1)] := hl
  have J_c5 : ∀ (n : Nat) (w3 : Int32) (w4 : Int32) (ls : Array Slot), F_X12_f_c5 n σ a0 a1 w3 w4 = some res → lv_has ls 5 [(0, .ref (r 0)), (2, .int a1), (3, .int w3), (4, .int w4)] → W p l e { frames := 0, cells := 0, slots := 0, locals := 0 } s m ([.ref (r 0), .int a0, .int a1] : List Value).toArray below meth c H locs 0 0 Q (F0 m 5 ls []) := by
    intro n
    induction n with
    | zero => intro w3 w4 ls hf; rw [F_X12_f_c5] at hf; cases hf
    | succ n ih =>
      intro w3 w4 ls hf hl
      rw [F_X12_f_c5] at hf
      refine lv_iload hx hb dX12_f_5 (lv_at hl 3 rfl) ?_
      refine lv_iload_n hx hb dX12_f_7 rfl (lv_at hl 1 rfl) ?_
      refine lv_icmp_lt (tgt := 31) hx hb dX12_f_8 (by decide) (fun c_8 => ?_) (fun c_8 => ?_)
      · rw [if_pos c_8] at hf
        refine lv_iload_n hx hb dX12_f_31 rfl (lv_at hl 2 rfl) ?_
        exact hend w3 32 ls (Option.some.inj hf) dX12_f_32
      · rw [if_neg c_8] at hf
        refine lv_iload_n hx hb dX12_f_11 rfl (lv_at hl 2 rfl) ?_
        refine lv_iconst (v := 1) hx hb dX12_f_12 (by decide) ?_
        refine lv_ishl hx hb dX12_f_13 ?_
        refine lv_aload_n hx hb dX12_f_14 rfl (lv_at hl 0 rfl) ?_
        refine fg_X12_ins S hK hP tf_X12_57 dX12_f_15 ?_
        refine lv_iload hx hb dX12_f_18 (lv_at hl 3 rfl) ?_
        refine lv_ishr hx hb dX12_f_20 ?_
        refine lv_iconst (v := 1) hx hb dX12_f_21 (by decide) ?_
        refine lv_iand hx hb dX12_f_22 ?_
        refine lv_ior hx hb dX12_f_23 ?_
        refine lv_istore_n (lv' := [(3, .int ((w3 <<< ((1 : Int32) &&& 31)) ||| (((m_ins σ) >>> (w4 &&& 31)) &&& (1 : Int32)))), (0, .ref (r 0)), (2, .int a1), (4, .int w4)]) hx hb dX12_f_24 rfl hl (by decide) rfl (fun ls hl => ?_)
        refine lv_iinc (v := w4 + (-1)) (lv' := [(4, .int (w4 + (-1))), (3, .int ((w3 <<< ((1 : Int32) &&& 31)) ||| (((m_ins σ) >>> (w4 &&& 31)) &&& (1 : Int32)))), (0, .ref (r 0)), (2, .int a1)]) hx hb dX12_f_25 hl (k := 3) rfl rfl (by decide) rfl (fun ls hl => ?_)
        refine lv_goto (tgt := 5) hx hb dX12_f_28 (by decide) ?_
        exact ih ((w3 <<< ((1 : Int32) &&& 31)) ||| (((m_ins σ) >>> (w4 &&& 31)) &&& (1 : Int32))) (w4 + (-1)) ls hf (lv_sub hl [2, 3, 1, 0] rfl)
  unfold F_X12_f at hf
  refine lv_iconst (v := 0) hx hb dX12_f_0 (by decide) ?_
  refine lv_istore_n (lv' := [(3, .int (0 : Int32)), (0, .ref (r 0)), (1, .int a0), (2, .int a1)]) hx hb dX12_f_1 rfl hl (by decide) rfl (fun ls hl => ?_)
  refine lv_iload_n hx hb dX12_f_2 rfl (lv_at hl 2 rfl) ?_
  refine lv_istore (lv' := [(4, .int a0), (3, .int (0 : Int32)), (0, .ref (r 0)), (1, .int a0), (2, .int a1)]) hx hb dX12_f_3 hl (by decide) rfl (fun ls hl => ?_)
  exact J_c5 70 (0 : Int32) a0 ls hf (lv_sub hl [2, 4, 1, 0] rfl)
theorem k_X12_f {p : Program} {l : Launch} {e : Env} {R : Room} {s : State} {m : MethodId} {args : Array Value} {below : List Frame} {meth : Method} {c : Code} {H : Heap} {locs : List Loc} {Q : State → Prop} {cc : ByteArray} {pc : Nat} {ls : Array Slot} {rest : List Value} {own : String} {index nL : Nat} {z : Cx} {r : Nat → Nat} {σ : MS} {a0 : Int32} {a1 : Int32} {res : Int32} (hres : F_X12_f σ a0 a1 = some res) (S : CallFix p m c cc nL s args tbG own) (hK : va_K z.1 vwCl (cxT z) s) (hP : va_P z.1 vwCl (mW z r σ) H) (hl : Cond.methodLink own index yX12_f ∈ tbG) (hR : 0 + 1 ≤ R.frames ∧ 8 + (5 + 11) + 0 ≤ R.locals) (hsz : ls.size = nL) (hcat : (rest.map fun v => v.category).sum ≤ 8) (hdg : decode cc pc = .ok (.invokevirtual index, 3)) (kk : W p l e R s m args below meth c H locs 0 0 Q (F0 m (pc + 3) ls (.int res :: rest))) : W p l e R s m args below meth c H locs 0 0 Q (F0 m pc ls (.int a1 :: .int a0 :: .ref (r 0) :: rest)) :=
  kr (As := [.int a0, .int a1]) (ov := some (.int res)) (q0 := 0) (ci := 11) S hK hP (c_X12_f l z r σ a0 a1 _ hres) ⟨tb_cB 2 S.2.2.2.2 tc_X12_f ti_X12 hl rfl rfl (by decide +kernel) hR, S.2.2.2.2 _ tm_X12_f, S.2.2.2.2 _ te_X12_f⟩ rfl rfl rfl rfl hsz rfl hcat hdg kk

theorem dX12_on_0 : decode cX12_on 0 = .ok (.aload_n 0, 1) := by decide +kernel
theorem dX12_on_1 : decode cX12_on 1 = .ok (.getfield 57, 3) := by decide +kernel
theorem dX12_on_4 : decode cX12_on 4 = .ok (.iload_n 1, 1) := by decide +kernel
theorem dX12_on_5 : decode cX12_on 5 = .ok (.ishr, 1) := by decide +kernel
theorem dX12_on_6 : decode cX12_on 6 = .ok (.iconst 1, 1) := by decide +kernel
theorem dX12_on_7 : decode cX12_on 7 = .ok (.iand, 1) := by decide +kernel
theorem dX12_on_8 : decode cX12_on 8 = .ok (.iconst 1, 1) := by decide +kernel
theorem dX12_on_9 : decode cX12_on 9 = .ok (.if_icmp .ne 7, 3) := by decide +kernel
theorem dX12_on_12 : decode cX12_on 12 = .ok (.iconst 1, 1) := by decide +kernel
theorem dX12_on_13 : decode cX12_on 13 = .ok (.goto 4, 3) := by decide +kernel
theorem dX12_on_16 : decode cX12_on 16 = .ok (.iconst 0, 1) := by decide +kernel
theorem dX12_on_17 : decode cX12_on 17 = .ok (.ireturn, 1) := by decide +kernel
def F_X12_on (σ : MS) (a0 : Int32) : Bool := (if (((m_ins σ) >>> (a0 &&& 31)) &&& (1 : Int32)) = (1 : Int32) then true else false)
set_option maxHeartbeats 4000000 in
set_option maxRecDepth 100000 in
theorem c_X12_on (l : Launch) (z : Cx) (r : Nat → Nat) (σ : MS) (a0 : Int32) (res : Bool) (hf : F_X12_on σ a0 = res) : Met l yX12_on (wsC yX12_on cX12_on 2 (some .boolean)) { frames := 0, cells := 0, slots := 0, locals := 0 } (rPc z (mW z r σ) [.ref (r 0), .int a0]) (gS (some (.int (zB res)))) 0 0 (fun _ => False) := by
  refine mk_r_z (own := RX12) (by decide) rfl _ (Nat.le_of_ble_eq_true rfl) (fun p e s m below meth c H locs Q ls S hK hP hl hend => ?_)
  have hx := S.1
  have hb := S.2.1
  have hown := S.2.2.2.1
  have hts := S.2.2.2.2
  have hl : lv_has ls 2 [(0, .ref (r 0)), (1, .int a0)] := hl
  unfold F_X12_on at hf
  refine lv_aload_n hx hb dX12_on_0 rfl (lv_at hl 0 rfl) ?_
  refine fg_X12_ins S hK hP tf_X12_57 dX12_on_1 ?_
  refine lv_iload_n hx hb dX12_on_4 rfl (lv_at hl 1 rfl) ?_
  refine lv_ishr hx hb dX12_on_5 ?_
  refine lv_iconst (v := 1) hx hb dX12_on_6 (by decide) ?_
  refine lv_iand hx hb dX12_on_7 ?_
  refine lv_iconst (v := 1) hx hb dX12_on_8 (by decide) ?_
  refine lv_icmp_ne (tgt := 16) hx hb dX12_on_9 (by decide) (fun c_9 => ?_) (fun c_9 => ?_)
  · rw [if_neg c_9] at hf
    refine lv_iconst (v := 0) hx hb dX12_on_16 (by decide) ?_
    exact hend false 17 ls hf dX12_on_17
  · rw [if_pos c_9] at hf
    refine lv_iconst (v := 1) hx hb dX12_on_12 (by decide) ?_
    refine lv_goto (tgt := 17) hx hb dX12_on_13 (by decide) ?_
    exact hend true 17 ls hf dX12_on_17
theorem k_X12_on {p : Program} {l : Launch} {e : Env} {R : Room} {s : State} {m : MethodId} {args : Array Value} {below : List Frame} {meth : Method} {c : Code} {H : Heap} {locs : List Loc} {Q : State → Prop} {cc : ByteArray} {pc : Nat} {ls : Array Slot} {rest : List Value} {own : String} {index nL : Nat} {z : Cx} {r : Nat → Nat} {σ : MS} {a0 : Int32} (S : CallFix p m c cc nL s args tbG own) (hK : va_K z.1 vwCl (cxT z) s) (hP : va_P z.1 vwCl (mW z r σ) H) (hl : Cond.methodLink own index yX12_on ∈ tbG) (hR : 0 + 1 ≤ R.frames ∧ 8 + (2 + 11) + 0 ≤ R.locals) (hsz : ls.size = nL) (hcat : (rest.map fun v => v.category).sum ≤ 8) (hdg : decode cc pc = .ok (.invokevirtual index, 3)) (kk : W p l e R s m args below meth c H locs 0 0 Q (F0 m (pc + 3) ls (.int (zB (F_X12_on σ a0)) :: rest))) : W p l e R s m args below meth c H locs 0 0 Q (F0 m pc ls (.int a0 :: .ref (r 0) :: rest)) :=
  kr (As := [.int a0]) (ov := some (.int (zB (F_X12_on σ a0)))) (q0 := 0) (ci := 11) S hK hP (c_X12_on l z r σ a0 _ rfl) ⟨tb_cB 1 S.2.2.2.2 tc_X12_on ti_X12 hl rfl rfl (by decide +kernel) hR, S.2.2.2.2 _ tm_X12_on, S.2.2.2.2 _ te_X12_on⟩ rfl rfl rfl rfl hsz rfl hcat hdg kk

theorem dX12_width_0 : decode cX12_width 0 = .ok (.aload_n 0, 1) := by decide +kernel
theorem dX12_width_1 : decode cX12_width 1 = .ok (.bipush 31, 2) := by decide +kernel
theorem dX12_width_3 : decode cX12_width 3 = .ok (.invokevirtual 118, 3) := by decide +kernel
theorem dX12_width_6 : decode cX12_width 6 = .ok (.ifCond .eq 6, 3) := by decide +kernel
theorem dX12_width_9 : decode cX12_width 9 = .ok (.bipush 64, 2) := by decide +kernel
theorem dX12_width_11 : decode cX12_width 11 = .ok (.ireturn, 1) := by decide +kernel
theorem dX12_width_12 : decode cX12_width 12 = .ok (.bipush 32, 2) := by decide +kernel
theorem dX12_width_14 : decode cX12_width 14 = .ok (.ireturn, 1) := by decide +kernel
def F_X12_width (σ : MS)  : Int32 := (if (F_X12_on σ (31 : Int32)) = true then (64 : Int32) else (32 : Int32))
set_option maxHeartbeats 4000000 in
set_option maxRecDepth 100000 in
theorem c_X12_width (l : Launch) (z : Cx) (r : Nat → Nat) (σ : MS) (res : Int32) (hf : F_X12_width σ = res) : Met l yX12_width (wsC yX12_width cX12_width 1 (some .int)) { frames := 1, cells := 0, slots := 0, locals := 21 } (rPc z (mW z r σ) [.ref (r 0)]) (gS (some (.int res))) 0 0 (fun _ => False) := by
  refine mk_r_i (own := RX12) (by decide) rfl _ (Nat.le_of_ble_eq_true rfl) (fun p e s m below meth c H locs Q ls S hK hP hl hend => ?_)
  have hx := S.1
  have hb := S.2.1
  have hown := S.2.2.2.1
  have hts := S.2.2.2.2
  have hl : lv_has ls 1 [(0, .ref (r 0))] := hl
  unfold F_X12_width at hf
  refine lv_aload_n hx hb dX12_width_0 rfl (lv_at hl 0 rfl) ?_
  refine lv_bipush (v := 31) hx hb dX12_width_1 (by decide) ?_
  refine k_X12_on (a0 := (31 : Int32)) S hK hP tl_X12_118 ⟨Nat.le_of_ble_eq_true rfl, Nat.le_of_ble_eq_true rfl⟩ hl.1 (Nat.le_of_ble_eq_true rfl) dX12_width_3 ?_
  refine gz_eq (tgt := 12) hx hb dX12_width_6 (by decide) (fun c_6 => ?_) (fun c_6 => ?_)
  · rw [if_neg c_6] at hf
    refine lv_bipush (v := 32) hx hb dX12_width_12 (by decide) ?_
    exact hend (32 : Int32) 14 ls hf dX12_width_14
  · rw [if_pos c_6] at hf
    refine lv_bipush (v := 64) hx hb dX12_width_9 (by decide) ?_
    exact hend (64 : Int32) 11 ls hf dX12_width_11
theorem k_X12_width {p : Program} {l : Launch} {e : Env} {R : Room} {s : State} {m : MethodId} {args : Array Value} {below : List Frame} {meth : Method} {c : Code} {H : Heap} {locs : List Loc} {Q : State → Prop} {cc : ByteArray} {pc : Nat} {ls : Array Slot} {rest : List Value} {own : String} {index nL : Nat} {z : Cx} {r : Nat → Nat} {σ : MS} (S : CallFix p m c cc nL s args tbG own) (hK : va_K z.1 vwCl (cxT z) s) (hP : va_P z.1 vwCl (mW z r σ) H) (hl : Cond.methodLink own index yX12_width ∈ tbG) (hR : 1 + 1 ≤ R.frames ∧ 8 + (1 + 11) + 21 ≤ R.locals) (hsz : ls.size = nL) (hcat : (rest.map fun v => v.category).sum ≤ 8) (hdg : decode cc pc = .ok (.invokevirtual index, 3)) (kk : W p l e R s m args below meth c H locs 0 0 Q (F0 m (pc + 3) ls (.int (F_X12_width σ) :: rest))) : W p l e R s m args below meth c H locs 0 0 Q (F0 m pc ls (.ref (r 0) :: rest)) :=
  kr (As := []) (ov := some (.int (F_X12_width σ))) (q0 := 0) (ci := 11) S hK hP (c_X12_width l z r σ _ rfl) ⟨tb_cB 0 S.2.2.2.2 tc_X12_width ti_X12 hl rfl rfl (by decide +kernel) hR, S.2.2.2.2 _ tm_X12_width, S.2.2.2.2 _ te_X12_width⟩ rfl rfl rfl rfl hsz rfl hcat hdg kk

theorem dX12_signed_0 : decode cX12_signed 0 = .ok (.aload_n 0, 1) := by decide +kernel
theorem dX12_signed_1 : decode cX12_signed 1 = .ok (.iload_n 1, 1) := by decide +kernel
theorem dX12_signed_2 : decode cX12_signed 2 = .ok (.iload_n 2, 1) := by decide +kernel
theorem dX12_signed_3 : decode cX12_signed 3 = .ok (.invokevirtual 121, 3) := by decide +kernel
theorem dX12_signed_6 : decode cX12_signed 6 = .ok (.i2l, 1) := by decide +kernel
theorem dX12_signed_7 : decode cX12_signed 7 = .ok (.iload_n 1, 1) := by decide +kernel
theorem dX12_signed_8 : decode cX12_signed 8 = .ok (.iload_n 2, 1) := by decide +kernel
theorem dX12_signed_9 : decode cX12_signed 9 = .ok (.isub, 1) := by decide +kernel
theorem dX12_signed_10 : decode cX12_signed 10 = .ok (.iconst 1, 1) := by decide +kernel
theorem dX12_signed_11 : decode cX12_signed 11 = .ok (.iadd, 1) := by decide +kernel
theorem dX12_signed_12 : decode cX12_signed 12 = .ok (.invokestatic 125, 3) := by decide +kernel
theorem dX12_signed_15 : decode cX12_signed 15 = .ok (.lreturn, 1) := by decide +kernel
def F_X12_signed (σ : MS) (a0 : Int32) (a1 : Int32) : Option (Int64) := ((F_X12_f σ a0 a1).bind fun v1 => ((F_X12_extend v1.toInt64 ((a0 - a1) + (1 : Int32))).bind fun v2 => some (v2)))
set_option maxHeartbeats 4000000 in
set_option maxRecDepth 100000 in
theorem c_X12_signed (l : Launch) (z : Cx) (r : Nat → Nat) (σ : MS) (a0 : Int32) (a1 : Int32) (res : Int64) (hf : F_X12_signed σ a0 a1 = some res) : Met l yX12_signed (wsC yX12_signed cX12_signed 3 (some .long)) { frames := 2, cells := 0, slots := 0, locals := 47 } (rPc z (mW z r σ) [.ref (r 0), .int a0, .int a1]) (gS (some (.long res))) 0 0 (fun _ => False) := by
  refine mk_r_l (own := RX12) (by decide) rfl _ (Nat.le_of_ble_eq_true rfl) (fun p e s m below meth c H locs Q ls S hK hP hl hend => ?_)
  have hx := S.1
  have hb := S.2.1
  have hown := S.2.2.2.1
  have hts := S.2.2.2.2
  have hl : lv_has ls 3 [(0, .ref (r 0)), (1, .int a0), (2, .int a1)] := hl
  unfold F_X12_signed at hf
  refine lv_aload_n hx hb dX12_signed_0 rfl (lv_at hl 0 rfl) ?_
  refine lv_iload_n hx hb dX12_signed_1 rfl (lv_at hl 1 rfl) ?_
  refine lv_iload_n hx hb dX12_signed_2 rfl (lv_at hl 2 rfl) ?_
  obtain ⟨v1, e_v1, hf⟩ := Option.bind_eq_some_iff.mp hf
  refine k_X12_f (a0 := a0) (a1 := a1) (res := v1) (hres := e_v1) S hK hP tl_X12_121 ⟨Nat.le_of_ble_eq_true rfl, Nat.le_of_ble_eq_true rfl⟩ hl.1 (Nat.le_of_ble_eq_true rfl) dX12_signed_3 ?_
  refine lv_i2l hx hb dX12_signed_6 rfl ?_
  refine lv_iload_n hx hb dX12_signed_7 rfl (lv_at hl 1 rfl) ?_
  refine lv_iload_n hx hb dX12_signed_8 rfl (lv_at hl 2 rfl) ?_
  refine lv_isub hx hb dX12_signed_9 ?_
  refine lv_iconst (v := 1) hx hb dX12_signed_10 (by decide) ?_
  refine lv_iadd hx hb dX12_signed_11 ?_
  obtain ⟨v2, e_v2, hf⟩ := Option.bind_eq_some_iff.mp hf
  refine k_X12_extend (a0 := v1.toInt64) (a1 := ((a0 - a1) + (1 : Int32))) (res := v2) (hres := e_v2) S tl_X12_125 ⟨Nat.le_of_ble_eq_true rfl, Nat.le_of_ble_eq_true rfl⟩ hl.1 (Nat.le_of_ble_eq_true rfl) dX12_signed_12 ?_
  exact hend v2 15 ls (Option.some.inj hf) dX12_signed_15
theorem k_X12_signed {p : Program} {l : Launch} {e : Env} {R : Room} {s : State} {m : MethodId} {args : Array Value} {below : List Frame} {meth : Method} {c : Code} {H : Heap} {locs : List Loc} {Q : State → Prop} {cc : ByteArray} {pc : Nat} {ls : Array Slot} {rest : List Value} {own : String} {index nL : Nat} {z : Cx} {r : Nat → Nat} {σ : MS} {a0 : Int32} {a1 : Int32} {res : Int64} (hres : F_X12_signed σ a0 a1 = some res) (S : CallFix p m c cc nL s args tbG own) (hK : va_K z.1 vwCl (cxT z) s) (hP : va_P z.1 vwCl (mW z r σ) H) (hl : Cond.methodLink own index yX12_signed ∈ tbG) (hR : 2 + 1 ≤ R.frames ∧ 8 + (3 + 11) + 47 ≤ R.locals) (hsz : ls.size = nL) (hcat : (rest.map fun v => v.category).sum ≤ 8) (hdg : decode cc pc = .ok (.invokevirtual index, 3)) (kk : W p l e R s m args below meth c H locs 0 0 Q (F0 m (pc + 3) ls (.long res :: rest))) : W p l e R s m args below meth c H locs 0 0 Q (F0 m pc ls (.int a1 :: .int a0 :: .ref (r 0) :: rest)) :=
  kr (As := [.int a0, .int a1]) (ov := some (.long res)) (q0 := 0) (ci := 11) S hK hP (c_X12_signed l z r σ a0 a1 _ hres) ⟨tb_cB 2 S.2.2.2.2 tc_X12_signed ti_X12 hl rfl rfl (by decide +kernel) hR, S.2.2.2.2 _ tm_X12_signed, S.2.2.2.2 _ te_X12_signed⟩ rfl rfl rfl rfl hsz rfl hcat hdg kk

theorem dX12_number_0 : decode cX12_number 0 = .ok (.aload_n 0, 1) := by decide +kernel
theorem dX12_number_1 : decode cX12_number 1 = .ok (.invokevirtual 129, 3) := by decide +kernel
theorem dX12_number_4 : decode cX12_number 4 = .ok (.istore_n 1, 1) := by decide +kernel
theorem dX12_number_5 : decode cX12_number 5 = .ok (.aload_n 0, 1) := by decide +kernel
theorem dX12_number_6 : decode cX12_number 6 = .ok (.bipush 21, 2) := by decide +kernel
theorem dX12_number_8 : decode cX12_number 8 = .ok (.bipush 10, 2) := by decide +kernel
theorem dX12_number_10 : decode cX12_number 10 = .ok (.invokevirtual 121, 3) := by decide +kernel
theorem dX12_number_13 : decode cX12_number 13 = .ok (.i2l, 1) := by decide +kernel
theorem dX12_number_14 : decode cX12_number 14 = .ok (.lstore_n 2, 1) := by decide +kernel
theorem dX12_number_15 : decode cX12_number 15 = .ok (.aload_n 0, 1) := by decide +kernel
theorem dX12_number_16 : decode cX12_number 16 = .ok (.bipush 22, 2) := by decide +kernel
theorem dX12_number_18 : decode cX12_number 18 = .ok (.invokevirtual 118, 3) := by decide +kernel
theorem dX12_number_21 : decode cX12_number 21 = .ok (.ifCond .eq 9, 3) := by decide +kernel
theorem dX12_number_24 : decode cX12_number 24 = .ok (.lload_n 2, 1) := by decide +kernel
theorem dX12_number_25 : decode cX12_number 25 = .ok (.ldc2_w 132, 3) := by decide +kernel
theorem dX12_number_28 : decode cX12_number 28 = .ok (.lmul, 1) := by decide +kernel
theorem dX12_number_29 : decode cX12_number 29 = .ok (.lstore_n 2, 1) := by decide +kernel
theorem dX12_number_30 : decode cX12_number 30 = .ok (.aload_n 0, 1) := by decide +kernel
theorem dX12_number_31 : decode cX12_number 31 = .ok (.aload_n 0, 1) := by decide +kernel
theorem dX12_number_32 : decode cX12_number 32 = .ok (.bipush 9, 2) := by decide +kernel
theorem dX12_number_34 : decode cX12_number 34 = .ok (.iconst 5, 1) := by decide +kernel
theorem dX12_number_35 : decode cX12_number 35 = .ok (.invokevirtual 121, 3) := by decide +kernel
theorem dX12_number_38 : decode cX12_number 38 = .ok (.invokevirtual 134, 3) := by decide +kernel
theorem dX12_number_41 : decode cX12_number 41 = .ok (.iload_n 1, 1) := by decide +kernel
theorem dX12_number_42 : decode cX12_number 42 = .ok (.invokestatic 138, 3) := by decide +kernel
theorem dX12_number_45 : decode cX12_number 45 = .ok (.lstore 4, 2) := by decide +kernel
theorem dX12_number_47 : decode cX12_number 47 = .ok (.lconst 0, 1) := by decide +kernel
theorem dX12_number_48 : decode cX12_number 48 = .ok (.lstore 6, 2) := by decide +kernel
theorem dX12_number_50 : decode cX12_number 50 = .ok (.aload_n 0, 1) := by decide +kernel
theorem dX12_number_51 : decode cX12_number 51 = .ok (.bipush 30, 2) := by decide +kernel
theorem dX12_number_53 : decode cX12_number 53 = .ok (.invokevirtual 118, 3) := by decide +kernel
theorem dX12_number_56 : decode cX12_number 56 = .ok (.ifCond .eq 25, 3) := by decide +kernel
theorem dX12_number_59 : decode cX12_number 59 = .ok (.aload_n 0, 1) := by decide +kernel
theorem dX12_number_60 : decode cX12_number 60 = .ok (.lload 4, 2) := by decide +kernel
theorem dX12_number_62 : decode cX12_number 62 = .ok (.lload_n 2, 1) := by decide +kernel
theorem dX12_number_63 : decode cX12_number 63 = .ok (.ldc2_w 141, 3) := by decide +kernel
theorem dX12_number_66 : decode cX12_number 66 = .ok (.lxor, 1) := by decide +kernel
theorem dX12_number_67 : decode cX12_number 67 = .ok (.iload_n 1, 1) := by decide +kernel
theorem dX12_number_68 : decode cX12_number 68 = .ok (.invokestatic 138, 3) := by decide +kernel
theorem dX12_number_71 : decode cX12_number 71 = .ok (.iconst 1, 1) := by decide +kernel
theorem dX12_number_72 : decode cX12_number 72 = .ok (.iload_n 1, 1) := by decide +kernel
theorem dX12_number_73 : decode cX12_number 73 = .ok (.invokevirtual 143, 3) := by decide +kernel
theorem dX12_number_76 : decode cX12_number 76 = .ok (.lstore 6, 2) := by decide +kernel
theorem dX12_number_78 : decode cX12_number 78 = .ok (.goto 14, 3) := by decide +kernel
theorem dX12_number_81 : decode cX12_number 81 = .ok (.aload_n 0, 1) := by decide +kernel
theorem dX12_number_82 : decode cX12_number 82 = .ok (.lload 4, 2) := by decide +kernel
theorem dX12_number_84 : decode cX12_number 84 = .ok (.lload_n 2, 1) := by decide +kernel
theorem dX12_number_85 : decode cX12_number 85 = .ok (.iconst 0, 1) := by decide +kernel
theorem dX12_number_86 : decode cX12_number 86 = .ok (.iload_n 1, 1) := by decide +kernel
theorem dX12_number_87 : decode cX12_number 87 = .ok (.invokevirtual 143, 3) := by decide +kernel
theorem dX12_number_90 : decode cX12_number 90 = .ok (.lstore 6, 2) := by decide +kernel
theorem dX12_number_92 : decode cX12_number 92 = .ok (.aload_n 0, 1) := by decide +kernel
theorem dX12_number_93 : decode cX12_number 93 = .ok (.bipush 29, 2) := by decide +kernel
theorem dX12_number_95 : decode cX12_number 95 = .ok (.invokevirtual 118, 3) := by decide +kernel
theorem dX12_number_98 : decode cX12_number 98 = .ok (.ifCond .eq 33, 3) := by decide +kernel
theorem dX12_number_101 : decode cX12_number 101 = .ok (.aload_n 0, 1) := by decide +kernel
theorem dX12_number_102 : decode cX12_number 102 = .ok (.lload 6, 2) := by decide +kernel
theorem dX12_number_104 : decode cX12_number 104 = .ok (.iload_n 1, 1) := by decide +kernel
theorem dX12_number_105 : decode cX12_number 105 = .ok (.aload_n 0, 1) := by decide +kernel
theorem dX12_number_106 : decode cX12_number 106 = .ok (.getfield 51, 3) := by decide +kernel
theorem dX12_number_109 : decode cX12_number 109 = .ok (.aload_n 0, 1) := by decide +kernel
theorem dX12_number_110 : decode cX12_number 110 = .ok (.getfield 54, 3) := by decide +kernel
theorem dX12_number_113 : decode cX12_number 113 = .ok (.invokevirtual 147, 3) := by decide +kernel
theorem dX12_number_116 : decode cX12_number 116 = .ok (.aload_n 0, 1) := by decide +kernel
theorem dX12_number_117 : decode cX12_number 117 = .ok (.aload_n 0, 1) := by decide +kernel
theorem dX12_number_118 : decode cX12_number 118 = .ok (.iconst 4, 1) := by decide +kernel
theorem dX12_number_119 : decode cX12_number 119 = .ok (.iconst 0, 1) := by decide +kernel
theorem dX12_number_120 : decode cX12_number 120 = .ok (.invokevirtual 121, 3) := by decide +kernel
theorem dX12_number_123 : decode cX12_number 123 = .ok (.lload 6, 2) := by decide +kernel
theorem dX12_number_125 : decode cX12_number 125 = .ok (.invokevirtual 151, 3) := by decide +kernel
theorem dX12_number_128 : decode cX12_number 128 = .ok (.goto 15, 3) := by decide +kernel
theorem dX12_number_131 : decode cX12_number 131 = .ok (.aload_n 0, 1) := by decide +kernel
theorem dX12_number_132 : decode cX12_number 132 = .ok (.aload_n 0, 1) := by decide +kernel
theorem dX12_number_133 : decode cX12_number 133 = .ok (.iconst 4, 1) := by decide +kernel
theorem dX12_number_134 : decode cX12_number 134 = .ok (.iconst 0, 1) := by decide +kernel
theorem dX12_number_135 : decode cX12_number 135 = .ok (.invokevirtual 121, 3) := by decide +kernel
theorem dX12_number_138 : decode cX12_number 138 = .ok (.lload 6, 2) := by decide +kernel
theorem dX12_number_140 : decode cX12_number 140 = .ok (.invokevirtual 155, 3) := by decide +kernel
theorem dX12_number_143 : decode cX12_number 143 = .ok (.return_, 1) := by decide +kernel
def F_X12_number_c92 (τ : MS) (w1 : Int32) (w6 : Int64) : Option (MS) := (if (F_X12_on τ (29 : Int32)) = true then ((F_X12_f (F_X12_signs τ w6 w1 (m_carry τ) (m_over τ)) (4 : Int32) (0 : Int32)).bind fun v7 => ((F_X12_put (F_X12_signs τ w6 w1 (m_carry τ) (m_over τ)) v7 w6).bind fun v8 => some (v8))) else ((F_X12_f τ (4 : Int32) (0 : Int32)).bind fun v5 => ((F_X12_putOrPointer τ v5 w6).bind fun v6 => some (v6))))
def F_X12_number_c47 (τ : MS) (w1 : Int32) (w2 : Int64) (w4 : Int64) : Option (MS) := (if (F_X12_on τ (30 : Int32)) = true then ((F_X12_sum τ w4 (F_X12_cut (w2 ^^^ (-1 : Int64)) w1) (1 : Int32) w1).bind fun v9 => (F_X12_number_c92 v9.2 w1 v9.1)) else ((F_X12_sum τ w4 w2 (0 : Int32) w1).bind fun v4 => (F_X12_number_c92 v4.2 w1 v4.1)))
def F_X12_number_c30 (τ : MS) (w1 : Int32) (w2 : Int64) : Option (MS) := ((F_X12_f τ (9 : Int32) (5 : Int32)).bind fun v2 => ((F_X12_regOrPointer τ v2).bind fun v3 => (F_X12_number_c47 τ w1 w2 (F_X12_cut v3 w1))))
def F_X12_number_c5 (τ : MS) (w1 : Int32) : Option (MS) := ((F_X12_f τ (21 : Int32) (10 : Int32)).bind fun v1 => (if (F_X12_on τ (22 : Int32)) = true then (F_X12_number_c30 τ w1 (v1.toInt64 * (4096 : Int64))) else (F_X12_number_c30 τ w1 v1.toInt64)))
def F_X12_number (σ : MS)  : Option (MS) := (F_X12_number_c5 σ (F_X12_width σ))
set_option maxHeartbeats 4000000 in
set_option maxRecDepth 100000 in
theorem c_X12_number (l : Launch) (z : Cx) (r : Nat → Nat) (σ : MS) (sz : Nat) (res : MS) (hf : F_X12_number σ = some res) : Met l yX12_number (wsC yX12_number cX12_number 8 none) { frames := 2, cells := 0, slots := 0, locals := 48 } (mPc z (mW z r σ) sz [.ref (r 0)]) (gM z (va_A (mW z r σ) sz) none (mW z r res)) 0 0 (va_A (mW z r σ) sz) := by
  refine mk_m_v (own := RX12) (wf := mW z r) (by decide) rfl sz _ (Nat.le_of_ble_eq_true rfl) (fun p e s m below meth c A H locs Q ls S hK hA hP hD hS hl hend => ?_)
  have hx := S.1
  have hb := S.2.1
  have hown := S.2.2.2.1
  have hts := S.2.2.2.2
  have hl : lv_has ls 8 [(0, .ref (r 0))] := hl
  have J_c92 : ∀ (τ : MS) (w1 : Int32) (w6 : Int64) (H : Heap) (locs : List Loc) (ls : Array Slot), F_X12_number_c92 τ w1 w6 = some res → va_P z.1 vwCl (mW z r τ) H → va_D A (mW z r τ) → va_S A s.heap H locs → lv_has ls 8 [(0, .ref (r 0)), (1, .int w1), (6, .long w6)] → W p l e { frames := 2, cells := 0, slots := 0, locals := 48 } s m ([.ref (r 0)] : List Value).toArray below meth c H locs 0 0 Q (F0 m 92 ls []) := by
    intro τ w1 w6 H locs ls hf hP hD hS hl
    unfold F_X12_number_c92 at hf
    refine lv_aload_n hx hb dX12_number_92 rfl (lv_at hl 0 rfl) ?_
    refine lv_bipush (v := 29) hx hb dX12_number_93 (by decide) ?_
    refine k_X12_on (a0 := (29 : Int32)) S hK hP tl_X12_118 ⟨Nat.le_of_ble_eq_true rfl, Nat.le_of_ble_eq_true rfl⟩ hl.1 (Nat.le_of_ble_eq_true rfl) dX12_number_95 ?_
    refine gz_eq (tgt := 131) hx hb dX12_number_98 (by decide) (fun c_98 => ?_) (fun c_98 => ?_)
    · rw [if_neg c_98] at hf
      refine lv_aload_n hx hb dX12_number_131 rfl (lv_at hl 0 rfl) ?_
      refine lv_aload_n hx hb dX12_number_132 rfl (lv_at hl 0 rfl) ?_
      refine lv_iconst (v := 4) hx hb dX12_number_133 (by decide) ?_
      refine lv_iconst (v := 0) hx hb dX12_number_134 (by decide) ?_
      obtain ⟨v5, e_v5, hf⟩ := Option.bind_eq_some_iff.mp hf
      refine k_X12_f (a0 := (4 : Int32)) (a1 := (0 : Int32)) (res := v5) (hres := e_v5) S hK hP tl_X12_121 ⟨Nat.le_of_ble_eq_true rfl, Nat.le_of_ble_eq_true rfl⟩ hl.1 (Nat.le_of_ble_eq_true rfl) dX12_number_135 ?_
      refine lv_lload hx hb dX12_number_138 (lv_at hl 2 rfl) ?_
      obtain ⟨v6, e_v6, hf⟩ := Option.bind_eq_some_iff.mp hf
      refine k_X12_putOrPointer (a0 := v5) (a1 := w6) (res := v6) (hres := e_v6) S hK hA hP hD hS tl_X12_155 ⟨Nat.le_of_ble_eq_true rfl, Nat.le_of_ble_eq_true rfl⟩ hl.1 (Nat.le_of_ble_eq_true rfl) dX12_number_140 (fun H locs hP hD hS => ?_)
      exact hend v6 H locs 143 ls (Option.some.inj hf) hP hD hS dX12_number_143
    · rw [if_pos c_98] at hf
      refine lv_aload_n hx hb dX12_number_101 rfl (lv_at hl 0 rfl) ?_
      refine lv_lload hx hb dX12_number_102 (lv_at hl 2 rfl) ?_
      refine lv_iload_n hx hb dX12_number_104 rfl (lv_at hl 1 rfl) ?_
      refine lv_aload_n hx hb dX12_number_105 rfl (lv_at hl 0 rfl) ?_
      refine fg_X12_carry S hK hP tf_X12_51 dX12_number_106 ?_
      refine lv_aload_n hx hb dX12_number_109 rfl (lv_at hl 0 rfl) ?_
      refine fg_X12_over S hK hP tf_X12_54 dX12_number_110 ?_
      refine k_X12_signs (a0 := w6) (a1 := w1) (a2 := (m_carry τ)) (a3 := (m_over τ)) S hK hA hP hD hS tl_X12_147 ⟨Nat.le_of_ble_eq_true rfl, Nat.le_of_ble_eq_true rfl⟩ hl.1 (Nat.le_of_ble_eq_true rfl) dX12_number_113 (fun H locs hP hD hS => ?_)
      refine lv_aload_n hx hb dX12_number_116 rfl (lv_at hl 0 rfl) ?_
      refine lv_aload_n hx hb dX12_number_117 rfl (lv_at hl 0 rfl) ?_
      refine lv_iconst (v := 4) hx hb dX12_number_118 (by decide) ?_
      refine lv_iconst (v := 0) hx hb dX12_number_119 (by decide) ?_
      obtain ⟨v7, e_v7, hf⟩ := Option.bind_eq_some_iff.mp hf
      refine k_X12_f (a0 := (4 : Int32)) (a1 := (0 : Int32)) (res := v7) (hres := e_v7) S hK hP tl_X12_121 ⟨Nat.le_of_ble_eq_true rfl, Nat.le_of_ble_eq_true rfl⟩ hl.1 (Nat.le_of_ble_eq_true rfl) dX12_number_120 ?_
      refine lv_lload hx hb dX12_number_123 (lv_at hl 2 rfl) ?_
      obtain ⟨v8, e_v8, hf⟩ := Option.bind_eq_some_iff.mp hf
      refine k_X12_put (a0 := v7) (a1 := w6) (res := v8) (hres := e_v8) S hK hA hP hD hS tl_X12_151 ⟨Nat.le_of_ble_eq_true rfl, Nat.le_of_ble_eq_true rfl⟩ hl.1 (Nat.le_of_ble_eq_true rfl) dX12_number_125 (fun H locs hP hD hS => ?_)
      refine lv_goto (tgt := 143) hx hb dX12_number_128 (by decide) ?_
      exact hend v8 H locs 143 ls (Option.some.inj hf) hP hD hS dX12_number_143
  have J_c47 : ∀ (τ : MS) (w1 : Int32) (w2 : Int64) (w4 : Int64) (H : Heap) (locs : List Loc) (ls : Array Slot), F_X12_number_c47 τ w1 w2 w4 = some res → va_P z.1 vwCl (mW z r τ) H → va_D A (mW z r τ) → va_S A s.heap H locs → lv_has ls 8 [(0, .ref (r 0)), (1, .int w1), (2, .long w2), (4, .long w4)] → W p l e { frames := 2, cells := 0, slots := 0, locals := 48 } s m ([.ref (r 0)] : List Value).toArray below meth c H locs 0 0 Q (F0 m 47 ls []) := by
    intro τ w1 w2 w4 H locs ls hf hP hD hS hl
    unfold F_X12_number_c47 at hf
    refine lv_lconst (v := 0) hx hb dX12_number_47 (by decide) ?_
    refine lv_lstore (lv' := [(6, .long (0 : Int64)), (0, .ref (r 0)), (1, .int w1), (2, .long w2), (4, .long w4)]) hx hb dX12_number_48 hl (by decide) rfl (fun ls hl => ?_)
    refine lv_aload_n hx hb dX12_number_50 rfl (lv_at hl 1 rfl) ?_
    refine lv_bipush (v := 30) hx hb dX12_number_51 (by decide) ?_
    refine k_X12_on (a0 := (30 : Int32)) S hK hP tl_X12_118 ⟨Nat.le_of_ble_eq_true rfl, Nat.le_of_ble_eq_true rfl⟩ hl.1 (Nat.le_of_ble_eq_true rfl) dX12_number_53 ?_
    refine gz_eq (tgt := 81) hx hb dX12_number_56 (by decide) (fun c_56 => ?_) (fun c_56 => ?_)
    · rw [if_neg c_56] at hf
      refine lv_aload_n hx hb dX12_number_81 rfl (lv_at hl 1 rfl) ?_
      refine lv_lload hx hb dX12_number_82 (lv_at hl 4 rfl) ?_
      refine lv_lload_n hx hb dX12_number_84 rfl (lv_at hl 3 rfl) ?_
      refine lv_iconst (v := 0) hx hb dX12_number_85 (by decide) ?_
      refine lv_iload_n hx hb dX12_number_86 rfl (lv_at hl 2 rfl) ?_
      obtain ⟨v4, e_v4, hf⟩ := Option.bind_eq_some_iff.mp hf
      refine k_X12_sum (a0 := w4) (a1 := w2) (a2 := (0 : Int32)) (a3 := w1) (res := v4) (hres := e_v4) S hK hA hP hD hS tl_X12_143 ⟨Nat.le_of_ble_eq_true rfl, Nat.le_of_ble_eq_true rfl⟩ hl.1 (Nat.le_of_ble_eq_true rfl) dX12_number_87 (fun H locs hP hD hS => ?_)
      refine lv_lstore (lv' := [(6, .long v4.1), (0, .ref (r 0)), (1, .int w1), (2, .long w2), (4, .long w4)]) hx hb dX12_number_90 hl (by decide) rfl (fun ls hl => ?_)
      exact J_c92 v4.2 w1 v4.1 H locs ls hf hP hD hS (lv_sub hl [1, 2, 0] rfl)
    · rw [if_pos c_56] at hf
      refine lv_aload_n hx hb dX12_number_59 rfl (lv_at hl 1 rfl) ?_
      refine lv_lload hx hb dX12_number_60 (lv_at hl 4 rfl) ?_
      refine lv_lload_n hx hb dX12_number_62 rfl (lv_at hl 3 rfl) ?_
      refine lv_ldc2 (v := -1) hx hb hown (hts _ tk_X12_141) dX12_number_63 ?_
      refine lv_lxor hx hb dX12_number_66 ?_
      refine lv_iload_n hx hb dX12_number_67 rfl (lv_at hl 2 rfl) ?_
      refine k_X12_cut (a0 := (w2 ^^^ (-1 : Int64))) (a1 := w1) S tl_X12_138 ⟨Nat.le_of_ble_eq_true rfl, Nat.le_of_ble_eq_true rfl⟩ hl.1 (Nat.le_of_ble_eq_true rfl) dX12_number_68 ?_
      refine lv_iconst (v := 1) hx hb dX12_number_71 (by decide) ?_
      refine lv_iload_n hx hb dX12_number_72 rfl (lv_at hl 2 rfl) ?_
      obtain ⟨v9, e_v9, hf⟩ := Option.bind_eq_some_iff.mp hf
      refine k_X12_sum (a0 := w4) (a1 := (F_X12_cut (w2 ^^^ (-1 : Int64)) w1)) (a2 := (1 : Int32)) (a3 := w1) (res := v9) (hres := e_v9) S hK hA hP hD hS tl_X12_143 ⟨Nat.le_of_ble_eq_true rfl, Nat.le_of_ble_eq_true rfl⟩ hl.1 (Nat.le_of_ble_eq_true rfl) dX12_number_73 (fun H locs hP hD hS => ?_)
      refine lv_lstore (lv' := [(6, .long v9.1), (0, .ref (r 0)), (1, .int w1), (2, .long w2), (4, .long w4)]) hx hb dX12_number_76 hl (by decide) rfl (fun ls hl => ?_)
      refine lv_goto (tgt := 92) hx hb dX12_number_78 (by decide) ?_
      exact J_c92 v9.2 w1 v9.1 H locs ls hf hP hD hS (lv_sub hl [1, 2, 0] rfl)
  have J_c30 : ∀ (τ : MS) (w1 : Int32) (w2 : Int64) (H : Heap) (locs : List Loc) (ls : Array Slot), F_X12_number_c30 τ w1 w2 = some res → va_P z.1 vwCl (mW z r τ) H → va_D A (mW z r τ) → va_S A s.heap H locs → lv_has ls 8 [(0, .ref (r 0)), (1, .int w1), (2, .long w2)] → W p l e { frames := 2, cells := 0, slots := 0, locals := 48 } s m ([.ref (r 0)] : List Value).toArray below meth c H locs 0 0 Q (F0 m 30 ls []) := by
    intro τ w1 w2 H locs ls hf hP hD hS hl
    unfold F_X12_number_c30 at hf
    refine lv_aload_n hx hb dX12_number_30 rfl (lv_at hl 0 rfl) ?_
    refine lv_aload_n hx hb dX12_number_31 rfl (lv_at hl 0 rfl) ?_
    refine lv_bipush (v := 9) hx hb dX12_number_32 (by decide) ?_
    refine lv_iconst (v := 5) hx hb dX12_number_34 (by decide) ?_
    obtain ⟨v2, e_v2, hf⟩ := Option.bind_eq_some_iff.mp hf
    refine k_X12_f (a0 := (9 : Int32)) (a1 := (5 : Int32)) (res := v2) (hres := e_v2) S hK hP tl_X12_121 ⟨Nat.le_of_ble_eq_true rfl, Nat.le_of_ble_eq_true rfl⟩ hl.1 (Nat.le_of_ble_eq_true rfl) dX12_number_35 ?_
    obtain ⟨v3, e_v3, hf⟩ := Option.bind_eq_some_iff.mp hf
    refine k_X12_regOrPointer (a0 := v2) (res := v3) (hres := e_v3) S hK hP tl_X12_134 ⟨Nat.le_of_ble_eq_true rfl, Nat.le_of_ble_eq_true rfl⟩ hl.1 (Nat.le_of_ble_eq_true rfl) dX12_number_38 ?_
    refine lv_iload_n hx hb dX12_number_41 rfl (lv_at hl 1 rfl) ?_
    refine k_X12_cut (a0 := v3) (a1 := w1) S tl_X12_138 ⟨Nat.le_of_ble_eq_true rfl, Nat.le_of_ble_eq_true rfl⟩ hl.1 (Nat.le_of_ble_eq_true rfl) dX12_number_42 ?_
    refine lv_lstore (lv' := [(4, .long (F_X12_cut v3 w1)), (0, .ref (r 0)), (1, .int w1), (2, .long w2)]) hx hb dX12_number_45 hl (by decide) rfl (fun ls hl => ?_)
    exact J_c47 τ w1 w2 (F_X12_cut v3 w1) H locs ls hf hP hD hS (lv_sub hl [1, 2, 3, 0] rfl)
  have J_c5 : ∀ (τ : MS) (w1 : Int32) (H : Heap) (locs : List Loc) (ls : Array Slot), F_X12_number_c5 τ w1 = some res → va_P z.1 vwCl (mW z r τ) H → va_D A (mW z r τ) → va_S A s.heap H locs → lv_has ls 8 [(0, .ref (r 0)), (1, .int w1)] → W p l e { frames := 2, cells := 0, slots := 0, locals := 48 } s m ([.ref (r 0)] : List Value).toArray below meth c H locs 0 0 Q (F0 m 5 ls []) := by
    intro τ w1 H locs ls hf hP hD hS hl
    unfold F_X12_number_c5 at hf
    refine lv_aload_n hx hb dX12_number_5 rfl (lv_at hl 0 rfl) ?_
    refine lv_bipush (v := 21) hx hb dX12_number_6 (by decide) ?_
    refine lv_bipush (v := 10) hx hb dX12_number_8 (by decide) ?_
    obtain ⟨v1, e_v1, hf⟩ := Option.bind_eq_some_iff.mp hf
    refine k_X12_f (a0 := (21 : Int32)) (a1 := (10 : Int32)) (res := v1) (hres := e_v1) S hK hP tl_X12_121 ⟨Nat.le_of_ble_eq_true rfl, Nat.le_of_ble_eq_true rfl⟩ hl.1 (Nat.le_of_ble_eq_true rfl) dX12_number_10 ?_
    refine lv_i2l hx hb dX12_number_13 rfl ?_
    refine lv_lstore_n (lv' := [(2, .long v1.toInt64), (0, .ref (r 0)), (1, .int w1)]) hx hb dX12_number_14 rfl hl (by decide) rfl (fun ls hl => ?_)
    refine lv_aload_n hx hb dX12_number_15 rfl (lv_at hl 1 rfl) ?_
    refine lv_bipush (v := 22) hx hb dX12_number_16 (by decide) ?_
    refine k_X12_on (a0 := (22 : Int32)) S hK hP tl_X12_118 ⟨Nat.le_of_ble_eq_true rfl, Nat.le_of_ble_eq_true rfl⟩ hl.1 (Nat.le_of_ble_eq_true rfl) dX12_number_18 ?_
    refine gz_eq (tgt := 30) hx hb dX12_number_21 (by decide) (fun c_21 => ?_) (fun c_21 => ?_)
    · rw [if_neg c_21] at hf
      exact J_c30 τ w1 v1.toInt64 H locs ls hf hP hD hS (lv_sub hl [1, 2, 0] rfl)
    · rw [if_pos c_21] at hf
      refine lv_lload_n hx hb dX12_number_24 rfl (lv_at hl 0 rfl) ?_
      refine lv_ldc2 (v := 4096) hx hb hown (hts _ tk_X12_132) dX12_number_25 ?_
      refine lv_lmul hx hb dX12_number_28 ?_
      refine lv_lstore_n (lv' := [(2, .long (v1.toInt64 * (4096 : Int64))), (0, .ref (r 0)), (1, .int w1)]) hx hb dX12_number_29 rfl hl (by decide) rfl (fun ls hl => ?_)
      exact J_c30 τ w1 (v1.toInt64 * (4096 : Int64)) H locs ls hf hP hD hS (lv_sub hl [1, 2, 0] rfl)
  unfold F_X12_number at hf
  refine lv_aload_n hx hb dX12_number_0 rfl (lv_at hl 0 rfl) ?_
  refine k_X12_width S hK hP tl_X12_129 ⟨Nat.le_of_ble_eq_true rfl, Nat.le_of_ble_eq_true rfl⟩ hl.1 (Nat.le_of_ble_eq_true rfl) dX12_number_1 ?_
  refine lv_istore_n (lv' := [(1, .int (F_X12_width σ)), (0, .ref (r 0))]) hx hb dX12_number_4 rfl hl (by decide) rfl (fun ls hl => ?_)
  exact J_c5 σ (F_X12_width σ) H locs ls hf hP hD hS (lv_sub hl [1, 0] rfl)
theorem k_X12_number {p : Program} {l : Launch} {e : Env} {R : Room} {s : State} {m : MethodId} {args : Array Value} {below : List Frame} {meth : Method} {c : Code} {H : Heap} {locs : List Loc} {Q : State → Prop} {cc : ByteArray} {pc : Nat} {ls : Array Slot} {rest : List Value} {own : String} {index nL : Nat} {A : Nat → Prop} {z : Cx} {r : Nat → Nat} {σ : MS} {res : MS} (hres : F_X12_number σ = some res) (S : CallFix p m c cc nL s args tbG own) (hK : va_K z.1 vwCl (cxT z) s) (hA : ∀ q, s.heap.size ≤ q → A q) (hP : va_P z.1 vwCl (mW z r σ) H) (hD : va_D A (mW z r σ)) (hS : va_S A s.heap H locs) (hl : Cond.methodLink own index yX12_number ∈ tbG) (hR : 2 + 1 ≤ R.frames ∧ 8 + (8 + 11) + 48 ≤ R.locals) (hsz : ls.size = nL) (hcat : (rest.map fun v => v.category).sum ≤ 8) (hdg : decode cc pc = .ok (.invokevirtual index, 3)) (kk : ∀ (H : Heap) (locs : List Loc), va_P z.1 vwCl (mW z r res) H → va_D A (mW z r res) → va_S A s.heap H locs → W p l e R s m args below meth c H locs 0 0 Q (F0 m (pc + 3) ls (rest))) : W p l e R s m args below meth c H locs 0 0 Q (F0 m pc ls (.ref (r 0) :: rest)) :=
  km (As := []) (ov := none) (w' := mW z r res) (q0 := 0) (ci := 11) S hK hA hP hD hS (c_X12_number l z r σ H.size _ hres) ⟨tb_cB 0 S.2.2.2.2 tc_X12_number ti_X12 hl rfl rfl (by decide +kernel) hR, S.2.2.2.2 _ tm_X12_number, S.2.2.2.2 _ te_X12_number⟩ rfl rfl rfl rfl hsz rfl hcat hdg kk

