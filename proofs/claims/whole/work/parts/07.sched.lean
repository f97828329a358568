/-! Scheduler -/
theorem kne {a b : Nat} (h : kof a ≠ kof b) : a ≠ b := fun e => h (by rw [e])
theorem l22 : ln 22 = 5 := by decide +kernel
theorem l23 : ln 23 = 5 := by decide +kernel
theorem l24 : ln 24 = 5 := by decide +kernel
theorem l25 : ln 25 = 4 := by decide +kernel
theorem mset_s {M : mM} {k j : Nat} {v : Int32} : (mset M k j v).1 k j = v := by rw [mset_get, if_pos ⟨rfl, rfl⟩]
theorem mset_o {M : mM} {k j b : Nat} {v : Int32} (h : b ≠ j) : (mset M k j v).1 k b = M.1 k b := by rw [mset_get, if_neg (fun g => h g.2)]
def pre_X6_holderOf (as : List mV) (M : mM) : Prop := ∃ g b, as = [.inr (.inr (6, g)), .inl b]
def fn_X6_holderOf : List mV → mM → Option mV × mM
  | [.inr (.inr (_, g)), .inl b], M => (some (.inl (if wi b 0 3 = 0 then -9 else M.1 25 b.toNatClampNeg)), M)
  | _, M => (none, M)
theorem ok_X6_holderOf (as : List mV) (M : mM) (h : pre_X6_holderOf as M) (_ : ∀ v ∈ as, okV v) : okR (fn_X6_holderOf as M).1 := by
  obtain ⟨g, b, rfl⟩ := h
  first | trivial | exact (by decide +kernel : kof 14 = 8)
theorem len_X6_holderOf (as : List mV) (M : mM) (h : pre_X6_holderOf as M) : (inL as).length ≤ 2 := by
  obtain ⟨g, b, rfl⟩ := h
  exact Nat.le_of_ble_eq_true rfl

theorem fl_175 : FLk "FairBlocks$Scheduler" 21 6 4 16 := ⟨RX6, TX6, 5, rfl, inX6, by decide, w_175, by decide, rfl⟩
theorem dX6_holderOf_0 : decode cX6_holderOf 0 = .ok (.iload_n 1, 1) := by decide +kernel
theorem dX6_holderOf_1 : decode cX6_holderOf 1 = .ok (.iconst 0, 1) := by decide +kernel
theorem dX6_holderOf_2 : decode cX6_holderOf 2 = .ok (.iconst 3, 1) := by decide +kernel
theorem dX6_holderOf_3 : decode cX6_holderOf 3 = .ok (.invokestatic 62, 3) := by decide +kernel
theorem dX6_holderOf_6 : decode cX6_holderOf 6 = .ok (.ifCond .eq 12, 3) := by decide +kernel
theorem dX6_holderOf_9 : decode cX6_holderOf 9 = .ok (.aload_n 0, 1) := by decide +kernel
theorem dX6_holderOf_10 : decode cX6_holderOf 10 = .ok (.getfield 21, 3) := by decide +kernel
theorem dX6_holderOf_13 : decode cX6_holderOf 13 = .ok (.iload_n 1, 1) := by decide +kernel
theorem dX6_holderOf_14 : decode cX6_holderOf 14 = .ok (.iaload, 1) := by decide +kernel
theorem dX6_holderOf_15 : decode cX6_holderOf 15 = .ok (.goto 5, 3) := by decide +kernel
theorem dX6_holderOf_18 : decode cX6_holderOf 18 = .ok (.bipush (-9), 2) := by decide +kernel
theorem dX6_holderOf_20 : decode cX6_holderOf 20 = .ok (.ireturn, 1) := by decide +kernel
theorem mk_X6_holderOf : MVk yX6_holderOf "FairBlocks$Scheduler" cX6_holderOf 2 (Option.some FieldType.int) 1 := ⟨w_519, w_517, w_518, w_7, rfl, by decide +kernel, by decide +kernel, by decide +kernel⟩
def BX6_holderOf_0 (G : Nat → KT) (Q : Option mV → mM → Prop) : KT := (s_iload 1 (s_iconst (0) (s_iconst (3) (s_callS 3 pre_X11_within fn_X11_within (s_if (fun x => x = 0) (s_at G 18 [false, false]) (s_aload 0 (s_getr 6 13 (fun _ => 25) (s_iload 1 (s_iald (s_at G 20 [false, false]))))))))))
set_option maxRecDepth 4000 in
theorem bsX6_holderOf_0 {p : Program} {l : Launch} {e : Env} {s : State} {m : MethodId} {args : Array Value} {below : List Frame} {meth : Method} {c : Code} {D : va_G} {ca : Nat → ClassId} {ad : Nat → Nat} {A : Nat → Prop} {Q : Option mV → mM → Prop} (hX : CX p s m args meth c 2 cX6_holderOf "FairBlocks$Scheduler" D ca ad A) (hr : meth.sig.returnType = (Option.some FieldType.int)) : ∀ lv st M, BX6_holderOf_0 (Gd p l e (rmD 1) s m args below meth c 2 D ca ad A 0 0 (MQ below (QC D ca ad A Q) args s 0 0 A)) Q lv st M → Gd p l e (rmD 1) s m args below meth c 2 D ca ad A 0 0 (MQ below (QC D ca ad A Q) args s 0 0 A) 0 lv st M :=
  (sd_iload_n hX dX6_holderOf_0 rfl (sd_iconst hX dX6_holderOf_1 rfl (sd_iconst hX dX6_holderOf_2 rfl (sd_callSN hX (ct_X11_within l) mk_X11_within nw_6 ⟨⟨by decide, by decide⟩, by decide, by decide⟩ dX6_holderOf_3 (sd_if_eq hX dX6_holderOf_6 (by decide) sd_at (sd_aload_n hX dX6_holderOf_9 rfl (sd_getr hX fl_175 (fun _ => rfl) (fun _ _ _ => by decide +kernel) dX6_holderOf_10 (sd_iload_n hX dX6_holderOf_13 rfl (sd_iald hX dX6_holderOf_14 (sd_goto hX dX6_holderOf_15 (by decide) sd_at))))))))))
def BX6_holderOf_18 (G : Nat → KT) (Q : Option mV → mM → Prop) : KT := (s_iconst (-9) (s_at G 20 [false, false]))
set_option maxRecDepth 4000 in
theorem bsX6_holderOf_18 {p : Program} {l : Launch} {e : Env} {s : State} {m : MethodId} {args : Array Value} {below : List Frame} {meth : Method} {c : Code} {D : va_G} {ca : Nat → ClassId} {ad : Nat → Nat} {A : Nat → Prop} {Q : Option mV → mM → Prop} (hX : CX p s m args meth c 2 cX6_holderOf "FairBlocks$Scheduler" D ca ad A) (hr : meth.sig.returnType = (Option.some FieldType.int)) : ∀ lv st M, BX6_holderOf_18 (Gd p l e (rmD 1) s m args below meth c 2 D ca ad A 0 0 (MQ below (QC D ca ad A Q) args s 0 0 A)) Q lv st M → Gd p l e (rmD 1) s m args below meth c 2 D ca ad A 0 0 (MQ below (QC D ca ad A Q) args s 0 0 A) 18 lv st M :=
  (sd_bipush hX dX6_holderOf_18 rfl sd_at)
def BX6_holderOf_20 (G : Nat → KT) (Q : Option mV → mM → Prop) : KT := (s_iret Q)
set_option maxRecDepth 4000 in
theorem bsX6_holderOf_20 {p : Program} {l : Launch} {e : Env} {s : State} {m : MethodId} {args : Array Value} {below : List Frame} {meth : Method} {c : Code} {D : va_G} {ca : Nat → ClassId} {ad : Nat → Nat} {A : Nat → Prop} {Q : Option mV → mM → Prop} (hX : CX p s m args meth c 2 cX6_holderOf "FairBlocks$Scheduler" D ca ad A) (hr : meth.sig.returnType = (Option.some FieldType.int)) : ∀ lv st M, BX6_holderOf_20 (Gd p l e (rmD 1) s m args below meth c 2 D ca ad A 0 0 (MQ below (QC D ca ad A Q) args s 0 0 A)) Q lv st M → Gd p l e (rmD 1) s m args below meth c 2 D ca ad A 0 0 (MQ below (QC D ca ad A Q) args s 0 0 A) 20 lv st M :=
  sd_iret hX hr dX6_holderOf_20
set_option maxHeartbeats 400000 in
theorem pf_X6_holderOf (G : Nat → KT) (Q : Option mV → mM → Prop) (h0 : ∀ lv st M, BX6_holderOf_0 G Q lv st M → G 0 lv st M) (h18 : ∀ lv st M, BX6_holderOf_18 G Q lv st M → G 18 lv st M) (h20 : ∀ lv st M, BX6_holderOf_20 G Q lv st M → G 20 lv st M) (as : List mV) (M : mM) (ho : ∀ v ∈ as, okV v) (hp : pre_X6_holderOf as M) (hQ : Q (fn_X6_holderOf as M).1 (fn_X6_holderOf as M).2) : G 0 (inL as ++ List.replicate (2 - (inL as).length) none) [] M := by
  obtain ⟨g, b, rfl⟩ := hp
  simp only [fn_X6_holderOf] at hQ
  (apply h0; simp only [BX6_holderOf_0, s_mth, s_mab, s_at, s_iconst, s_lconst, s_iload, s_lload, s_aload, s_istore, s_lstore, s_astore, s_iinc, s_bin, s_binG, s_un, s_lbin, s_lbinG, s_lsh, s_lcmp, s_i2l, s_l2i, s_dup, s_dup2, s_pop, s_if, s_icmp, s_geti, s_getl, s_getr, s_puti, s_putz, s_putl, s_iald, s_zald, s_iast, s_zast, s_aaldS, s_aaldU, s_gets, s_tald, s_tsw, tsw, s_iret, s_zret, s_lret, s_aret, s_vret, s_callV, s_callS, c1, nl1, keepL, csum, pushR, inL, List.getD_cons_zero, List.getD_cons_succ, List.set_cons_zero, List.set_cons_succ, List.cons_append, List.nil_append, List.append_nil, List.replicate, List.length_cons, List.length_nil, List.take_succ_cons, List.take_zero, List.drop_succ_cons, List.drop_zero, List.reverse_cons, List.reverse_nil, true_and, and_true, forall_const, not_true_eq_false, not_false_eq_true, false_implies, true_implies, implies_true, one0, m10, Nat.reduceAdd, Nat.reduceSub, Nat.reduceLeDiff, Nat.zero_add, Nat.add_zero, fn_X11_within])
  refine ⟨⟨_, _, _, rfl⟩, fun h => ?_, fun h => ⟨?_, ?_⟩⟩
  · (apply h18; simp only [BX6_holderOf_18, s_mth, s_mab, s_at, s_iconst, s_lconst, s_iload, s_lload, s_aload, s_istore, s_lstore, s_astore, s_iinc, s_bin, s_binG, s_un, s_lbin, s_lbinG, s_lsh, s_lcmp, s_i2l, s_l2i, s_dup, s_dup2, s_pop, s_if, s_icmp, s_geti, s_getl, s_getr, s_puti, s_putz, s_putl, s_iald, s_zald, s_iast, s_zast, s_aaldS, s_aaldU, s_gets, s_tald, s_tsw, tsw, s_iret, s_zret, s_lret, s_aret, s_vret, s_callV, s_callS, c1, nl1, keepL, csum, pushR, inL, List.getD_cons_zero, List.getD_cons_succ, List.set_cons_zero, List.set_cons_succ, List.cons_append, List.nil_append, List.append_nil, List.replicate, List.length_cons, List.length_nil, List.take_succ_cons, List.take_zero, List.drop_succ_cons, List.drop_zero, List.reverse_cons, List.reverse_nil, true_and, and_true, forall_const, not_true_eq_false, not_false_eq_true, false_implies, true_implies, implies_true, one0, m10, Nat.reduceAdd, Nat.reduceSub, Nat.reduceLeDiff, Nat.zero_add, Nat.add_zero, fn_X11_within])
    (apply h20; simp only [BX6_holderOf_20, s_mth, s_mab, s_at, s_iconst, s_lconst, s_iload, s_lload, s_aload, s_istore, s_lstore, s_astore, s_iinc, s_bin, s_binG, s_un, s_lbin, s_lbinG, s_lsh, s_lcmp, s_i2l, s_l2i, s_dup, s_dup2, s_pop, s_if, s_icmp, s_geti, s_getl, s_getr, s_puti, s_putz, s_putl, s_iald, s_zald, s_iast, s_zast, s_aaldS, s_aaldU, s_gets, s_tald, s_tsw, tsw, s_iret, s_zret, s_lret, s_aret, s_vret, s_callV, s_callS, c1, nl1, keepL, csum, pushR, inL, List.getD_cons_zero, List.getD_cons_succ, List.set_cons_zero, List.set_cons_succ, List.cons_append, List.nil_append, List.append_nil, List.replicate, List.length_cons, List.length_nil, List.take_succ_cons, List.take_zero, List.drop_succ_cons, List.drop_zero, List.reverse_cons, List.reverse_nil, true_and, and_true, forall_const, not_true_eq_false, not_false_eq_true, false_implies, true_implies, implies_true, one0, m10, Nat.reduceAdd, Nat.reduceSub, Nat.reduceLeDiff, Nat.zero_add, Nat.add_zero, fn_X11_within])
    rw [if_pos h] at hQ
    exact hQ
  · obtain ⟨j, hj, rfl⟩ := wi_n (c := 3) rfl (by decide) h
    rw [l25]
    exact vp_in_nI (by omega) (by decide)
  · (apply h20; simp only [BX6_holderOf_20, s_mth, s_mab, s_at, s_iconst, s_lconst, s_iload, s_lload, s_aload, s_istore, s_lstore, s_astore, s_iinc, s_bin, s_binG, s_un, s_lbin, s_lbinG, s_lsh, s_lcmp, s_i2l, s_l2i, s_dup, s_dup2, s_pop, s_if, s_icmp, s_geti, s_getl, s_getr, s_puti, s_putz, s_putl, s_iald, s_zald, s_iast, s_zast, s_aaldS, s_aaldU, s_gets, s_tald, s_tsw, tsw, s_iret, s_zret, s_lret, s_aret, s_vret, s_callV, s_callS, c1, nl1, keepL, csum, pushR, inL, List.getD_cons_zero, List.getD_cons_succ, List.set_cons_zero, List.set_cons_succ, List.cons_append, List.nil_append, List.append_nil, List.replicate, List.length_cons, List.length_nil, List.take_succ_cons, List.take_zero, List.drop_succ_cons, List.drop_zero, List.reverse_cons, List.reverse_nil, true_and, and_true, forall_const, not_true_eq_false, not_false_eq_true, false_implies, true_implies, implies_true, one0, m10, Nat.reduceAdd, Nat.reduceSub, Nat.reduceLeDiff, Nat.zero_add, Nat.add_zero, fn_X11_within])
    rw [if_neg h] at hQ
    exact hQ
theorem ct_X6_holderOf (l : Launch) : Con l yX6_holderOf cX6_holderOf 2 (Option.some FieldType.int) 1 pre_X6_holderOf fn_X6_holderOf := con_of (by decide +kernel) ok_X6_holderOf len_X6_holderOf (fun p e s m args below meth c D ca ad A as M hX hr hp ho => pf_X6_holderOf _ _ (bsX6_holderOf_0 hX hr) (bsX6_holderOf_18 hX hr) (bsX6_holderOf_20 hX hr) as M ho hp ⟨rfl, rfl⟩)
def mh2 (M : mM) (j : Nat) (b : Int32) : Int32 := if M.1 23 j = -1 then 1 else if M.1 23 j = b - 1 then 1 else 0
def mh (M : mM) (uk j : Nat) (b : Int32) : Int32 := if M.1 uk 3 = 0 then (if M.1 22 j ≤ 0 then 0 else if M.1 uk 4 = 0 then (if M.1 uk 5 = 0 then 0 else mh2 M j b) else mh2 M j b) else 0
def pre_X6_mayHave (as : List mV) (M : mM) : Prop := ∃ g uk u b, as = [.inr (.inr (6, g)), .inr (.inr (10, uk)), .inl u, .inl b] ∧ ∃ j, j < 5 ∧ u = nI j
def fn_X6_mayHave : List mV → mM → Option mV × mM
  | [.inr (.inr (_, g)), .inr (.inr (_, uk)), .inl u, .inl b], M => (some (.inl (mh M uk u.toNatClampNeg b)), M)
  | _, M => (none, M)
theorem ok_X6_mayHave (as : List mV) (M : mM) (h : pre_X6_mayHave as M) (_ : ∀ v ∈ as, okV v) : okR (fn_X6_mayHave as M).1 := by
  obtain ⟨g, uk, u, b, rfl, -⟩ := h
  first | trivial | exact (by decide +kernel : kof 14 = 8)
theorem len_X6_mayHave (as : List mV) (M : mM) (h : pre_X6_mayHave as M) : (inL as).length ≤ 4 := by
  obtain ⟨g, uk, u, b, rfl, -⟩ := h
  exact Nat.le_of_ble_eq_true rfl

theorem fl_105 : FLk "FairBlocks$Scheduler" 88 10 3 1 := ⟨RX10, TX10, 10, rfl, inX10, by decide, w_105, by decide, rfl⟩
theorem fl_108 : FLk "FairBlocks$Scheduler" 107 10 4 0 := ⟨RX10, TX10, 10, rfl, inX10, by decide, w_108, by decide, rfl⟩
theorem fl_110 : FLk "FairBlocks$Scheduler" 110 10 5 0 := ⟨RX10, TX10, 10, rfl, inX10, by decide, w_110, by decide, rfl⟩
theorem fl_172 : FLk "FairBlocks$Scheduler" 9 6 1 16 := ⟨RX6, TX6, 5, rfl, inX6, by decide, w_172, by decide, rfl⟩
theorem fl_173 : FLk "FairBlocks$Scheduler" 15 6 2 16 := ⟨RX6, TX6, 5, rfl, inX6, by decide, w_173, by decide, rfl⟩
theorem dX6_mayHave_0 : decode cX6_mayHave 0 = .ok (.aload_n 1, 1) := by decide +kernel
theorem dX6_mayHave_1 : decode cX6_mayHave 1 = .ok (.getfield 88, 3) := by decide +kernel
theorem dX6_mayHave_4 : decode cX6_mayHave 4 = .ok (.ifCond .ne 26, 3) := by decide +kernel
theorem dX6_mayHave_7 : decode cX6_mayHave 7 = .ok (.aload_n 0, 1) := by decide +kernel
theorem dX6_mayHave_8 : decode cX6_mayHave 8 = .ok (.getfield 9, 3) := by decide +kernel
theorem dX6_mayHave_11 : decode cX6_mayHave 11 = .ok (.iload_n 2, 1) := by decide +kernel
theorem dX6_mayHave_12 : decode cX6_mayHave 12 = .ok (.iaload, 1) := by decide +kernel
theorem dX6_mayHave_13 : decode cX6_mayHave 13 = .ok (.ifCond .le 17, 3) := by decide +kernel
theorem dX6_mayHave_16 : decode cX6_mayHave 16 = .ok (.aload_n 1, 1) := by decide +kernel
theorem dX6_mayHave_17 : decode cX6_mayHave 17 = .ok (.getfield 107, 3) := by decide +kernel
theorem dX6_mayHave_20 : decode cX6_mayHave 20 = .ok (.ifCond .ne 12, 3) := by decide +kernel
theorem dX6_mayHave_23 : decode cX6_mayHave 23 = .ok (.aload_n 1, 1) := by decide +kernel
theorem dX6_mayHave_24 : decode cX6_mayHave 24 = .ok (.getfield 110, 3) := by decide +kernel
theorem dX6_mayHave_27 : decode cX6_mayHave 27 = .ok (.ifCond .ne 5, 3) := by decide +kernel
theorem dX6_mayHave_30 : decode cX6_mayHave 30 = .ok (.iconst 0, 1) := by decide +kernel
theorem dX6_mayHave_31 : decode cX6_mayHave 31 = .ok (.ireturn, 1) := by decide +kernel
theorem dX6_mayHave_32 : decode cX6_mayHave 32 = .ok (.aload_n 0, 1) := by decide +kernel
theorem dX6_mayHave_33 : decode cX6_mayHave 33 = .ok (.getfield 15, 3) := by decide +kernel
theorem dX6_mayHave_36 : decode cX6_mayHave 36 = .ok (.iload_n 2, 1) := by decide +kernel
theorem dX6_mayHave_37 : decode cX6_mayHave 37 = .ok (.iaload, 1) := by decide +kernel
theorem dX6_mayHave_38 : decode cX6_mayHave 38 = .ok (.iconst (-1), 1) := by decide +kernel
theorem dX6_mayHave_39 : decode cX6_mayHave 39 = .ok (.if_icmp .eq 15, 3) := by decide +kernel
theorem dX6_mayHave_42 : decode cX6_mayHave 42 = .ok (.aload_n 0, 1) := by decide +kernel
theorem dX6_mayHave_43 : decode cX6_mayHave 43 = .ok (.getfield 15, 3) := by decide +kernel
theorem dX6_mayHave_46 : decode cX6_mayHave 46 = .ok (.iload_n 2, 1) := by decide +kernel
theorem dX6_mayHave_47 : decode cX6_mayHave 47 = .ok (.iaload, 1) := by decide +kernel
theorem dX6_mayHave_48 : decode cX6_mayHave 48 = .ok (.iload_n 3, 1) := by decide +kernel
theorem dX6_mayHave_49 : decode cX6_mayHave 49 = .ok (.iconst 1, 1) := by decide +kernel
theorem dX6_mayHave_50 : decode cX6_mayHave 50 = .ok (.isub, 1) := by decide +kernel
theorem dX6_mayHave_51 : decode cX6_mayHave 51 = .ok (.if_icmp .ne 7, 3) := by decide +kernel
theorem dX6_mayHave_54 : decode cX6_mayHave 54 = .ok (.iconst 1, 1) := by decide +kernel
theorem dX6_mayHave_55 : decode cX6_mayHave 55 = .ok (.goto 4, 3) := by decide +kernel
theorem dX6_mayHave_58 : decode cX6_mayHave 58 = .ok (.iconst 0, 1) := by decide +kernel
theorem dX6_mayHave_59 : decode cX6_mayHave 59 = .ok (.ireturn, 1) := by decide +kernel
theorem mk_X6_mayHave : MVk yX6_mayHave "FairBlocks$Scheduler" cX6_mayHave 4 (Option.some FieldType.boolean) 3 := ⟨w_449, w_448, wp_3, w_7, rfl, by decide +kernel, by decide +kernel, by decide +kernel⟩
def BX6_mayHave_0 (G : Nat → KT) (Q : Option mV → mM → Prop) : KT := (s_aload 1 (s_geti 10 3 (s_if (fun x => x = 0) ((s_aload 0 (s_getr 6 13 (fun _ => 22) (s_iload 2 (s_iald (s_if (fun x => x ≤ 0) (s_at G 30 [false, false, false, false]) (s_aload 1 (s_geti 10 4 (s_if (fun x => x = 0) ((s_aload 1 (s_geti 10 5 (s_if (fun x => x = 0) ((s_at G 30 [false, false, false, false])) (s_at G 32 [true, false, true, true]))))) (s_at G 32 [true, false, true, true])))))))))) (s_at G 30 [false, false, false, false]))))
set_option maxRecDepth 4000 in
theorem bsX6_mayHave_0 {p : Program} {l : Launch} {e : Env} {s : State} {m : MethodId} {args : Array Value} {below : List Frame} {meth : Method} {c : Code} {D : va_G} {ca : Nat → ClassId} {ad : Nat → Nat} {A : Nat → Prop} {Q : Option mV → mM → Prop} (hX : CX p s m args meth c 4 cX6_mayHave "FairBlocks$Scheduler" D ca ad A) (hr : meth.sig.returnType = (Option.some FieldType.boolean)) : ∀ lv st M, BX6_mayHave_0 (Gd p l e (rmD 0) s m args below meth c 4 D ca ad A 0 0 (MQ below (QC D ca ad A Q) args s 0 0 A)) Q lv st M → Gd p l e (rmD 0) s m args below meth c 4 D ca ad A 0 0 (MQ below (QC D ca ad A Q) args s 0 0 A) 0 lv st M :=
  (sd_aload_n hX dX6_mayHave_0 rfl (sd_geti hX fl_105 (by decide) dX6_mayHave_1 (sd_if_ne hX dX6_mayHave_4 (by decide) sd_at (sd_aload_n hX dX6_mayHave_7 rfl (sd_getr hX fl_172 (fun _ => rfl) (fun _ _ _ => by decide +kernel) dX6_mayHave_8 (sd_iload_n hX dX6_mayHave_11 rfl (sd_iald hX dX6_mayHave_12 (sd_if_le hX dX6_mayHave_13 (by decide) sd_at (sd_aload_n hX dX6_mayHave_16 rfl (sd_geti hX fl_108 (by decide) dX6_mayHave_17 (sd_if_ne hX dX6_mayHave_20 (by decide) sd_at (sd_aload_n hX dX6_mayHave_23 rfl (sd_geti hX fl_110 (by decide) dX6_mayHave_24 (sd_if_ne hX dX6_mayHave_27 (by decide) sd_at sd_at))))))))))))))
def BX6_mayHave_30 (G : Nat → KT) (Q : Option mV → mM → Prop) : KT := (s_iconst (0) (s_zret Q))
set_option maxRecDepth 4000 in
theorem bsX6_mayHave_30 {p : Program} {l : Launch} {e : Env} {s : State} {m : MethodId} {args : Array Value} {below : List Frame} {meth : Method} {c : Code} {D : va_G} {ca : Nat → ClassId} {ad : Nat → Nat} {A : Nat → Prop} {Q : Option mV → mM → Prop} (hX : CX p s m args meth c 4 cX6_mayHave "FairBlocks$Scheduler" D ca ad A) (hr : meth.sig.returnType = (Option.some FieldType.boolean)) : ∀ lv st M, BX6_mayHave_30 (Gd p l e (rmD 0) s m args below meth c 4 D ca ad A 0 0 (MQ below (QC D ca ad A Q) args s 0 0 A)) Q lv st M → Gd p l e (rmD 0) s m args below meth c 4 D ca ad A 0 0 (MQ below (QC D ca ad A Q) args s 0 0 A) 30 lv st M :=
  (sd_iconst hX dX6_mayHave_30 rfl (sd_zret hX hr dX6_mayHave_31))
def BX6_mayHave_32 (G : Nat → KT) (Q : Option mV → mM → Prop) : KT := (s_aload 0 (s_getr 6 13 (fun _ => 23) (s_iload 2 (s_iald (s_iconst (-1) (s_icmp (fun x y => x = y) (s_at G 54 [false, false, false, false]) (s_aload 0 (s_getr 6 13 (fun _ => 23) (s_iload 2 (s_iald (s_iload 3 (s_iconst (1) (s_bin (fun x y => x - y) (s_icmp (fun x y => x = y) ((s_at G 54 [false, false, false, false])) (s_at G 58 [false, false, false, false])))))))))))))))
set_option maxRecDepth 4000 in
theorem bsX6_mayHave_32 {p : Program} {l : Launch} {e : Env} {s : State} {m : MethodId} {args : Array Value} {below : List Frame} {meth : Method} {c : Code} {D : va_G} {ca : Nat → ClassId} {ad : Nat → Nat} {A : Nat → Prop} {Q : Option mV → mM → Prop} (hX : CX p s m args meth c 4 cX6_mayHave "FairBlocks$Scheduler" D ca ad A) (hr : meth.sig.returnType = (Option.some FieldType.boolean)) : ∀ lv st M, BX6_mayHave_32 (Gd p l e (rmD 0) s m args below meth c 4 D ca ad A 0 0 (MQ below (QC D ca ad A Q) args s 0 0 A)) Q lv st M → Gd p l e (rmD 0) s m args below meth c 4 D ca ad A 0 0 (MQ below (QC D ca ad A Q) args s 0 0 A) 32 lv st M :=
  (sd_aload_n hX dX6_mayHave_32 rfl (sd_getr hX fl_173 (fun _ => rfl) (fun _ _ _ => by decide +kernel) dX6_mayHave_33 (sd_iload_n hX dX6_mayHave_36 rfl (sd_iald hX dX6_mayHave_37 (sd_iconst hX dX6_mayHave_38 rfl (sd_icmp_eq hX dX6_mayHave_39 (by decide) sd_at (sd_aload_n hX dX6_mayHave_42 rfl (sd_getr hX fl_173 (fun _ => rfl) (fun _ _ _ => by decide +kernel) dX6_mayHave_43 (sd_iload_n hX dX6_mayHave_46 rfl (sd_iald hX dX6_mayHave_47 (sd_iload_n hX dX6_mayHave_48 rfl (sd_iconst hX dX6_mayHave_49 rfl (sd_isub hX dX6_mayHave_50 (sd_icmp_ne hX dX6_mayHave_51 (by decide) sd_at sd_at))))))))))))))
def BX6_mayHave_54 (G : Nat → KT) (Q : Option mV → mM → Prop) : KT := (s_iconst (1) (s_at G 59 [false, false, false, false]))
set_option maxRecDepth 4000 in
theorem bsX6_mayHave_54 {p : Program} {l : Launch} {e : Env} {s : State} {m : MethodId} {args : Array Value} {below : List Frame} {meth : Method} {c : Code} {D : va_G} {ca : Nat → ClassId} {ad : Nat → Nat} {A : Nat → Prop} {Q : Option mV → mM → Prop} (hX : CX p s m args meth c 4 cX6_mayHave "FairBlocks$Scheduler" D ca ad A) (hr : meth.sig.returnType = (Option.some FieldType.boolean)) : ∀ lv st M, BX6_mayHave_54 (Gd p l e (rmD 0) s m args below meth c 4 D ca ad A 0 0 (MQ below (QC D ca ad A Q) args s 0 0 A)) Q lv st M → Gd p l e (rmD 0) s m args below meth c 4 D ca ad A 0 0 (MQ below (QC D ca ad A Q) args s 0 0 A) 54 lv st M :=
  (sd_iconst hX dX6_mayHave_54 rfl (sd_goto hX dX6_mayHave_55 (by decide) sd_at))
def BX6_mayHave_58 (G : Nat → KT) (Q : Option mV → mM → Prop) : KT := (s_iconst (0) (s_at G 59 [false, false, false, false]))
set_option maxRecDepth 4000 in
theorem bsX6_mayHave_58 {p : Program} {l : Launch} {e : Env} {s : State} {m : MethodId} {args : Array Value} {below : List Frame} {meth : Method} {c : Code} {D : va_G} {ca : Nat → ClassId} {ad : Nat → Nat} {A : Nat → Prop} {Q : Option mV → mM → Prop} (hX : CX p s m args meth c 4 cX6_mayHave "FairBlocks$Scheduler" D ca ad A) (hr : meth.sig.returnType = (Option.some FieldType.boolean)) : ∀ lv st M, BX6_mayHave_58 (Gd p l e (rmD 0) s m args below meth c 4 D ca ad A 0 0 (MQ below (QC D ca ad A Q) args s 0 0 A)) Q lv st M → Gd p l e (rmD 0) s m args below meth c 4 D ca ad A 0 0 (MQ below (QC D ca ad A Q) args s 0 0 A) 58 lv st M :=
  (sd_iconst hX dX6_mayHave_58 rfl sd_at)
def BX6_mayHave_59 (G : Nat → KT) (Q : Option mV → mM → Prop) : KT := (s_zret Q)
set_option maxRecDepth 4000 in
theorem bsX6_mayHave_59 {p : Program} {l : Launch} {e : Env} {s : State} {m : MethodId} {args : Array Value} {below : List Frame} {meth : Method} {c : Code} {D : va_G} {ca : Nat → ClassId} {ad : Nat → Nat} {A : Nat → Prop} {Q : Option mV → mM → Prop} (hX : CX p s m args meth c 4 cX6_mayHave "FairBlocks$Scheduler" D ca ad A) (hr : meth.sig.returnType = (Option.some FieldType.boolean)) : ∀ lv st M, BX6_mayHave_59 (Gd p l e (rmD 0) s m args below meth c 4 D ca ad A 0 0 (MQ below (QC D ca ad A Q) args s 0 0 A)) Q lv st M → Gd p l e (rmD 0) s m args below meth c 4 D ca ad A 0 0 (MQ below (QC D ca ad A Q) args s 0 0 A) 59 lv st M :=
  sd_zret hX hr dX6_mayHave_59
set_option maxHeartbeats 400000 in
theorem pf_X6_mayHave (G : Nat → KT) (Q : Option mV → mM → Prop) (h0 : ∀ lv st M, BX6_mayHave_0 G Q lv st M → G 0 lv st M) (h30 : ∀ lv st M, BX6_mayHave_30 G Q lv st M → G 30 lv st M) (h32 : ∀ lv st M, BX6_mayHave_32 G Q lv st M → G 32 lv st M) (h54 : ∀ lv st M, BX6_mayHave_54 G Q lv st M → G 54 lv st M) (h58 : ∀ lv st M, BX6_mayHave_58 G Q lv st M → G 58 lv st M) (h59 : ∀ lv st M, BX6_mayHave_59 G Q lv st M → G 59 lv st M) (as : List mV) (M : mM) (ho : ∀ v ∈ as, okV v) (hp : pre_X6_mayHave as M) (hQ : Q (fn_X6_mayHave as M).1 (fn_X6_mayHave as M).2) : G 0 (inL as ++ List.replicate (4 - (inL as).length) none) [] M := by
  obtain ⟨g, uk, u, b, rfl, j, hj, rfl⟩ := hp
  have ec : (nI j).toNatClampNeg = j := nI_clamp (by omega)
  simp only [fn_X6_mayHave, ec] at hQ
  have hv : vp_in (nI j) 5 := vp_in_nI hj (by decide)
  have L : Q (some (.inl (mh2 M j b))) M → G 32 [some (.inr (.inr (6, g))), none, some (.inl (nI j)), some (.inl b)] [] M := by
    intro hQ
    simp only [mh2] at hQ
    (apply h32; simp only [BX6_mayHave_32, s_mth, s_mab, s_at, s_iconst, s_lconst, s_iload, s_lload, s_aload, s_istore, s_lstore, s_astore, s_iinc, s_bin, s_binG, s_un, s_lbin, s_lbinG, s_lsh, s_lcmp, s_i2l, s_l2i, s_dup, s_dup2, s_pop, s_if, s_icmp, s_geti, s_getl, s_getr, s_puti, s_putz, s_putl, s_iald, s_zald, s_iast, s_zast, s_aaldS, s_aaldU, s_gets, s_tald, s_tsw, tsw, s_iret, s_zret, s_lret, s_aret, s_vret, s_callV, s_callS, c1, nl1, keepL, csum, pushR, inL, List.getD_cons_zero, List.getD_cons_succ, List.set_cons_zero, List.set_cons_succ, List.cons_append, List.nil_append, List.append_nil, List.replicate, List.length_cons, List.length_nil, List.take_succ_cons, List.take_zero, List.drop_succ_cons, List.drop_zero, List.reverse_cons, List.reverse_nil, true_and, and_true, forall_const, not_true_eq_false, not_false_eq_true, false_implies, true_implies, implies_true, one0, m10, Nat.reduceAdd, Nat.reduceSub, Nat.reduceLeDiff, Nat.zero_add, Nat.add_zero])
    simp only [l23, ec]
    refine ⟨hv, fun h => ?_, fun h => ⟨hv, fun h2 => ?_, fun h2 => ?_⟩⟩
    · rw [if_pos h] at hQ
      (apply h54; simp only [BX6_mayHave_54, s_mth, s_mab, s_at, s_iconst, s_lconst, s_iload, s_lload, s_aload, s_istore, s_lstore, s_astore, s_iinc, s_bin, s_binG, s_un, s_lbin, s_lbinG, s_lsh, s_lcmp, s_i2l, s_l2i, s_dup, s_dup2, s_pop, s_if, s_icmp, s_geti, s_getl, s_getr, s_puti, s_putz, s_putl, s_iald, s_zald, s_iast, s_zast, s_aaldS, s_aaldU, s_gets, s_tald, s_tsw, tsw, s_iret, s_zret, s_lret, s_aret, s_vret, s_callV, s_callS, c1, nl1, keepL, csum, pushR, inL, List.getD_cons_zero, List.getD_cons_succ, List.set_cons_zero, List.set_cons_succ, List.cons_append, List.nil_append, List.append_nil, List.replicate, List.length_cons, List.length_nil, List.take_succ_cons, List.take_zero, List.drop_succ_cons, List.drop_zero, List.reverse_cons, List.reverse_nil, true_and, and_true, forall_const, not_true_eq_false, not_false_eq_true, false_implies, true_implies, implies_true, one0, m10, Nat.reduceAdd, Nat.reduceSub, Nat.reduceLeDiff, Nat.zero_add, Nat.add_zero])
      (apply h59; simp only [BX6_mayHave_59, s_mth, s_mab, s_at, s_iconst, s_lconst, s_iload, s_lload, s_aload, s_istore, s_lstore, s_astore, s_iinc, s_bin, s_binG, s_un, s_lbin, s_lbinG, s_lsh, s_lcmp, s_i2l, s_l2i, s_dup, s_dup2, s_pop, s_if, s_icmp, s_geti, s_getl, s_getr, s_puti, s_putz, s_putl, s_iald, s_zald, s_iast, s_zast, s_aaldS, s_aaldU, s_gets, s_tald, s_tsw, tsw, s_iret, s_zret, s_lret, s_aret, s_vret, s_callV, s_callS, c1, nl1, keepL, csum, pushR, inL, List.getD_cons_zero, List.getD_cons_succ, List.set_cons_zero, List.set_cons_succ, List.cons_append, List.nil_append, List.append_nil, List.replicate, List.length_cons, List.length_nil, List.take_succ_cons, List.take_zero, List.drop_succ_cons, List.drop_zero, List.reverse_cons, List.reverse_nil, true_and, and_true, forall_const, not_true_eq_false, not_false_eq_true, false_implies, true_implies, implies_true, one0, m10, Nat.reduceAdd, Nat.reduceSub, Nat.reduceLeDiff, Nat.zero_add, Nat.add_zero])
      exact ⟨by simp, hQ⟩
    · rw [if_neg h, if_pos h2] at hQ
      (apply h54; simp only [BX6_mayHave_54, s_mth, s_mab, s_at, s_iconst, s_lconst, s_iload, s_lload, s_aload, s_istore, s_lstore, s_astore, s_iinc, s_bin, s_binG, s_un, s_lbin, s_lbinG, s_lsh, s_lcmp, s_i2l, s_l2i, s_dup, s_dup2, s_pop, s_if, s_icmp, s_geti, s_getl, s_getr, s_puti, s_putz, s_putl, s_iald, s_zald, s_iast, s_zast, s_aaldS, s_aaldU, s_gets, s_tald, s_tsw, tsw, s_iret, s_zret, s_lret, s_aret, s_vret, s_callV, s_callS, c1, nl1, keepL, csum, pushR, inL, List.getD_cons_zero, List.getD_cons_succ, List.set_cons_zero, List.set_cons_succ, List.cons_append, List.nil_append, List.append_nil, List.replicate, List.length_cons, List.length_nil, List.take_succ_cons, List.take_zero, List.drop_succ_cons, List.drop_zero, List.reverse_cons, List.reverse_nil, true_and, and_true, forall_const, not_true_eq_false, not_false_eq_true, false_implies, true_implies, implies_true, one0, m10, Nat.reduceAdd, Nat.reduceSub, Nat.reduceLeDiff, Nat.zero_add, Nat.add_zero])
      (apply h59; simp only [BX6_mayHave_59, s_mth, s_mab, s_at, s_iconst, s_lconst, s_iload, s_lload, s_aload, s_istore, s_lstore, s_astore, s_iinc, s_bin, s_binG, s_un, s_lbin, s_lbinG, s_lsh, s_lcmp, s_i2l, s_l2i, s_dup, s_dup2, s_pop, s_if, s_icmp, s_geti, s_getl, s_getr, s_puti, s_putz, s_putl, s_iald, s_zald, s_iast, s_zast, s_aaldS, s_aaldU, s_gets, s_tald, s_tsw, tsw, s_iret, s_zret, s_lret, s_aret, s_vret, s_callV, s_callS, c1, nl1, keepL, csum, pushR, inL, List.getD_cons_zero, List.getD_cons_succ, List.set_cons_zero, List.set_cons_succ, List.cons_append, List.nil_append, List.append_nil, List.replicate, List.length_cons, List.length_nil, List.take_succ_cons, List.take_zero, List.drop_succ_cons, List.drop_zero, List.reverse_cons, List.reverse_nil, true_and, and_true, forall_const, not_true_eq_false, not_false_eq_true, false_implies, true_implies, implies_true, one0, m10, Nat.reduceAdd, Nat.reduceSub, Nat.reduceLeDiff, Nat.zero_add, Nat.add_zero])
      exact ⟨by simp, hQ⟩
    · rw [if_neg h, if_neg h2] at hQ
      (apply h58; simp only [BX6_mayHave_58, s_mth, s_mab, s_at, s_iconst, s_lconst, s_iload, s_lload, s_aload, s_istore, s_lstore, s_astore, s_iinc, s_bin, s_binG, s_un, s_lbin, s_lbinG, s_lsh, s_lcmp, s_i2l, s_l2i, s_dup, s_dup2, s_pop, s_if, s_icmp, s_geti, s_getl, s_getr, s_puti, s_putz, s_putl, s_iald, s_zald, s_iast, s_zast, s_aaldS, s_aaldU, s_gets, s_tald, s_tsw, tsw, s_iret, s_zret, s_lret, s_aret, s_vret, s_callV, s_callS, c1, nl1, keepL, csum, pushR, inL, List.getD_cons_zero, List.getD_cons_succ, List.set_cons_zero, List.set_cons_succ, List.cons_append, List.nil_append, List.append_nil, List.replicate, List.length_cons, List.length_nil, List.take_succ_cons, List.take_zero, List.drop_succ_cons, List.drop_zero, List.reverse_cons, List.reverse_nil, true_and, and_true, forall_const, not_true_eq_false, not_false_eq_true, false_implies, true_implies, implies_true, one0, m10, Nat.reduceAdd, Nat.reduceSub, Nat.reduceLeDiff, Nat.zero_add, Nat.add_zero])
      (apply h59; simp only [BX6_mayHave_59, s_mth, s_mab, s_at, s_iconst, s_lconst, s_iload, s_lload, s_aload, s_istore, s_lstore, s_astore, s_iinc, s_bin, s_binG, s_un, s_lbin, s_lbinG, s_lsh, s_lcmp, s_i2l, s_l2i, s_dup, s_dup2, s_pop, s_if, s_icmp, s_geti, s_getl, s_getr, s_puti, s_putz, s_putl, s_iald, s_zald, s_iast, s_zast, s_aaldS, s_aaldU, s_gets, s_tald, s_tsw, tsw, s_iret, s_zret, s_lret, s_aret, s_vret, s_callV, s_callS, c1, nl1, keepL, csum, pushR, inL, List.getD_cons_zero, List.getD_cons_succ, List.set_cons_zero, List.set_cons_succ, List.cons_append, List.nil_append, List.append_nil, List.replicate, List.length_cons, List.length_nil, List.take_succ_cons, List.take_zero, List.drop_succ_cons, List.drop_zero, List.reverse_cons, List.reverse_nil, true_and, and_true, forall_const, not_true_eq_false, not_false_eq_true, false_implies, true_implies, implies_true, one0, m10, Nat.reduceAdd, Nat.reduceSub, Nat.reduceLeDiff, Nat.zero_add, Nat.add_zero])
      exact ⟨by simp, hQ⟩
  have Z : Q (some (.inl 0)) M → G 30 [none, none, none, none] [] M := by
    intro hQ
    (apply h30; simp only [BX6_mayHave_30, s_mth, s_mab, s_at, s_iconst, s_lconst, s_iload, s_lload, s_aload, s_istore, s_lstore, s_astore, s_iinc, s_bin, s_binG, s_un, s_lbin, s_lbinG, s_lsh, s_lcmp, s_i2l, s_l2i, s_dup, s_dup2, s_pop, s_if, s_icmp, s_geti, s_getl, s_getr, s_puti, s_putz, s_putl, s_iald, s_zald, s_iast, s_zast, s_aaldS, s_aaldU, s_gets, s_tald, s_tsw, tsw, s_iret, s_zret, s_lret, s_aret, s_vret, s_callV, s_callS, c1, nl1, keepL, csum, pushR, inL, List.getD_cons_zero, List.getD_cons_succ, List.set_cons_zero, List.set_cons_succ, List.cons_append, List.nil_append, List.append_nil, List.replicate, List.length_cons, List.length_nil, List.take_succ_cons, List.take_zero, List.drop_succ_cons, List.drop_zero, List.reverse_cons, List.reverse_nil, true_and, and_true, forall_const, not_true_eq_false, not_false_eq_true, false_implies, true_implies, implies_true, one0, m10, Nat.reduceAdd, Nat.reduceSub, Nat.reduceLeDiff, Nat.zero_add, Nat.add_zero])
    exact ⟨by simp, hQ⟩
  simp only [mh] at hQ
  (apply h0; simp only [BX6_mayHave_0, s_mth, s_mab, s_at, s_iconst, s_lconst, s_iload, s_lload, s_aload, s_istore, s_lstore, s_astore, s_iinc, s_bin, s_binG, s_un, s_lbin, s_lbinG, s_lsh, s_lcmp, s_i2l, s_l2i, s_dup, s_dup2, s_pop, s_if, s_icmp, s_geti, s_getl, s_getr, s_puti, s_putz, s_putl, s_iald, s_zald, s_iast, s_zast, s_aaldS, s_aaldU, s_gets, s_tald, s_tsw, tsw, s_iret, s_zret, s_lret, s_aret, s_vret, s_callV, s_callS, c1, nl1, keepL, csum, pushR, inL, List.getD_cons_zero, List.getD_cons_succ, List.set_cons_zero, List.set_cons_succ, List.cons_append, List.nil_append, List.append_nil, List.replicate, List.length_cons, List.length_nil, List.take_succ_cons, List.take_zero, List.drop_succ_cons, List.drop_zero, List.reverse_cons, List.reverse_nil, true_and, and_true, forall_const, not_true_eq_false, not_false_eq_true, false_implies, true_implies, implies_true, one0, m10, Nat.reduceAdd, Nat.reduceSub, Nat.reduceLeDiff, Nat.zero_add, Nat.add_zero])
  simp only [l22, ec]
  refine ⟨fun h => ⟨hv, fun h2 => ?_, fun h2 => ⟨fun h3 => ⟨fun h4 => ?_, fun h4 => ?_⟩, fun h3 => ?_⟩⟩, fun h => ?_⟩
  · rw [if_pos h, if_pos h2] at hQ; exact Z hQ
  · rw [if_pos h, if_neg h2, if_pos h3, if_pos h4] at hQ; exact Z hQ
  · rw [if_pos h, if_neg h2, if_pos h3, if_neg h4] at hQ; exact L hQ
  · rw [if_pos h, if_neg h2, if_neg h3] at hQ; exact L hQ
  · rw [if_neg h] at hQ; exact Z hQ
theorem ct_X6_mayHave (l : Launch) : Con l yX6_mayHave cX6_mayHave 4 (Option.some FieldType.boolean) 0 pre_X6_mayHave fn_X6_mayHave := con_of (by decide +kernel) ok_X6_mayHave len_X6_mayHave (fun p e s m args below meth c D ca ad A as M hX hr hp ho => pf_X6_mayHave _ _ (bsX6_mayHave_0 hX hr) (bsX6_mayHave_30 hX hr) (bsX6_mayHave_32 hX hr) (bsX6_mayHave_54 hX hr) (bsX6_mayHave_58 hX hr) (bsX6_mayHave_59 hX hr) as M ho hp ⟨rfl, rfl⟩)
def pz (x : Int32) : Int32 := if x ≤ 0 then 0 else 1
theorem pz_01 (x : Int32) : pz x = 0 ∨ pz x = 1 := by unfold pz; split <;> simp
def urg (M : mM) (k uk : Nat) (r : Int32) : Int32 := if r = 0 then (if pz (M.1 k 1) = 0 then 0 else if M.1 uk 7 < M.1 k 1 then 0 else 1) else 1
theorem urg_01 (M : mM) (k uk : Nat) (r : Int32) : urg M k uk r = 0 ∨ urg M k uk r = 1 := by unfold urg; split <;> (try split) <;> (try split) <;> simp
def ib2 (M : mM) (k i j : Nat) (u : Int32) : Int32 := if u = 0 then (if M.1 22 i * M.1 (k + 1 + 1 + i) 1 * (M.1 (k + 1 + 1 + j) 6 + 1) ≤ M.1 22 j * M.1 (k + 1 + 1 + j) 1 * (M.1 (k + 1 + 1 + i) 6 + 1) then 0 else 1) else (if M.1 (k + 1 + 1 + i) 7 ≤ M.1 (k + 1 + 1 + j) 7 then 0 else 1)
def ib1 (M : mM) (k i j : Nat) (r : Int32) : Int32 := if urg M k (k + 1 + 1 + i) r = urg M k (k + 1 + 1 + j) r then ib2 M k i j (urg M k (k + 1 + 1 + i) r) else urg M k (k + 1 + 1 + i) r
def ib (M : mM) (k i j : Nat) : Int32 := if pz (M.1 (k + 1 + 1 + i) 5) = pz (M.1 (k + 1 + 1 + j) 5) then ib1 M k i j (pz (M.1 (k + 1 + 1 + i) 5)) else pz (M.1 (k + 1 + 1 + i) 5)
def pre_X6_isBefore (as : List mV) (M : mM) : Prop := ∃ g k a b, as = [.inr (.inr (6, g)), .inr (.inr (8, k)), .inl a, .inl b] ∧ (∃ i, i < 5 ∧ a = nI i) ∧ ∃ j, j < 5 ∧ b = nI j
def fn_X6_isBefore : List mV → mM → Option mV × mM
  | [.inr (.inr (_, g)), .inr (.inr (_, k)), .inl a, .inl b], M => (some (.inl (ib M k a.toNatClampNeg b.toNatClampNeg)), M)
  | _, M => (none, M)
theorem ok_X6_isBefore (as : List mV) (M : mM) (h : pre_X6_isBefore as M) (_ : ∀ v ∈ as, okV v) : okR (fn_X6_isBefore as M).1 := by
  obtain ⟨g, k, a, b, rfl, -⟩ := h
  first | trivial | exact (by decide +kernel : kof 14 = 8)
theorem len_X6_isBefore (as : List mV) (M : mM) (h : pre_X6_isBefore as M) : (inL as).length ≤ 10 := by
  obtain ⟨g, k, a, b, rfl, -⟩ := h
  exact Nat.le_of_ble_eq_true rfl

theorem fl_112 : FLk "FairBlocks$Scheduler" 82 10 6 0 := ⟨RX10, TX10, 10, rfl, inX10, by decide, w_112, by decide, rfl⟩
theorem fl_117 : FLk "FairBlocks$Scheduler" 96 10 7 0 := ⟨RX10, TX10, 10, rfl, inX10, by decide, w_117, by decide, rfl⟩
theorem fl_146 : FLk "FairBlocks$Scheduler" 46 8 0 19 := ⟨RX8, TX8, 3, rfl, inX8, by decide, w_146, by decide, rfl⟩
theorem fl_152 : FLk "FairBlocks$Scheduler" 113 8 1 0 := ⟨RX8, TX8, 3, rfl, inX8, by decide, w_152, by decide, rfl⟩
theorem fl_98 : FLk "FairBlocks$Scheduler" 116 10 1 0 := ⟨RX10, TX10, 10, rfl, inX10, by decide, w_98, by decide, rfl⟩
theorem dX6_isBefore_0 : decode cX6_isBefore 0 = .ok (.aload_n 1, 1) := by decide +kernel
theorem dX6_isBefore_1 : decode cX6_isBefore 1 = .ok (.getfield 46, 3) := by decide +kernel
theorem dX6_isBefore_4 : decode cX6_isBefore 4 = .ok (.iload_n 2, 1) := by decide +kernel
theorem dX6_isBefore_5 : decode cX6_isBefore 5 = .ok (.aaload, 1) := by decide +kernel
theorem dX6_isBefore_6 : decode cX6_isBefore 6 = .ok (.astore 4, 2) := by decide +kernel
theorem dX6_isBefore_8 : decode cX6_isBefore 8 = .ok (.aload_n 1, 1) := by decide +kernel
theorem dX6_isBefore_9 : decode cX6_isBefore 9 = .ok (.getfield 46, 3) := by decide +kernel
theorem dX6_isBefore_12 : decode cX6_isBefore 12 = .ok (.iload_n 3, 1) := by decide +kernel
theorem dX6_isBefore_13 : decode cX6_isBefore 13 = .ok (.aaload, 1) := by decide +kernel
theorem dX6_isBefore_14 : decode cX6_isBefore 14 = .ok (.astore 5, 2) := by decide +kernel
theorem dX6_isBefore_16 : decode cX6_isBefore 16 = .ok (.aload 4, 2) := by decide +kernel
theorem dX6_isBefore_18 : decode cX6_isBefore 18 = .ok (.getfield 110, 3) := by decide +kernel
theorem dX6_isBefore_21 : decode cX6_isBefore 21 = .ok (.ifCond .le 7, 3) := by decide +kernel
theorem dX6_isBefore_24 : decode cX6_isBefore 24 = .ok (.iconst 1, 1) := by decide +kernel
theorem dX6_isBefore_25 : decode cX6_isBefore 25 = .ok (.goto 4, 3) := by decide +kernel
theorem dX6_isBefore_28 : decode cX6_isBefore 28 = .ok (.iconst 0, 1) := by decide +kernel
theorem dX6_isBefore_29 : decode cX6_isBefore 29 = .ok (.istore 6, 2) := by decide +kernel
theorem dX6_isBefore_31 : decode cX6_isBefore 31 = .ok (.iload 6, 2) := by decide +kernel
theorem dX6_isBefore_33 : decode cX6_isBefore 33 = .ok (.aload 5, 2) := by decide +kernel
theorem dX6_isBefore_35 : decode cX6_isBefore 35 = .ok (.getfield 110, 3) := by decide +kernel
theorem dX6_isBefore_38 : decode cX6_isBefore 38 = .ok (.ifCond .le 7, 3) := by decide +kernel
theorem dX6_isBefore_41 : decode cX6_isBefore 41 = .ok (.iconst 1, 1) := by decide +kernel
theorem dX6_isBefore_42 : decode cX6_isBefore 42 = .ok (.goto 4, 3) := by decide +kernel
theorem dX6_isBefore_45 : decode cX6_isBefore 45 = .ok (.iconst 0, 1) := by decide +kernel
theorem dX6_isBefore_46 : decode cX6_isBefore 46 = .ok (.if_icmp .eq 6, 3) := by decide +kernel
theorem dX6_isBefore_49 : decode cX6_isBefore 49 = .ok (.iload 6, 2) := by decide +kernel
theorem dX6_isBefore_51 : decode cX6_isBefore 51 = .ok (.ireturn, 1) := by decide +kernel
theorem dX6_isBefore_52 : decode cX6_isBefore 52 = .ok (.aload_n 1, 1) := by decide +kernel
theorem dX6_isBefore_53 : decode cX6_isBefore 53 = .ok (.getfield 113, 3) := by decide +kernel
theorem dX6_isBefore_56 : decode cX6_isBefore 56 = .ok (.ifCond .le 7, 3) := by decide +kernel
theorem dX6_isBefore_59 : decode cX6_isBefore 59 = .ok (.iconst 1, 1) := by decide +kernel
theorem dX6_isBefore_60 : decode cX6_isBefore 60 = .ok (.goto 4, 3) := by decide +kernel
theorem dX6_isBefore_63 : decode cX6_isBefore 63 = .ok (.iconst 0, 1) := by decide +kernel
theorem dX6_isBefore_64 : decode cX6_isBefore 64 = .ok (.istore 7, 2) := by decide +kernel
theorem dX6_isBefore_66 : decode cX6_isBefore 66 = .ok (.iload 6, 2) := by decide +kernel
theorem dX6_isBefore_68 : decode cX6_isBefore 68 = .ok (.ifCond .ne 20, 3) := by decide +kernel
theorem dX6_isBefore_71 : decode cX6_isBefore 71 = .ok (.iload 7, 2) := by decide +kernel
theorem dX6_isBefore_73 : decode cX6_isBefore 73 = .ok (.ifCond .eq 19, 3) := by decide +kernel
theorem dX6_isBefore_76 : decode cX6_isBefore 76 = .ok (.aload 4, 2) := by decide +kernel
theorem dX6_isBefore_78 : decode cX6_isBefore 78 = .ok (.getfield 96, 3) := by decide +kernel
theorem dX6_isBefore_81 : decode cX6_isBefore 81 = .ok (.aload_n 1, 1) := by decide +kernel
theorem dX6_isBefore_82 : decode cX6_isBefore 82 = .ok (.getfield 113, 3) := by decide +kernel
theorem dX6_isBefore_85 : decode cX6_isBefore 85 = .ok (.if_icmp .lt 7, 3) := by decide +kernel
theorem dX6_isBefore_88 : decode cX6_isBefore 88 = .ok (.iconst 1, 1) := by decide +kernel
theorem dX6_isBefore_89 : decode cX6_isBefore 89 = .ok (.goto 4, 3) := by decide +kernel
theorem dX6_isBefore_92 : decode cX6_isBefore 92 = .ok (.iconst 0, 1) := by decide +kernel
theorem dX6_isBefore_93 : decode cX6_isBefore 93 = .ok (.istore 8, 2) := by decide +kernel
theorem dX6_isBefore_95 : decode cX6_isBefore 95 = .ok (.iload 6, 2) := by decide +kernel
theorem dX6_isBefore_97 : decode cX6_isBefore 97 = .ok (.ifCond .ne 20, 3) := by decide +kernel
theorem dX6_isBefore_100 : decode cX6_isBefore 100 = .ok (.iload 7, 2) := by decide +kernel
theorem dX6_isBefore_102 : decode cX6_isBefore 102 = .ok (.ifCond .eq 19, 3) := by decide +kernel
theorem dX6_isBefore_105 : decode cX6_isBefore 105 = .ok (.aload 5, 2) := by decide +kernel
theorem dX6_isBefore_107 : decode cX6_isBefore 107 = .ok (.getfield 96, 3) := by decide +kernel
theorem dX6_isBefore_110 : decode cX6_isBefore 110 = .ok (.aload_n 1, 1) := by decide +kernel
theorem dX6_isBefore_111 : decode cX6_isBefore 111 = .ok (.getfield 113, 3) := by decide +kernel
theorem dX6_isBefore_114 : decode cX6_isBefore 114 = .ok (.if_icmp .lt 7, 3) := by decide +kernel
theorem dX6_isBefore_117 : decode cX6_isBefore 117 = .ok (.iconst 1, 1) := by decide +kernel
theorem dX6_isBefore_118 : decode cX6_isBefore 118 = .ok (.goto 4, 3) := by decide +kernel
theorem dX6_isBefore_121 : decode cX6_isBefore 121 = .ok (.iconst 0, 1) := by decide +kernel
theorem dX6_isBefore_122 : decode cX6_isBefore 122 = .ok (.istore 9, 2) := by decide +kernel
theorem dX6_isBefore_124 : decode cX6_isBefore 124 = .ok (.iload 8, 2) := by decide +kernel
theorem dX6_isBefore_126 : decode cX6_isBefore 126 = .ok (.iload 9, 2) := by decide +kernel
theorem dX6_isBefore_128 : decode cX6_isBefore 128 = .ok (.if_icmp .eq 6, 3) := by decide +kernel
theorem dX6_isBefore_131 : decode cX6_isBefore 131 = .ok (.iload 8, 2) := by decide +kernel
theorem dX6_isBefore_133 : decode cX6_isBefore 133 = .ok (.ireturn, 1) := by decide +kernel
theorem dX6_isBefore_134 : decode cX6_isBefore 134 = .ok (.iload 8, 2) := by decide +kernel
theorem dX6_isBefore_136 : decode cX6_isBefore 136 = .ok (.ifCond .eq 22, 3) := by decide +kernel
theorem dX6_isBefore_139 : decode cX6_isBefore 139 = .ok (.aload 4, 2) := by decide +kernel
theorem dX6_isBefore_141 : decode cX6_isBefore 141 = .ok (.getfield 96, 3) := by decide +kernel
theorem dX6_isBefore_144 : decode cX6_isBefore 144 = .ok (.aload 5, 2) := by decide +kernel
theorem dX6_isBefore_146 : decode cX6_isBefore 146 = .ok (.getfield 96, 3) := by decide +kernel
theorem dX6_isBefore_149 : decode cX6_isBefore 149 = .ok (.if_icmp .le 7, 3) := by decide +kernel
theorem dX6_isBefore_152 : decode cX6_isBefore 152 = .ok (.iconst 1, 1) := by decide +kernel
theorem dX6_isBefore_153 : decode cX6_isBefore 153 = .ok (.goto 4, 3) := by decide +kernel
theorem dX6_isBefore_156 : decode cX6_isBefore 156 = .ok (.iconst 0, 1) := by decide +kernel
theorem dX6_isBefore_157 : decode cX6_isBefore 157 = .ok (.ireturn, 1) := by decide +kernel
theorem dX6_isBefore_158 : decode cX6_isBefore 158 = .ok (.aload_n 0, 1) := by decide +kernel
theorem dX6_isBefore_159 : decode cX6_isBefore 159 = .ok (.getfield 9, 3) := by decide +kernel
theorem dX6_isBefore_162 : decode cX6_isBefore 162 = .ok (.iload_n 2, 1) := by decide +kernel
theorem dX6_isBefore_163 : decode cX6_isBefore 163 = .ok (.iaload, 1) := by decide +kernel
theorem dX6_isBefore_164 : decode cX6_isBefore 164 = .ok (.aload 4, 2) := by decide +kernel
theorem dX6_isBefore_166 : decode cX6_isBefore 166 = .ok (.getfield 116, 3) := by decide +kernel
theorem dX6_isBefore_169 : decode cX6_isBefore 169 = .ok (.imul, 1) := by decide +kernel
theorem dX6_isBefore_170 : decode cX6_isBefore 170 = .ok (.aload 5, 2) := by decide +kernel
theorem dX6_isBefore_172 : decode cX6_isBefore 172 = .ok (.getfield 82, 3) := by decide +kernel
theorem dX6_isBefore_175 : decode cX6_isBefore 175 = .ok (.iconst 1, 1) := by decide +kernel
theorem dX6_isBefore_176 : decode cX6_isBefore 176 = .ok (.iadd, 1) := by decide +kernel
theorem dX6_isBefore_177 : decode cX6_isBefore 177 = .ok (.imul, 1) := by decide +kernel
theorem dX6_isBefore_178 : decode cX6_isBefore 178 = .ok (.aload_n 0, 1) := by decide +kernel
theorem dX6_isBefore_179 : decode cX6_isBefore 179 = .ok (.getfield 9, 3) := by decide +kernel
theorem dX6_isBefore_182 : decode cX6_isBefore 182 = .ok (.iload_n 3, 1) := by decide +kernel
theorem dX6_isBefore_183 : decode cX6_isBefore 183 = .ok (.iaload, 1) := by decide +kernel
theorem dX6_isBefore_184 : decode cX6_isBefore 184 = .ok (.aload 5, 2) := by decide +kernel
theorem dX6_isBefore_186 : decode cX6_isBefore 186 = .ok (.getfield 116, 3) := by decide +kernel
theorem dX6_isBefore_189 : decode cX6_isBefore 189 = .ok (.imul, 1) := by decide +kernel
theorem dX6_isBefore_190 : decode cX6_isBefore 190 = .ok (.aload 4, 2) := by decide +kernel
theorem dX6_isBefore_192 : decode cX6_isBefore 192 = .ok (.getfield 82, 3) := by decide +kernel
theorem dX6_isBefore_195 : decode cX6_isBefore 195 = .ok (.iconst 1, 1) := by decide +kernel
theorem dX6_isBefore_196 : decode cX6_isBefore 196 = .ok (.iadd, 1) := by decide +kernel
theorem dX6_isBefore_197 : decode cX6_isBefore 197 = .ok (.imul, 1) := by decide +kernel
theorem dX6_isBefore_198 : decode cX6_isBefore 198 = .ok (.if_icmp .le 7, 3) := by decide +kernel
theorem dX6_isBefore_201 : decode cX6_isBefore 201 = .ok (.iconst 1, 1) := by decide +kernel
theorem dX6_isBefore_202 : decode cX6_isBefore 202 = .ok (.goto 4, 3) := by decide +kernel
theorem dX6_isBefore_205 : decode cX6_isBefore 205 = .ok (.iconst 0, 1) := by decide +kernel
theorem dX6_isBefore_206 : decode cX6_isBefore 206 = .ok (.ireturn, 1) := by decide +kernel
theorem mk_X6_isBefore : MVk yX6_isBefore "FairBlocks$Scheduler" cX6_isBefore 10 (Option.some FieldType.boolean) 3 := ⟨w_453, w_452, wp_4, w_7, rfl, by decide +kernel, by decide +kernel, by decide +kernel⟩
def BX6_isBefore_0 (G : Nat → KT) (Q : Option mV → mM → Prop) : KT := (s_aload 1 (s_getr 8 16 (fun k => k + 1) (s_iload 2 (s_aaldU (s_astore 4 (s_aload 1 (s_getr 8 16 (fun k => k + 1) (s_iload 3 (s_aaldU (s_astore 5 (s_aload 4 (s_geti 10 5 (s_if (fun x => x ≤ 0) (s_at G 28 [true, true, true, true, true, true, false, false, false, false]) (s_iconst (1) (s_at G 29 [true, true, true, true, true, true, false, false, false, false])))))))))))))))
set_option maxRecDepth 4000 in
theorem bsX6_isBefore_0 {p : Program} {l : Launch} {e : Env} {s : State} {m : MethodId} {args : Array Value} {below : List Frame} {meth : Method} {c : Code} {D : va_G} {ca : Nat → ClassId} {ad : Nat → Nat} {A : Nat → Prop} {Q : Option mV → mM → Prop} (hX : CX p s m args meth c 10 cX6_isBefore "FairBlocks$Scheduler" D ca ad A) (hr : meth.sig.returnType = (Option.some FieldType.boolean)) : ∀ lv st M, BX6_isBefore_0 (Gd p l e (rmD 0) s m args below meth c 10 D ca ad A 0 0 (MQ below (QC D ca ad A Q) args s 0 0 A)) Q lv st M → Gd p l e (rmD 0) s m args below meth c 10 D ca ad A 0 0 (MQ below (QC D ca ad A Q) args s 0 0 A) 0 lv st M :=
  (sd_aload_n hX dX6_isBefore_0 rfl (sd_getr hX fl_146 (fun _ => rfl) okA dX6_isBefore_1 (sd_iload_n hX dX6_isBefore_4 rfl (sd_aaldU hX dX6_isBefore_5 (sd_astore hX (by decide) dX6_isBefore_6 (sd_aload_n hX dX6_isBefore_8 rfl (sd_getr hX fl_146 (fun _ => rfl) okA dX6_isBefore_9 (sd_iload_n hX dX6_isBefore_12 rfl (sd_aaldU hX dX6_isBefore_13 (sd_astore hX (by decide) dX6_isBefore_14 (sd_aload hX dX6_isBefore_16 (sd_geti hX fl_110 (by decide) dX6_isBefore_18 (sd_if_le hX dX6_isBefore_21 (by decide) sd_at (sd_iconst hX dX6_isBefore_24 rfl (sd_goto hX dX6_isBefore_25 (by decide) sd_at)))))))))))))))
def BX6_isBefore_28 (G : Nat → KT) (Q : Option mV → mM → Prop) : KT := (s_iconst (0) (s_at G 29 [true, true, true, true, true, true, false, false, false, false]))
set_option maxRecDepth 4000 in
theorem bsX6_isBefore_28 {p : Program} {l : Launch} {e : Env} {s : State} {m : MethodId} {args : Array Value} {below : List Frame} {meth : Method} {c : Code} {D : va_G} {ca : Nat → ClassId} {ad : Nat → Nat} {A : Nat → Prop} {Q : Option mV → mM → Prop} (hX : CX p s m args meth c 10 cX6_isBefore "FairBlocks$Scheduler" D ca ad A) (hr : meth.sig.returnType = (Option.some FieldType.boolean)) : ∀ lv st M, BX6_isBefore_28 (Gd p l e (rmD 0) s m args below meth c 10 D ca ad A 0 0 (MQ below (QC D ca ad A Q) args s 0 0 A)) Q lv st M → Gd p l e (rmD 0) s m args below meth c 10 D ca ad A 0 0 (MQ below (QC D ca ad A Q) args s 0 0 A) 28 lv st M :=
  (sd_iconst hX dX6_isBefore_28 rfl sd_at)
def BX6_isBefore_29 (G : Nat → KT) (Q : Option mV → mM → Prop) : KT := (s_istore 6 (s_iload 6 (s_aload 5 (s_geti 10 5 (s_if (fun x => x ≤ 0) (s_at G 45 [true, true, true, true, true, true, true, false, false, false]) (s_iconst (1) (s_at G 46 [true, true, true, true, true, true, true, false, false, false])))))))
set_option maxRecDepth 4000 in
theorem bsX6_isBefore_29 {p : Program} {l : Launch} {e : Env} {s : State} {m : MethodId} {args : Array Value} {below : List Frame} {meth : Method} {c : Code} {D : va_G} {ca : Nat → ClassId} {ad : Nat → Nat} {A : Nat → Prop} {Q : Option mV → mM → Prop} (hX : CX p s m args meth c 10 cX6_isBefore "FairBlocks$Scheduler" D ca ad A) (hr : meth.sig.returnType = (Option.some FieldType.boolean)) : ∀ lv st M, BX6_isBefore_29 (Gd p l e (rmD 0) s m args below meth c 10 D ca ad A 0 0 (MQ below (QC D ca ad A Q) args s 0 0 A)) Q lv st M → Gd p l e (rmD 0) s m args below meth c 10 D ca ad A 0 0 (MQ below (QC D ca ad A Q) args s 0 0 A) 29 lv st M :=
  (sd_istore hX (by decide) dX6_isBefore_29 (sd_iload hX dX6_isBefore_31 (sd_aload hX dX6_isBefore_33 (sd_geti hX fl_110 (by decide) dX6_isBefore_35 (sd_if_le hX dX6_isBefore_38 (by decide) sd_at (sd_iconst hX dX6_isBefore_41 rfl (sd_goto hX dX6_isBefore_42 (by decide) sd_at)))))))
def BX6_isBefore_45 (G : Nat → KT) (Q : Option mV → mM → Prop) : KT := (s_iconst (0) (s_at G 46 [true, true, true, true, true, true, true, false, false, false]))
set_option maxRecDepth 4000 in
theorem bsX6_isBefore_45 {p : Program} {l : Launch} {e : Env} {s : State} {m : MethodId} {args : Array Value} {below : List Frame} {meth : Method} {c : Code} {D : va_G} {ca : Nat → ClassId} {ad : Nat → Nat} {A : Nat → Prop} {Q : Option mV → mM → Prop} (hX : CX p s m args meth c 10 cX6_isBefore "FairBlocks$Scheduler" D ca ad A) (hr : meth.sig.returnType = (Option.some FieldType.boolean)) : ∀ lv st M, BX6_isBefore_45 (Gd p l e (rmD 0) s m args below meth c 10 D ca ad A 0 0 (MQ below (QC D ca ad A Q) args s 0 0 A)) Q lv st M → Gd p l e (rmD 0) s m args below meth c 10 D ca ad A 0 0 (MQ below (QC D ca ad A Q) args s 0 0 A) 45 lv st M :=
  (sd_iconst hX dX6_isBefore_45 rfl sd_at)
def BX6_isBefore_46 (G : Nat → KT) (Q : Option mV → mM → Prop) : KT := (s_icmp (fun x y => x = y) (s_at G 52 [true, true, true, true, true, true, true, false, false, false]) (s_iload 6 (s_zret Q)))
set_option maxRecDepth 4000 in
theorem bsX6_isBefore_46 {p : Program} {l : Launch} {e : Env} {s : State} {m : MethodId} {args : Array Value} {below : List Frame} {meth : Method} {c : Code} {D : va_G} {ca : Nat → ClassId} {ad : Nat → Nat} {A : Nat → Prop} {Q : Option mV → mM → Prop} (hX : CX p s m args meth c 10 cX6_isBefore "FairBlocks$Scheduler" D ca ad A) (hr : meth.sig.returnType = (Option.some FieldType.boolean)) : ∀ lv st M, BX6_isBefore_46 (Gd p l e (rmD 0) s m args below meth c 10 D ca ad A 0 0 (MQ below (QC D ca ad A Q) args s 0 0 A)) Q lv st M → Gd p l e (rmD 0) s m args below meth c 10 D ca ad A 0 0 (MQ below (QC D ca ad A Q) args s 0 0 A) 46 lv st M :=
  (sd_icmp_eq hX dX6_isBefore_46 (by decide) sd_at (sd_iload hX dX6_isBefore_49 (sd_zret hX hr dX6_isBefore_51)))
def BX6_isBefore_52 (G : Nat → KT) (Q : Option mV → mM → Prop) : KT := (s_aload 1 (s_geti 8 1 (s_if (fun x => x ≤ 0) (s_at G 63 [true, true, true, true, true, true, true, false, false, false]) (s_iconst (1) (s_at G 64 [true, true, true, true, true, true, true, false, false, false])))))
set_option maxRecDepth 4000 in
theorem bsX6_isBefore_52 {p : Program} {l : Launch} {e : Env} {s : State} {m : MethodId} {args : Array Value} {below : List Frame} {meth : Method} {c : Code} {D : va_G} {ca : Nat → ClassId} {ad : Nat → Nat} {A : Nat → Prop} {Q : Option mV → mM → Prop} (hX : CX p s m args meth c 10 cX6_isBefore "FairBlocks$Scheduler" D ca ad A) (hr : meth.sig.returnType = (Option.some FieldType.boolean)) : ∀ lv st M, BX6_isBefore_52 (Gd p l e (rmD 0) s m args below meth c 10 D ca ad A 0 0 (MQ below (QC D ca ad A Q) args s 0 0 A)) Q lv st M → Gd p l e (rmD 0) s m args below meth c 10 D ca ad A 0 0 (MQ below (QC D ca ad A Q) args s 0 0 A) 52 lv st M :=
  (sd_aload_n hX dX6_isBefore_52 rfl (sd_geti hX fl_152 (by decide) dX6_isBefore_53 (sd_if_le hX dX6_isBefore_56 (by decide) sd_at (sd_iconst hX dX6_isBefore_59 rfl (sd_goto hX dX6_isBefore_60 (by decide) sd_at)))))
def BX6_isBefore_63 (G : Nat → KT) (Q : Option mV → mM → Prop) : KT := (s_iconst (0) (s_at G 64 [true, true, true, true, true, true, true, false, false, false]))
set_option maxRecDepth 4000 in
theorem bsX6_isBefore_63 {p : Program} {l : Launch} {e : Env} {s : State} {m : MethodId} {args : Array Value} {below : List Frame} {meth : Method} {c : Code} {D : va_G} {ca : Nat → ClassId} {ad : Nat → Nat} {A : Nat → Prop} {Q : Option mV → mM → Prop} (hX : CX p s m args meth c 10 cX6_isBefore "FairBlocks$Scheduler" D ca ad A) (hr : meth.sig.returnType = (Option.some FieldType.boolean)) : ∀ lv st M, BX6_isBefore_63 (Gd p l e (rmD 0) s m args below meth c 10 D ca ad A 0 0 (MQ below (QC D ca ad A Q) args s 0 0 A)) Q lv st M → Gd p l e (rmD 0) s m args below meth c 10 D ca ad A 0 0 (MQ below (QC D ca ad A Q) args s 0 0 A) 63 lv st M :=
  (sd_iconst hX dX6_isBefore_63 rfl sd_at)
def BX6_isBefore_64 (G : Nat → KT) (Q : Option mV → mM → Prop) : KT := (s_istore 7 (s_iload 6 (s_if (fun x => x = 0) ((s_iload 7 (s_if (fun x => x = 0) (s_at G 92 [true, true, true, true, true, true, true, true, false, false]) (s_aload 4 (s_geti 10 7 (s_aload 1 (s_geti 8 1 (s_icmp (fun x y => x < y) (s_at G 92 [true, true, true, true, true, true, true, true, false, false]) (s_at G 88 [true, true, true, true, true, true, true, true, false, false]))))))))) (s_at G 88 [true, true, true, true, true, true, true, true, false, false]))))
set_option maxRecDepth 4000 in
theorem bsX6_isBefore_64 {p : Program} {l : Launch} {e : Env} {s : State} {m : MethodId} {args : Array Value} {below : List Frame} {meth : Method} {c : Code} {D : va_G} {ca : Nat → ClassId} {ad : Nat → Nat} {A : Nat → Prop} {Q : Option mV → mM → Prop} (hX : CX p s m args meth c 10 cX6_isBefore "FairBlocks$Scheduler" D ca ad A) (hr : meth.sig.returnType = (Option.some FieldType.boolean)) : ∀ lv st M, BX6_isBefore_64 (Gd p l e (rmD 0) s m args below meth c 10 D ca ad A 0 0 (MQ below (QC D ca ad A Q) args s 0 0 A)) Q lv st M → Gd p l e (rmD 0) s m args below meth c 10 D ca ad A 0 0 (MQ below (QC D ca ad A Q) args s 0 0 A) 64 lv st M :=
  (sd_istore hX (by decide) dX6_isBefore_64 (sd_iload hX dX6_isBefore_66 (sd_if_ne hX dX6_isBefore_68 (by decide) sd_at (sd_iload hX dX6_isBefore_71 (sd_if_eq hX dX6_isBefore_73 (by decide) sd_at (sd_aload hX dX6_isBefore_76 (sd_geti hX fl_117 (by decide) dX6_isBefore_78 (sd_aload_n hX dX6_isBefore_81 rfl (sd_geti hX fl_152 (by decide) dX6_isBefore_82 (sd_icmp_lt hX dX6_isBefore_85 (by decide) sd_at sd_at))))))))))
def BX6_isBefore_88 (G : Nat → KT) (Q : Option mV → mM → Prop) : KT := (s_iconst (1) (s_at G 93 [true, true, true, true, true, true, true, true, false, false]))
set_option maxRecDepth 4000 in
theorem bsX6_isBefore_88 {p : Program} {l : Launch} {e : Env} {s : State} {m : MethodId} {args : Array Value} {below : List Frame} {meth : Method} {c : Code} {D : va_G} {ca : Nat → ClassId} {ad : Nat → Nat} {A : Nat → Prop} {Q : Option mV → mM → Prop} (hX : CX p s m args meth c 10 cX6_isBefore "FairBlocks$Scheduler" D ca ad A) (hr : meth.sig.returnType = (Option.some FieldType.boolean)) : ∀ lv st M, BX6_isBefore_88 (Gd p l e (rmD 0) s m args below meth c 10 D ca ad A 0 0 (MQ below (QC D ca ad A Q) args s 0 0 A)) Q lv st M → Gd p l e (rmD 0) s m args below meth c 10 D ca ad A 0 0 (MQ below (QC D ca ad A Q) args s 0 0 A) 88 lv st M :=
  (sd_iconst hX dX6_isBefore_88 rfl (sd_goto hX dX6_isBefore_89 (by decide) sd_at))
def BX6_isBefore_92 (G : Nat → KT) (Q : Option mV → mM → Prop) : KT := (s_iconst (0) (s_at G 93 [true, true, true, true, true, true, true, true, false, false]))
set_option maxRecDepth 4000 in
theorem bsX6_isBefore_92 {p : Program} {l : Launch} {e : Env} {s : State} {m : MethodId} {args : Array Value} {below : List Frame} {meth : Method} {c : Code} {D : va_G} {ca : Nat → ClassId} {ad : Nat → Nat} {A : Nat → Prop} {Q : Option mV → mM → Prop} (hX : CX p s m args meth c 10 cX6_isBefore "FairBlocks$Scheduler" D ca ad A) (hr : meth.sig.returnType = (Option.some FieldType.boolean)) : ∀ lv st M, BX6_isBefore_92 (Gd p l e (rmD 0) s m args below meth c 10 D ca ad A 0 0 (MQ below (QC D ca ad A Q) args s 0 0 A)) Q lv st M → Gd p l e (rmD 0) s m args below meth c 10 D ca ad A 0 0 (MQ below (QC D ca ad A Q) args s 0 0 A) 92 lv st M :=
  (sd_iconst hX dX6_isBefore_92 rfl sd_at)
def BX6_isBefore_93 (G : Nat → KT) (Q : Option mV → mM → Prop) : KT := (s_istore 8 (s_iload 6 (s_if (fun x => x = 0) ((s_iload 7 (s_if (fun x => x = 0) (s_at G 121 [true, false, true, true, true, true, false, false, true, false]) (s_aload 5 (s_geti 10 7 (s_aload 1 (s_geti 8 1 (s_icmp (fun x y => x < y) (s_at G 121 [true, false, true, true, true, true, false, false, true, false]) (s_at G 117 [true, false, true, true, true, true, false, false, true, false]))))))))) (s_at G 117 [true, false, true, true, true, true, false, false, true, false]))))
set_option maxRecDepth 4000 in
theorem bsX6_isBefore_93 {p : Program} {l : Launch} {e : Env} {s : State} {m : MethodId} {args : Array Value} {below : List Frame} {meth : Method} {c : Code} {D : va_G} {ca : Nat → ClassId} {ad : Nat → Nat} {A : Nat → Prop} {Q : Option mV → mM → Prop} (hX : CX p s m args meth c 10 cX6_isBefore "FairBlocks$Scheduler" D ca ad A) (hr : meth.sig.returnType = (Option.some FieldType.boolean)) : ∀ lv st M, BX6_isBefore_93 (Gd p l e (rmD 0) s m args below meth c 10 D ca ad A 0 0 (MQ below (QC D ca ad A Q) args s 0 0 A)) Q lv st M → Gd p l e (rmD 0) s m args below meth c 10 D ca ad A 0 0 (MQ below (QC D ca ad A Q) args s 0 0 A) 93 lv st M :=
  (sd_istore hX (by decide) dX6_isBefore_93 (sd_iload hX dX6_isBefore_95 (sd_if_ne hX dX6_isBefore_97 (by decide) sd_at (sd_iload hX dX6_isBefore_100 (sd_if_eq hX dX6_isBefore_102 (by decide) sd_at (sd_aload hX dX6_isBefore_105 (sd_geti hX fl_117 (by decide) dX6_isBefore_107 (sd_aload_n hX dX6_isBefore_110 rfl (sd_geti hX fl_152 (by decide) dX6_isBefore_111 (sd_icmp_lt hX dX6_isBefore_114 (by decide) sd_at sd_at))))))))))
def BX6_isBefore_117 (G : Nat → KT) (Q : Option mV → mM → Prop) : KT := (s_iconst (1) (s_at G 122 [true, false, true, true, true, true, false, false, true, false]))
set_option maxRecDepth 4000 in
theorem bsX6_isBefore_117 {p : Program} {l : Launch} {e : Env} {s : State} {m : MethodId} {args : Array Value} {below : List Frame} {meth : Method} {c : Code} {D : va_G} {ca : Nat → ClassId} {ad : Nat → Nat} {A : Nat → Prop} {Q : Option mV → mM → Prop} (hX : CX p s m args meth c 10 cX6_isBefore "FairBlocks$Scheduler" D ca ad A) (hr : meth.sig.returnType = (Option.some FieldType.boolean)) : ∀ lv st M, BX6_isBefore_117 (Gd p l e (rmD 0) s m args below meth c 10 D ca ad A 0 0 (MQ below (QC D ca ad A Q) args s 0 0 A)) Q lv st M → Gd p l e (rmD 0) s m args below meth c 10 D ca ad A 0 0 (MQ below (QC D ca ad A Q) args s 0 0 A) 117 lv st M :=
  (sd_iconst hX dX6_isBefore_117 rfl (sd_goto hX dX6_isBefore_118 (by decide) sd_at))
def BX6_isBefore_121 (G : Nat → KT) (Q : Option mV → mM → Prop) : KT := (s_iconst (0) (s_at G 122 [true, false, true, true, true, true, false, false, true, false]))
set_option maxRecDepth 4000 in
theorem bsX6_isBefore_121 {p : Program} {l : Launch} {e : Env} {s : State} {m : MethodId} {args : Array Value} {below : List Frame} {meth : Method} {c : Code} {D : va_G} {ca : Nat → ClassId} {ad : Nat → Nat} {A : Nat → Prop} {Q : Option mV → mM → Prop} (hX : CX p s m args meth c 10 cX6_isBefore "FairBlocks$Scheduler" D ca ad A) (hr : meth.sig.returnType = (Option.some FieldType.boolean)) : ∀ lv st M, BX6_isBefore_121 (Gd p l e (rmD 0) s m args below meth c 10 D ca ad A 0 0 (MQ below (QC D ca ad A Q) args s 0 0 A)) Q lv st M → Gd p l e (rmD 0) s m args below meth c 10 D ca ad A 0 0 (MQ below (QC D ca ad A Q) args s 0 0 A) 121 lv st M :=
  (sd_iconst hX dX6_isBefore_121 rfl sd_at)
def BX6_isBefore_122 (G : Nat → KT) (Q : Option mV → mM → Prop) : KT := (s_istore 9 (s_iload 8 (s_iload 9 (s_icmp (fun x y => x = y) (s_at G 134 [true, false, true, true, true, true, false, false, true, false]) (s_iload 8 (s_zret Q))))))
set_option maxRecDepth 4000 in
theorem bsX6_isBefore_122 {p : Program} {l : Launch} {e : Env} {s : State} {m : MethodId} {args : Array Value} {below : List Frame} {meth : Method} {c : Code} {D : va_G} {ca : Nat → ClassId} {ad : Nat → Nat} {A : Nat → Prop} {Q : Option mV → mM → Prop} (hX : CX p s m args meth c 10 cX6_isBefore "FairBlocks$Scheduler" D ca ad A) (hr : meth.sig.returnType = (Option.some FieldType.boolean)) : ∀ lv st M, BX6_isBefore_122 (Gd p l e (rmD 0) s m args below meth c 10 D ca ad A 0 0 (MQ below (QC D ca ad A Q) args s 0 0 A)) Q lv st M → Gd p l e (rmD 0) s m args below meth c 10 D ca ad A 0 0 (MQ below (QC D ca ad A Q) args s 0 0 A) 122 lv st M :=
  (sd_istore hX (by decide) dX6_isBefore_122 (sd_iload hX dX6_isBefore_124 (sd_iload hX dX6_isBefore_126 (sd_icmp_eq hX dX6_isBefore_128 (by decide) sd_at (sd_iload hX dX6_isBefore_131 (sd_zret hX hr dX6_isBefore_133))))))
def BX6_isBefore_134 (G : Nat → KT) (Q : Option mV → mM → Prop) : KT := (s_iload 8 (s_if (fun x => x = 0) (s_at G 158 [true, false, true, true, true, true, false, false, false, false]) (s_aload 4 (s_geti 10 7 (s_aload 5 (s_geti 10 7 (s_icmp (fun x y => x ≤ y) (s_at G 156 [false, false, false, false, false, false, false, false, false, false]) (s_iconst (1) (s_at G 157 [false, false, false, false, false, false, false, false, false, false])))))))))
set_option maxRecDepth 4000 in
theorem bsX6_isBefore_134 {p : Program} {l : Launch} {e : Env} {s : State} {m : MethodId} {args : Array Value} {below : List Frame} {meth : Method} {c : Code} {D : va_G} {ca : Nat → ClassId} {ad : Nat → Nat} {A : Nat → Prop} {Q : Option mV → mM → Prop} (hX : CX p s m args meth c 10 cX6_isBefore "FairBlocks$Scheduler" D ca ad A) (hr : meth.sig.returnType = (Option.some FieldType.boolean)) : ∀ lv st M, BX6_isBefore_134 (Gd p l e (rmD 0) s m args below meth c 10 D ca ad A 0 0 (MQ below (QC D ca ad A Q) args s 0 0 A)) Q lv st M → Gd p l e (rmD 0) s m args below meth c 10 D ca ad A 0 0 (MQ below (QC D ca ad A Q) args s 0 0 A) 134 lv st M :=
  (sd_iload hX dX6_isBefore_134 (sd_if_eq hX dX6_isBefore_136 (by decide) sd_at (sd_aload hX dX6_isBefore_139 (sd_geti hX fl_117 (by decide) dX6_isBefore_141 (sd_aload hX dX6_isBefore_144 (sd_geti hX fl_117 (by decide) dX6_isBefore_146 (sd_icmp_le hX dX6_isBefore_149 (by decide) sd_at (sd_iconst hX dX6_isBefore_152 rfl (sd_goto hX dX6_isBefore_153 (by decide) sd_at)))))))))
def BX6_isBefore_156 (G : Nat → KT) (Q : Option mV → mM → Prop) : KT := (s_iconst (0) (s_at G 157 [false, false, false, false, false, false, false, false, false, false]))
set_option maxRecDepth 4000 in
theorem bsX6_isBefore_156 {p : Program} {l : Launch} {e : Env} {s : State} {m : MethodId} {args : Array Value} {below : List Frame} {meth : Method} {c : Code} {D : va_G} {ca : Nat → ClassId} {ad : Nat → Nat} {A : Nat → Prop} {Q : Option mV → mM → Prop} (hX : CX p s m args meth c 10 cX6_isBefore "FairBlocks$Scheduler" D ca ad A) (hr : meth.sig.returnType = (Option.some FieldType.boolean)) : ∀ lv st M, BX6_isBefore_156 (Gd p l e (rmD 0) s m args below meth c 10 D ca ad A 0 0 (MQ below (QC D ca ad A Q) args s 0 0 A)) Q lv st M → Gd p l e (rmD 0) s m args below meth c 10 D ca ad A 0 0 (MQ below (QC D ca ad A Q) args s 0 0 A) 156 lv st M :=
  (sd_iconst hX dX6_isBefore_156 rfl sd_at)
def BX6_isBefore_157 (G : Nat → KT) (Q : Option mV → mM → Prop) : KT := (s_zret Q)
set_option maxRecDepth 4000 in
theorem bsX6_isBefore_157 {p : Program} {l : Launch} {e : Env} {s : State} {m : MethodId} {args : Array Value} {below : List Frame} {meth : Method} {c : Code} {D : va_G} {ca : Nat → ClassId} {ad : Nat → Nat} {A : Nat → Prop} {Q : Option mV → mM → Prop} (hX : CX p s m args meth c 10 cX6_isBefore "FairBlocks$Scheduler" D ca ad A) (hr : meth.sig.returnType = (Option.some FieldType.boolean)) : ∀ lv st M, BX6_isBefore_157 (Gd p l e (rmD 0) s m args below meth c 10 D ca ad A 0 0 (MQ below (QC D ca ad A Q) args s 0 0 A)) Q lv st M → Gd p l e (rmD 0) s m args below meth c 10 D ca ad A 0 0 (MQ below (QC D ca ad A Q) args s 0 0 A) 157 lv st M :=
  sd_zret hX hr dX6_isBefore_157
def BX6_isBefore_158 (G : Nat → KT) (Q : Option mV → mM → Prop) : KT := (s_aload 0 (s_getr 6 13 (fun _ => 22) (s_iload 2 (s_iald (s_aload 4 (s_geti 10 1 (s_bin (fun x y => x * y) (s_aload 5 (s_geti 10 6 (s_iconst (1) (s_bin (fun x y => x + y) (s_bin (fun x y => x * y) (s_aload 0 (s_getr 6 13 (fun _ => 22) (s_iload 3 (s_iald (s_aload 5 (s_geti 10 1 (s_bin (fun x y => x * y) (s_aload 4 (s_geti 10 6 (s_iconst (1) (s_bin (fun x y => x + y) (s_bin (fun x y => x * y) (s_icmp (fun x y => x ≤ y) (s_at G 205 [false, false, false, false, false, false, false, false, false, false]) (s_iconst (1) (s_at G 206 [false, false, false, false, false, false, false, false, false, false])))))))))))))))))))))))))))
set_option maxRecDepth 4000 in
theorem bsX6_isBefore_158 {p : Program} {l : Launch} {e : Env} {s : State} {m : MethodId} {args : Array Value} {below : List Frame} {meth : Method} {c : Code} {D : va_G} {ca : Nat → ClassId} {ad : Nat → Nat} {A : Nat → Prop} {Q : Option mV → mM → Prop} (hX : CX p s m args meth c 10 cX6_isBefore "FairBlocks$Scheduler" D ca ad A) (hr : meth.sig.returnType = (Option.some FieldType.boolean)) : ∀ lv st M, BX6_isBefore_158 (Gd p l e (rmD 0) s m args below meth c 10 D ca ad A 0 0 (MQ below (QC D ca ad A Q) args s 0 0 A)) Q lv st M → Gd p l e (rmD 0) s m args below meth c 10 D ca ad A 0 0 (MQ below (QC D ca ad A Q) args s 0 0 A) 158 lv st M :=
  (sd_aload_n hX dX6_isBefore_158 rfl (sd_getr hX fl_172 (fun _ => rfl) (fun _ _ _ => by decide +kernel) dX6_isBefore_159 (sd_iload_n hX dX6_isBefore_162 rfl (sd_iald hX dX6_isBefore_163 (sd_aload hX dX6_isBefore_164 (sd_geti hX fl_98 (by decide) dX6_isBefore_166 (sd_imul hX dX6_isBefore_169 (sd_aload hX dX6_isBefore_170 (sd_geti hX fl_112 (by decide) dX6_isBefore_172 (sd_iconst hX dX6_isBefore_175 rfl (sd_iadd hX dX6_isBefore_176 (sd_imul hX dX6_isBefore_177 (sd_aload_n hX dX6_isBefore_178 rfl (sd_getr hX fl_172 (fun _ => rfl) (fun _ _ _ => by decide +kernel) dX6_isBefore_179 (sd_iload_n hX dX6_isBefore_182 rfl (sd_iald hX dX6_isBefore_183 (sd_aload hX dX6_isBefore_184 (sd_geti hX fl_98 (by decide) dX6_isBefore_186 (sd_imul hX dX6_isBefore_189 (sd_aload hX dX6_isBefore_190 (sd_geti hX fl_112 (by decide) dX6_isBefore_192 (sd_iconst hX dX6_isBefore_195 rfl (sd_iadd hX dX6_isBefore_196 (sd_imul hX dX6_isBefore_197 (sd_icmp_le hX dX6_isBefore_198 (by decide) sd_at (sd_iconst hX dX6_isBefore_201 rfl (sd_goto hX dX6_isBefore_202 (by decide) sd_at)))))))))))))))))))))))))))
def BX6_isBefore_205 (G : Nat → KT) (Q : Option mV → mM → Prop) : KT := (s_iconst (0) (s_at G 206 [false, false, false, false, false, false, false, false, false, false]))
set_option maxRecDepth 4000 in
theorem bsX6_isBefore_205 {p : Program} {l : Launch} {e : Env} {s : State} {m : MethodId} {args : Array Value} {below : List Frame} {meth : Method} {c : Code} {D : va_G} {ca : Nat → ClassId} {ad : Nat → Nat} {A : Nat → Prop} {Q : Option mV → mM → Prop} (hX : CX p s m args meth c 10 cX6_isBefore "FairBlocks$Scheduler" D ca ad A) (hr : meth.sig.returnType = (Option.some FieldType.boolean)) : ∀ lv st M, BX6_isBefore_205 (Gd p l e (rmD 0) s m args below meth c 10 D ca ad A 0 0 (MQ below (QC D ca ad A Q) args s 0 0 A)) Q lv st M → Gd p l e (rmD 0) s m args below meth c 10 D ca ad A 0 0 (MQ below (QC D ca ad A Q) args s 0 0 A) 205 lv st M :=
  (sd_iconst hX dX6_isBefore_205 rfl sd_at)
def BX6_isBefore_206 (G : Nat → KT) (Q : Option mV → mM → Prop) : KT := (s_zret Q)
set_option maxRecDepth 4000 in
theorem bsX6_isBefore_206 {p : Program} {l : Launch} {e : Env} {s : State} {m : MethodId} {args : Array Value} {below : List Frame} {meth : Method} {c : Code} {D : va_G} {ca : Nat → ClassId} {ad : Nat → Nat} {A : Nat → Prop} {Q : Option mV → mM → Prop} (hX : CX p s m args meth c 10 cX6_isBefore "FairBlocks$Scheduler" D ca ad A) (hr : meth.sig.returnType = (Option.some FieldType.boolean)) : ∀ lv st M, BX6_isBefore_206 (Gd p l e (rmD 0) s m args below meth c 10 D ca ad A 0 0 (MQ below (QC D ca ad A Q) args s 0 0 A)) Q lv st M → Gd p l e (rmD 0) s m args below meth c 10 D ca ad A 0 0 (MQ below (QC D ca ad A Q) args s 0 0 A) 206 lv st M :=
  sd_zret hX hr dX6_isBefore_206
set_option maxHeartbeats 400000 in
theorem pf_X6_isBefore (G : Nat → KT) (Q : Option mV → mM → Prop) (h0 : ∀ lv st M, BX6_isBefore_0 G Q lv st M → G 0 lv st M) (h28 : ∀ lv st M, BX6_isBefore_28 G Q lv st M → G 28 lv st M) (h29 : ∀ lv st M, BX6_isBefore_29 G Q lv st M → G 29 lv st M) (h45 : ∀ lv st M, BX6_isBefore_45 G Q lv st M → G 45 lv st M) (h46 : ∀ lv st M, BX6_isBefore_46 G Q lv st M → G 46 lv st M) (h52 : ∀ lv st M, BX6_isBefore_52 G Q lv st M → G 52 lv st M) (h63 : ∀ lv st M, BX6_isBefore_63 G Q lv st M → G 63 lv st M) (h64 : ∀ lv st M, BX6_isBefore_64 G Q lv st M → G 64 lv st M) (h88 : ∀ lv st M, BX6_isBefore_88 G Q lv st M → G 88 lv st M) (h92 : ∀ lv st M, BX6_isBefore_92 G Q lv st M → G 92 lv st M) (h93 : ∀ lv st M, BX6_isBefore_93 G Q lv st M → G 93 lv st M) (h117 : ∀ lv st M, BX6_isBefore_117 G Q lv st M → G 117 lv st M) (h121 : ∀ lv st M, BX6_isBefore_121 G Q lv st M → G 121 lv st M) (h122 : ∀ lv st M, BX6_isBefore_122 G Q lv st M → G 122 lv st M) (h134 : ∀ lv st M, BX6_isBefore_134 G Q lv st M → G 134 lv st M) (h156 : ∀ lv st M, BX6_isBefore_156 G Q lv st M → G 156 lv st M) (h157 : ∀ lv st M, BX6_isBefore_157 G Q lv st M → G 157 lv st M) (h158 : ∀ lv st M, BX6_isBefore_158 G Q lv st M → G 158 lv st M) (h205 : ∀ lv st M, BX6_isBefore_205 G Q lv st M → G 205 lv st M) (h206 : ∀ lv st M, BX6_isBefore_206 G Q lv st M → G 206 lv st M) (as : List mV) (M : mM) (ho : ∀ v ∈ as, okV v) (hp : pre_X6_isBefore as M) (hQ : Q (fn_X6_isBefore as M).1 (fn_X6_isBefore as M).2) : G 0 (inL as ++ List.replicate (10 - (inL as).length) none) [] M := by
  obtain ⟨g, k, a, b, rfl, ⟨i, hi, rfl⟩, j, hj, rfl⟩ := hp
  have hk : kof k = 8 := ho (.inr (.inr (8, k))) (by simp)
  have hl := lnU hk
  have ei : (nI i).toNatClampNeg = i := nI_clamp (by omega)
  have ej : (nI j).toNatClampNeg = j := nI_clamp (by omega)
  have hvi : vp_in (nI i) 5 := vp_in_nI hi (by decide)
  have hvj : vp_in (nI j) 5 := vp_in_nI hj (by decide)
  simp only [fn_X6_isBefore, ei, ej] at hQ
  have L158 : Q (some (.inl (ib2 M k i j 0))) M → G 158 [some (.inr (.inr (6, g))), none, some (.inl (nI i)), some (.inl (nI j)), some (.inr (.inr (10, k + 1 + 1 + i))), some (.inr (.inr (10, k + 1 + 1 + j))), none, none, none, none] [] M := by
    intro hQ
    simp only [ib2, if_true] at hQ
    (apply h158; simp only [BX6_isBefore_158, s_mth, s_mab, s_at, s_iconst, s_lconst, s_iload, s_lload, s_aload, s_istore, s_lstore, s_astore, s_iinc, s_bin, s_binG, s_un, s_lbin, s_lbinG, s_lsh, s_lcmp, s_i2l, s_l2i, s_dup, s_dup2, s_pop, s_if, s_icmp, s_geti, s_getl, s_getr, s_puti, s_putz, s_putl, s_iald, s_zald, s_iast, s_zast, s_aaldS, s_aaldU, s_gets, s_tald, s_tsw, tsw, s_iret, s_zret, s_lret, s_aret, s_vret, s_callV, s_callS, c1, nl1, keepL, csum, pushR, inL, List.getD_cons_zero, List.getD_cons_succ, List.set_cons_zero, List.set_cons_succ, List.cons_append, List.nil_append, List.append_nil, List.replicate, List.length_cons, List.length_nil, List.take_succ_cons, List.take_zero, List.drop_succ_cons, List.drop_zero, List.reverse_cons, List.reverse_nil, true_and, and_true, forall_const, not_true_eq_false, not_false_eq_true, false_implies, true_implies, implies_true, one0, m10, Nat.reduceAdd, Nat.reduceSub, Nat.reduceLeDiff, Nat.zero_add, Nat.add_zero])
    simp only [l22, ei, ej]
    refine ⟨hvi, hvj, fun h => ?_, fun h => ?_⟩
    · rw [if_pos h] at hQ
      (apply h205; simp only [BX6_isBefore_205, s_mth, s_mab, s_at, s_iconst, s_lconst, s_iload, s_lload, s_aload, s_istore, s_lstore, s_astore, s_iinc, s_bin, s_binG, s_un, s_lbin, s_lbinG, s_lsh, s_lcmp, s_i2l, s_l2i, s_dup, s_dup2, s_pop, s_if, s_icmp, s_geti, s_getl, s_getr, s_puti, s_putz, s_putl, s_iald, s_zald, s_iast, s_zast, s_aaldS, s_aaldU, s_gets, s_tald, s_tsw, tsw, s_iret, s_zret, s_lret, s_aret, s_vret, s_callV, s_callS, c1, nl1, keepL, csum, pushR, inL, List.getD_cons_zero, List.getD_cons_succ, List.set_cons_zero, List.set_cons_succ, List.cons_append, List.nil_append, List.append_nil, List.replicate, List.length_cons, List.length_nil, List.take_succ_cons, List.take_zero, List.drop_succ_cons, List.drop_zero, List.reverse_cons, List.reverse_nil, true_and, and_true, forall_const, not_true_eq_false, not_false_eq_true, false_implies, true_implies, implies_true, one0, m10, Nat.reduceAdd, Nat.reduceSub, Nat.reduceLeDiff, Nat.zero_add, Nat.add_zero])
      (apply h206; simp only [BX6_isBefore_206, s_mth, s_mab, s_at, s_iconst, s_lconst, s_iload, s_lload, s_aload, s_istore, s_lstore, s_astore, s_iinc, s_bin, s_binG, s_un, s_lbin, s_lbinG, s_lsh, s_lcmp, s_i2l, s_l2i, s_dup, s_dup2, s_pop, s_if, s_icmp, s_geti, s_getl, s_getr, s_puti, s_putz, s_putl, s_iald, s_zald, s_iast, s_zast, s_aaldS, s_aaldU, s_gets, s_tald, s_tsw, tsw, s_iret, s_zret, s_lret, s_aret, s_vret, s_callV, s_callS, c1, nl1, keepL, csum, pushR, inL, List.getD_cons_zero, List.getD_cons_succ, List.set_cons_zero, List.set_cons_succ, List.cons_append, List.nil_append, List.append_nil, List.replicate, List.length_cons, List.length_nil, List.take_succ_cons, List.take_zero, List.drop_succ_cons, List.drop_zero, List.reverse_cons, List.reverse_nil, true_and, and_true, forall_const, not_true_eq_false, not_false_eq_true, false_implies, true_implies, implies_true, one0, m10, Nat.reduceAdd, Nat.reduceSub, Nat.reduceLeDiff, Nat.zero_add, Nat.add_zero])
      exact ⟨by simp, hQ⟩
    · rw [if_neg h] at hQ
      (apply h206; simp only [BX6_isBefore_206, s_mth, s_mab, s_at, s_iconst, s_lconst, s_iload, s_lload, s_aload, s_istore, s_lstore, s_astore, s_iinc, s_bin, s_binG, s_un, s_lbin, s_lbinG, s_lsh, s_lcmp, s_i2l, s_l2i, s_dup, s_dup2, s_pop, s_if, s_icmp, s_geti, s_getl, s_getr, s_puti, s_putz, s_putl, s_iald, s_zald, s_iast, s_zast, s_aaldS, s_aaldU, s_gets, s_tald, s_tsw, tsw, s_iret, s_zret, s_lret, s_aret, s_vret, s_callV, s_callS, c1, nl1, keepL, csum, pushR, inL, List.getD_cons_zero, List.getD_cons_succ, List.set_cons_zero, List.set_cons_succ, List.cons_append, List.nil_append, List.append_nil, List.replicate, List.length_cons, List.length_nil, List.take_succ_cons, List.take_zero, List.drop_succ_cons, List.drop_zero, List.reverse_cons, List.reverse_nil, true_and, and_true, forall_const, not_true_eq_false, not_false_eq_true, false_implies, true_implies, implies_true, one0, m10, Nat.reduceAdd, Nat.reduceSub, Nat.reduceLeDiff, Nat.zero_add, Nat.add_zero])
      exact ⟨by simp, hQ⟩
  have L134 : ∀ u : Int32, (u = 0 ∨ u = 1) → Q (some (.inl (ib2 M k i j u))) M → G 134 [some (.inr (.inr (6, g))), none, some (.inl (nI i)), some (.inl (nI j)), some (.inr (.inr (10, k + 1 + 1 + i))), some (.inr (.inr (10, k + 1 + 1 + j))), none, none, some (.inl u), none] [] M := by
    intro u hu hQ
    rcases hu with rfl | rfl
    · (apply h134; simp only [BX6_isBefore_134, s_mth, s_mab, s_at, s_iconst, s_lconst, s_iload, s_lload, s_aload, s_istore, s_lstore, s_astore, s_iinc, s_bin, s_binG, s_un, s_lbin, s_lbinG, s_lsh, s_lcmp, s_i2l, s_l2i, s_dup, s_dup2, s_pop, s_if, s_icmp, s_geti, s_getl, s_getr, s_puti, s_putz, s_putl, s_iald, s_zald, s_iast, s_zast, s_aaldS, s_aaldU, s_gets, s_tald, s_tsw, tsw, s_iret, s_zret, s_lret, s_aret, s_vret, s_callV, s_callS, c1, nl1, keepL, csum, pushR, inL, List.getD_cons_zero, List.getD_cons_succ, List.set_cons_zero, List.set_cons_succ, List.cons_append, List.nil_append, List.append_nil, List.replicate, List.length_cons, List.length_nil, List.take_succ_cons, List.take_zero, List.drop_succ_cons, List.drop_zero, List.reverse_cons, List.reverse_nil, true_and, and_true, forall_const, not_true_eq_false, not_false_eq_true, false_implies, true_implies, implies_true, one0, m10, Nat.reduceAdd, Nat.reduceSub, Nat.reduceLeDiff, Nat.zero_add, Nat.add_zero])
      exact L158 hQ
    · simp only [ib2, one0, if_false] at hQ
      (apply h134; simp only [BX6_isBefore_134, s_mth, s_mab, s_at, s_iconst, s_lconst, s_iload, s_lload, s_aload, s_istore, s_lstore, s_astore, s_iinc, s_bin, s_binG, s_un, s_lbin, s_lbinG, s_lsh, s_lcmp, s_i2l, s_l2i, s_dup, s_dup2, s_pop, s_if, s_icmp, s_geti, s_getl, s_getr, s_puti, s_putz, s_putl, s_iald, s_zald, s_iast, s_zast, s_aaldS, s_aaldU, s_gets, s_tald, s_tsw, tsw, s_iret, s_zret, s_lret, s_aret, s_vret, s_callV, s_callS, c1, nl1, keepL, csum, pushR, inL, List.getD_cons_zero, List.getD_cons_succ, List.set_cons_zero, List.set_cons_succ, List.cons_append, List.nil_append, List.append_nil, List.replicate, List.length_cons, List.length_nil, List.take_succ_cons, List.take_zero, List.drop_succ_cons, List.drop_zero, List.reverse_cons, List.reverse_nil, true_and, and_true, forall_const, not_true_eq_false, not_false_eq_true, false_implies, true_implies, implies_true, one0, m10, Nat.reduceAdd, Nat.reduceSub, Nat.reduceLeDiff, Nat.zero_add, Nat.add_zero])
      refine ⟨fun h => ?_, fun h => ?_⟩
      · rw [if_pos h] at hQ
        (apply h156; simp only [BX6_isBefore_156, s_mth, s_mab, s_at, s_iconst, s_lconst, s_iload, s_lload, s_aload, s_istore, s_lstore, s_astore, s_iinc, s_bin, s_binG, s_un, s_lbin, s_lbinG, s_lsh, s_lcmp, s_i2l, s_l2i, s_dup, s_dup2, s_pop, s_if, s_icmp, s_geti, s_getl, s_getr, s_puti, s_putz, s_putl, s_iald, s_zald, s_iast, s_zast, s_aaldS, s_aaldU, s_gets, s_tald, s_tsw, tsw, s_iret, s_zret, s_lret, s_aret, s_vret, s_callV, s_callS, c1, nl1, keepL, csum, pushR, inL, List.getD_cons_zero, List.getD_cons_succ, List.set_cons_zero, List.set_cons_succ, List.cons_append, List.nil_append, List.append_nil, List.replicate, List.length_cons, List.length_nil, List.take_succ_cons, List.take_zero, List.drop_succ_cons, List.drop_zero, List.reverse_cons, List.reverse_nil, true_and, and_true, forall_const, not_true_eq_false, not_false_eq_true, false_implies, true_implies, implies_true, one0, m10, Nat.reduceAdd, Nat.reduceSub, Nat.reduceLeDiff, Nat.zero_add, Nat.add_zero])
        (apply h157; simp only [BX6_isBefore_157, s_mth, s_mab, s_at, s_iconst, s_lconst, s_iload, s_lload, s_aload, s_istore, s_lstore, s_astore, s_iinc, s_bin, s_binG, s_un, s_lbin, s_lbinG, s_lsh, s_lcmp, s_i2l, s_l2i, s_dup, s_dup2, s_pop, s_if, s_icmp, s_geti, s_getl, s_getr, s_puti, s_putz, s_putl, s_iald, s_zald, s_iast, s_zast, s_aaldS, s_aaldU, s_gets, s_tald, s_tsw, tsw, s_iret, s_zret, s_lret, s_aret, s_vret, s_callV, s_callS, c1, nl1, keepL, csum, pushR, inL, List.getD_cons_zero, List.getD_cons_succ, List.set_cons_zero, List.set_cons_succ, List.cons_append, List.nil_append, List.append_nil, List.replicate, List.length_cons, List.length_nil, List.take_succ_cons, List.take_zero, List.drop_succ_cons, List.drop_zero, List.reverse_cons, List.reverse_nil, true_and, and_true, forall_const, not_true_eq_false, not_false_eq_true, false_implies, true_implies, implies_true, one0, m10, Nat.reduceAdd, Nat.reduceSub, Nat.reduceLeDiff, Nat.zero_add, Nat.add_zero])
        exact ⟨by simp, hQ⟩
      · rw [if_neg h] at hQ
        (apply h157; simp only [BX6_isBefore_157, s_mth, s_mab, s_at, s_iconst, s_lconst, s_iload, s_lload, s_aload, s_istore, s_lstore, s_astore, s_iinc, s_bin, s_binG, s_un, s_lbin, s_lbinG, s_lsh, s_lcmp, s_i2l, s_l2i, s_dup, s_dup2, s_pop, s_if, s_icmp, s_geti, s_getl, s_getr, s_puti, s_putz, s_putl, s_iald, s_zald, s_iast, s_zast, s_aaldS, s_aaldU, s_gets, s_tald, s_tsw, tsw, s_iret, s_zret, s_lret, s_aret, s_vret, s_callV, s_callS, c1, nl1, keepL, csum, pushR, inL, List.getD_cons_zero, List.getD_cons_succ, List.set_cons_zero, List.set_cons_succ, List.cons_append, List.nil_append, List.append_nil, List.replicate, List.length_cons, List.length_nil, List.take_succ_cons, List.take_zero, List.drop_succ_cons, List.drop_zero, List.reverse_cons, List.reverse_nil, true_and, and_true, forall_const, not_true_eq_false, not_false_eq_true, false_implies, true_implies, implies_true, one0, m10, Nat.reduceAdd, Nat.reduceSub, Nat.reduceLeDiff, Nat.zero_add, Nat.add_zero])
        exact ⟨by simp, hQ⟩
  have L122 : ∀ u w : Int32, (u = 0 ∨ u = 1) → Q (some (.inl (if u = w then ib2 M k i j u else u))) M → G 122 [some (.inr (.inr (6, g))), none, some (.inl (nI i)), some (.inl (nI j)), some (.inr (.inr (10, k + 1 + 1 + i))), some (.inr (.inr (10, k + 1 + 1 + j))), none, none, some (.inl u), none] [.inl w] M := by
    intro u w hu hQ
    (apply h122; simp only [BX6_isBefore_122, s_mth, s_mab, s_at, s_iconst, s_lconst, s_iload, s_lload, s_aload, s_istore, s_lstore, s_astore, s_iinc, s_bin, s_binG, s_un, s_lbin, s_lbinG, s_lsh, s_lcmp, s_i2l, s_l2i, s_dup, s_dup2, s_pop, s_if, s_icmp, s_geti, s_getl, s_getr, s_puti, s_putz, s_putl, s_iald, s_zald, s_iast, s_zast, s_aaldS, s_aaldU, s_gets, s_tald, s_tsw, tsw, s_iret, s_zret, s_lret, s_aret, s_vret, s_callV, s_callS, c1, nl1, keepL, csum, pushR, inL, List.getD_cons_zero, List.getD_cons_succ, List.set_cons_zero, List.set_cons_succ, List.cons_append, List.nil_append, List.append_nil, List.replicate, List.length_cons, List.length_nil, List.take_succ_cons, List.take_zero, List.drop_succ_cons, List.drop_zero, List.reverse_cons, List.reverse_nil, true_and, and_true, forall_const, not_true_eq_false, not_false_eq_true, false_implies, true_implies, implies_true, one0, m10, Nat.reduceAdd, Nat.reduceSub, Nat.reduceLeDiff, Nat.zero_add, Nat.add_zero])
    refine ⟨fun h => ?_, fun h => ?_⟩
    · rw [if_pos h] at hQ
      exact L134 u hu hQ
    · rw [if_neg h] at hQ
      exact ⟨hu, hQ⟩
  have L93 : ∀ (r u : Int32), (r = 0 ∨ r = 1) → (u = 0 ∨ u = 1) → Q (some (.inl (if u = urg M k (k + 1 + 1 + j) r then ib2 M k i j u else u))) M → G 93 [some (.inr (.inr (6, g))), some (.inr (.inr (8, k))), some (.inl (nI i)), some (.inl (nI j)), some (.inr (.inr (10, k + 1 + 1 + i))), some (.inr (.inr (10, k + 1 + 1 + j))), some (.inl r), some (.inl (pz (M.1 k 1))), none, none] [.inl u] M := by
    intro r u hr hu hQ
    have T : Q (some (.inl (if u = 1 then ib2 M k i j u else u))) M → G 117 [some (.inr (.inr (6, g))), none, some (.inl (nI i)), some (.inl (nI j)), some (.inr (.inr (10, k + 1 + 1 + i))), some (.inr (.inr (10, k + 1 + 1 + j))), none, none, some (.inl u), none] [] M := by
      intro hQ
      (apply h117; simp only [BX6_isBefore_117, s_mth, s_mab, s_at, s_iconst, s_lconst, s_iload, s_lload, s_aload, s_istore, s_lstore, s_astore, s_iinc, s_bin, s_binG, s_un, s_lbin, s_lbinG, s_lsh, s_lcmp, s_i2l, s_l2i, s_dup, s_dup2, s_pop, s_if, s_icmp, s_geti, s_getl, s_getr, s_puti, s_putz, s_putl, s_iald, s_zald, s_iast, s_zast, s_aaldS, s_aaldU, s_gets, s_tald, s_tsw, tsw, s_iret, s_zret, s_lret, s_aret, s_vret, s_callV, s_callS, c1, nl1, keepL, csum, pushR, inL, List.getD_cons_zero, List.getD_cons_succ, List.set_cons_zero, List.set_cons_succ, List.cons_append, List.nil_append, List.append_nil, List.replicate, List.length_cons, List.length_nil, List.take_succ_cons, List.take_zero, List.drop_succ_cons, List.drop_zero, List.reverse_cons, List.reverse_nil, true_and, and_true, forall_const, not_true_eq_false, not_false_eq_true, false_implies, true_implies, implies_true, one0, m10, Nat.reduceAdd, Nat.reduceSub, Nat.reduceLeDiff, Nat.zero_add, Nat.add_zero])
      exact L122 u 1 hu hQ
    have F : Q (some (.inl (if u = 0 then ib2 M k i j u else u))) M → G 121 [some (.inr (.inr (6, g))), none, some (.inl (nI i)), some (.inl (nI j)), some (.inr (.inr (10, k + 1 + 1 + i))), some (.inr (.inr (10, k + 1 + 1 + j))), none, none, some (.inl u), none] [] M := by
      intro hQ
      (apply h121; simp only [BX6_isBefore_121, s_mth, s_mab, s_at, s_iconst, s_lconst, s_iload, s_lload, s_aload, s_istore, s_lstore, s_astore, s_iinc, s_bin, s_binG, s_un, s_lbin, s_lbinG, s_lsh, s_lcmp, s_i2l, s_l2i, s_dup, s_dup2, s_pop, s_if, s_icmp, s_geti, s_getl, s_getr, s_puti, s_putz, s_putl, s_iald, s_zald, s_iast, s_zast, s_aaldS, s_aaldU, s_gets, s_tald, s_tsw, tsw, s_iret, s_zret, s_lret, s_aret, s_vret, s_callV, s_callS, c1, nl1, keepL, csum, pushR, inL, List.getD_cons_zero, List.getD_cons_succ, List.set_cons_zero, List.set_cons_succ, List.cons_append, List.nil_append, List.append_nil, List.replicate, List.length_cons, List.length_nil, List.take_succ_cons, List.take_zero, List.drop_succ_cons, List.drop_zero, List.reverse_cons, List.reverse_nil, true_and, and_true, forall_const, not_true_eq_false, not_false_eq_true, false_implies, true_implies, implies_true, one0, m10, Nat.reduceAdd, Nat.reduceSub, Nat.reduceLeDiff, Nat.zero_add, Nat.add_zero])
      exact L122 u 0 hu hQ
    unfold urg at hQ
    (apply h93; simp only [BX6_isBefore_93, s_mth, s_mab, s_at, s_iconst, s_lconst, s_iload, s_lload, s_aload, s_istore, s_lstore, s_astore, s_iinc, s_bin, s_binG, s_un, s_lbin, s_lbinG, s_lsh, s_lcmp, s_i2l, s_l2i, s_dup, s_dup2, s_pop, s_if, s_icmp, s_geti, s_getl, s_getr, s_puti, s_putz, s_putl, s_iald, s_zald, s_iast, s_zast, s_aaldS, s_aaldU, s_gets, s_tald, s_tsw, tsw, s_iret, s_zret, s_lret, s_aret, s_vret, s_callV, s_callS, c1, nl1, keepL, csum, pushR, inL, List.getD_cons_zero, List.getD_cons_succ, List.set_cons_zero, List.set_cons_succ, List.cons_append, List.nil_append, List.append_nil, List.replicate, List.length_cons, List.length_nil, List.take_succ_cons, List.take_zero, List.drop_succ_cons, List.drop_zero, List.reverse_cons, List.reverse_nil, true_and, and_true, forall_const, not_true_eq_false, not_false_eq_true, false_implies, true_implies, implies_true, one0, m10, Nat.reduceAdd, Nat.reduceSub, Nat.reduceLeDiff, Nat.zero_add, Nat.add_zero])
    refine ⟨fun h => ⟨fun h2 => ?_, fun h2 => ⟨fun h3 => ?_, fun h3 => ?_⟩⟩, fun h => ?_⟩
    · rw [if_pos h, if_pos h2] at hQ; exact F hQ
    · rw [if_pos h, if_neg h2, if_pos h3] at hQ; exact F hQ
    · rw [if_pos h, if_neg h2, if_neg h3] at hQ; exact T hQ
    · rw [if_neg h] at hQ; exact T hQ
  have L64 : ∀ (r : Int32), (r = 0 ∨ r = 1) → Q (some (.inl (ib1 M k i j r))) M → G 64 [some (.inr (.inr (6, g))), some (.inr (.inr (8, k))), some (.inl (nI i)), some (.inl (nI j)), some (.inr (.inr (10, k + 1 + 1 + i))), some (.inr (.inr (10, k + 1 + 1 + j))), some (.inl r), none, none, none] [.inl (pz (M.1 k 1))] M := by
    intro r hr hQ
    have T : urg M k (k + 1 + 1 + i) r = 1 → G 88 [some (.inr (.inr (6, g))), some (.inr (.inr (8, k))), some (.inl (nI i)), some (.inl (nI j)), some (.inr (.inr (10, k + 1 + 1 + i))), some (.inr (.inr (10, k + 1 + 1 + j))), some (.inl r), some (.inl (pz (M.1 k 1))), none, none] [] M := by
      intro h
      rw [ib1, h] at hQ
      (apply h88; simp only [BX6_isBefore_88, s_mth, s_mab, s_at, s_iconst, s_lconst, s_iload, s_lload, s_aload, s_istore, s_lstore, s_astore, s_iinc, s_bin, s_binG, s_un, s_lbin, s_lbinG, s_lsh, s_lcmp, s_i2l, s_l2i, s_dup, s_dup2, s_pop, s_if, s_icmp, s_geti, s_getl, s_getr, s_puti, s_putz, s_putl, s_iald, s_zald, s_iast, s_zast, s_aaldS, s_aaldU, s_gets, s_tald, s_tsw, tsw, s_iret, s_zret, s_lret, s_aret, s_vret, s_callV, s_callS, c1, nl1, keepL, csum, pushR, inL, List.getD_cons_zero, List.getD_cons_succ, List.set_cons_zero, List.set_cons_succ, List.cons_append, List.nil_append, List.append_nil, List.replicate, List.length_cons, List.length_nil, List.take_succ_cons, List.take_zero, List.drop_succ_cons, List.drop_zero, List.reverse_cons, List.reverse_nil, true_and, and_true, forall_const, not_true_eq_false, not_false_eq_true, false_implies, true_implies, implies_true, one0, m10, Nat.reduceAdd, Nat.reduceSub, Nat.reduceLeDiff, Nat.zero_add, Nat.add_zero])
      exact L93 r 1 hr (Or.inr rfl) hQ
    have F : urg M k (k + 1 + 1 + i) r = 0 → G 92 [some (.inr (.inr (6, g))), some (.inr (.inr (8, k))), some (.inl (nI i)), some (.inl (nI j)), some (.inr (.inr (10, k + 1 + 1 + i))), some (.inr (.inr (10, k + 1 + 1 + j))), some (.inl r), some (.inl (pz (M.1 k 1))), none, none] [] M := by
      intro h
      rw [ib1, h] at hQ
      (apply h92; simp only [BX6_isBefore_92, s_mth, s_mab, s_at, s_iconst, s_lconst, s_iload, s_lload, s_aload, s_istore, s_lstore, s_astore, s_iinc, s_bin, s_binG, s_un, s_lbin, s_lbinG, s_lsh, s_lcmp, s_i2l, s_l2i, s_dup, s_dup2, s_pop, s_if, s_icmp, s_geti, s_getl, s_getr, s_puti, s_putz, s_putl, s_iald, s_zald, s_iast, s_zast, s_aaldS, s_aaldU, s_gets, s_tald, s_tsw, tsw, s_iret, s_zret, s_lret, s_aret, s_vret, s_callV, s_callS, c1, nl1, keepL, csum, pushR, inL, List.getD_cons_zero, List.getD_cons_succ, List.set_cons_zero, List.set_cons_succ, List.cons_append, List.nil_append, List.append_nil, List.replicate, List.length_cons, List.length_nil, List.take_succ_cons, List.take_zero, List.drop_succ_cons, List.drop_zero, List.reverse_cons, List.reverse_nil, true_and, and_true, forall_const, not_true_eq_false, not_false_eq_true, false_implies, true_implies, implies_true, one0, m10, Nat.reduceAdd, Nat.reduceSub, Nat.reduceLeDiff, Nat.zero_add, Nat.add_zero])
      exact L93 r 0 hr (Or.inl rfl) hQ
    unfold urg at T F
    (apply h64; simp only [BX6_isBefore_64, s_mth, s_mab, s_at, s_iconst, s_lconst, s_iload, s_lload, s_aload, s_istore, s_lstore, s_astore, s_iinc, s_bin, s_binG, s_un, s_lbin, s_lbinG, s_lsh, s_lcmp, s_i2l, s_l2i, s_dup, s_dup2, s_pop, s_if, s_icmp, s_geti, s_getl, s_getr, s_puti, s_putz, s_putl, s_iald, s_zald, s_iast, s_zast, s_aaldS, s_aaldU, s_gets, s_tald, s_tsw, tsw, s_iret, s_zret, s_lret, s_aret, s_vret, s_callV, s_callS, c1, nl1, keepL, csum, pushR, inL, List.getD_cons_zero, List.getD_cons_succ, List.set_cons_zero, List.set_cons_succ, List.cons_append, List.nil_append, List.append_nil, List.replicate, List.length_cons, List.length_nil, List.take_succ_cons, List.take_zero, List.drop_succ_cons, List.drop_zero, List.reverse_cons, List.reverse_nil, true_and, and_true, forall_const, not_true_eq_false, not_false_eq_true, false_implies, true_implies, implies_true, one0, m10, Nat.reduceAdd, Nat.reduceSub, Nat.reduceLeDiff, Nat.zero_add, Nat.add_zero])
    refine ⟨fun h => ⟨fun h2 => ?_, fun h2 => ⟨fun h3 => ?_, fun h3 => ?_⟩⟩, fun h => ?_⟩
    · exact F (by rw [if_pos h, if_pos h2])
    · exact F (by rw [if_pos h, if_neg h2, if_pos h3])
    · exact T (by rw [if_pos h, if_neg h2, if_neg h3])
    · exact T (by rw [if_neg h])
  have L46 : ∀ (r w : Int32), (r = 0 ∨ r = 1) → Q (some (.inl (if r = w then ib1 M k i j r else r))) M → G 46 [some (.inr (.inr (6, g))), some (.inr (.inr (8, k))), some (.inl (nI i)), some (.inl (nI j)), some (.inr (.inr (10, k + 1 + 1 + i))), some (.inr (.inr (10, k + 1 + 1 + j))), some (.inl r), none, none, none] [.inl w, .inl r] M := by
    intro r w hr hQ
    (apply h46; simp only [BX6_isBefore_46, s_mth, s_mab, s_at, s_iconst, s_lconst, s_iload, s_lload, s_aload, s_istore, s_lstore, s_astore, s_iinc, s_bin, s_binG, s_un, s_lbin, s_lbinG, s_lsh, s_lcmp, s_i2l, s_l2i, s_dup, s_dup2, s_pop, s_if, s_icmp, s_geti, s_getl, s_getr, s_puti, s_putz, s_putl, s_iald, s_zald, s_iast, s_zast, s_aaldS, s_aaldU, s_gets, s_tald, s_tsw, tsw, s_iret, s_zret, s_lret, s_aret, s_vret, s_callV, s_callS, c1, nl1, keepL, csum, pushR, inL, List.getD_cons_zero, List.getD_cons_succ, List.set_cons_zero, List.set_cons_succ, List.cons_append, List.nil_append, List.append_nil, List.replicate, List.length_cons, List.length_nil, List.take_succ_cons, List.take_zero, List.drop_succ_cons, List.drop_zero, List.reverse_cons, List.reverse_nil, true_and, and_true, forall_const, not_true_eq_false, not_false_eq_true, false_implies, true_implies, implies_true, one0, m10, Nat.reduceAdd, Nat.reduceSub, Nat.reduceLeDiff, Nat.zero_add, Nat.add_zero])
    refine ⟨fun h => ?_, fun h => ?_⟩
    · rw [if_pos h] at hQ
      (apply h52; simp only [BX6_isBefore_52, s_mth, s_mab, s_at, s_iconst, s_lconst, s_iload, s_lload, s_aload, s_istore, s_lstore, s_astore, s_iinc, s_bin, s_binG, s_un, s_lbin, s_lbinG, s_lsh, s_lcmp, s_i2l, s_l2i, s_dup, s_dup2, s_pop, s_if, s_icmp, s_geti, s_getl, s_getr, s_puti, s_putz, s_putl, s_iald, s_zald, s_iast, s_zast, s_aaldS, s_aaldU, s_gets, s_tald, s_tsw, tsw, s_iret, s_zret, s_lret, s_aret, s_vret, s_callV, s_callS, c1, nl1, keepL, csum, pushR, inL, List.getD_cons_zero, List.getD_cons_succ, List.set_cons_zero, List.set_cons_succ, List.cons_append, List.nil_append, List.append_nil, List.replicate, List.length_cons, List.length_nil, List.take_succ_cons, List.take_zero, List.drop_succ_cons, List.drop_zero, List.reverse_cons, List.reverse_nil, true_and, and_true, forall_const, not_true_eq_false, not_false_eq_true, false_implies, true_implies, implies_true, one0, m10, Nat.reduceAdd, Nat.reduceSub, Nat.reduceLeDiff, Nat.zero_add, Nat.add_zero])
      have e := L64 r hr hQ
      unfold pz at e
      refine ⟨fun h2 => ?_, fun h2 => ?_⟩
      · rw [if_pos h2] at e
        (apply h63; simp only [BX6_isBefore_63, s_mth, s_mab, s_at, s_iconst, s_lconst, s_iload, s_lload, s_aload, s_istore, s_lstore, s_astore, s_iinc, s_bin, s_binG, s_un, s_lbin, s_lbinG, s_lsh, s_lcmp, s_i2l, s_l2i, s_dup, s_dup2, s_pop, s_if, s_icmp, s_geti, s_getl, s_getr, s_puti, s_putz, s_putl, s_iald, s_zald, s_iast, s_zast, s_aaldS, s_aaldU, s_gets, s_tald, s_tsw, tsw, s_iret, s_zret, s_lret, s_aret, s_vret, s_callV, s_callS, c1, nl1, keepL, csum, pushR, inL, List.getD_cons_zero, List.getD_cons_succ, List.set_cons_zero, List.set_cons_succ, List.cons_append, List.nil_append, List.append_nil, List.replicate, List.length_cons, List.length_nil, List.take_succ_cons, List.take_zero, List.drop_succ_cons, List.drop_zero, List.reverse_cons, List.reverse_nil, true_and, and_true, forall_const, not_true_eq_false, not_false_eq_true, false_implies, true_implies, implies_true, one0, m10, Nat.reduceAdd, Nat.reduceSub, Nat.reduceLeDiff, Nat.zero_add, Nat.add_zero])
        exact e
      · rw [if_neg h2] at e
        exact e
    · rw [if_neg h] at hQ
      exact ⟨hr, hQ⟩
  have L29 : ∀ (r : Int32), (r = 0 ∨ r = 1) → Q (some (.inl (if r = pz (M.1 (k + 1 + 1 + j) 5) then ib1 M k i j r else r))) M → G 29 [some (.inr (.inr (6, g))), some (.inr (.inr (8, k))), some (.inl (nI i)), some (.inl (nI j)), some (.inr (.inr (10, k + 1 + 1 + i))), some (.inr (.inr (10, k + 1 + 1 + j))), none, none, none, none] [.inl r] M := by
    intro r hr hQ
    have e := L46 r _ hr hQ
    unfold pz at e
    (apply h29; simp only [BX6_isBefore_29, s_mth, s_mab, s_at, s_iconst, s_lconst, s_iload, s_lload, s_aload, s_istore, s_lstore, s_astore, s_iinc, s_bin, s_binG, s_un, s_lbin, s_lbinG, s_lsh, s_lcmp, s_i2l, s_l2i, s_dup, s_dup2, s_pop, s_if, s_icmp, s_geti, s_getl, s_getr, s_puti, s_putz, s_putl, s_iald, s_zald, s_iast, s_zast, s_aaldS, s_aaldU, s_gets, s_tald, s_tsw, tsw, s_iret, s_zret, s_lret, s_aret, s_vret, s_callV, s_callS, c1, nl1, keepL, csum, pushR, inL, List.getD_cons_zero, List.getD_cons_succ, List.set_cons_zero, List.set_cons_succ, List.cons_append, List.nil_append, List.append_nil, List.replicate, List.length_cons, List.length_nil, List.take_succ_cons, List.take_zero, List.drop_succ_cons, List.drop_zero, List.reverse_cons, List.reverse_nil, true_and, and_true, forall_const, not_true_eq_false, not_false_eq_true, false_implies, true_implies, implies_true, one0, m10, Nat.reduceAdd, Nat.reduceSub, Nat.reduceLeDiff, Nat.zero_add, Nat.add_zero])
    refine ⟨fun h2 => ?_, fun h2 => ?_⟩
    · rw [if_pos h2] at e
      (apply h45; simp only [BX6_isBefore_45, s_mth, s_mab, s_at, s_iconst, s_lconst, s_iload, s_lload, s_aload, s_istore, s_lstore, s_astore, s_iinc, s_bin, s_binG, s_un, s_lbin, s_lbinG, s_lsh, s_lcmp, s_i2l, s_l2i, s_dup, s_dup2, s_pop, s_if, s_icmp, s_geti, s_getl, s_getr, s_puti, s_putz, s_putl, s_iald, s_zald, s_iast, s_zast, s_aaldS, s_aaldU, s_gets, s_tald, s_tsw, tsw, s_iret, s_zret, s_lret, s_aret, s_vret, s_callV, s_callS, c1, nl1, keepL, csum, pushR, inL, List.getD_cons_zero, List.getD_cons_succ, List.set_cons_zero, List.set_cons_succ, List.cons_append, List.nil_append, List.append_nil, List.replicate, List.length_cons, List.length_nil, List.take_succ_cons, List.take_zero, List.drop_succ_cons, List.drop_zero, List.reverse_cons, List.reverse_nil, true_and, and_true, forall_const, not_true_eq_false, not_false_eq_true, false_implies, true_implies, implies_true, one0, m10, Nat.reduceAdd, Nat.reduceSub, Nat.reduceLeDiff, Nat.zero_add, Nat.add_zero])
      exact e
    · rw [if_neg h2] at e
      exact e
  have e := L29 _ (pz_01 _) hQ
  unfold pz at e
  (apply h0; simp only [BX6_isBefore_0, s_mth, s_mab, s_at, s_iconst, s_lconst, s_iload, s_lload, s_aload, s_istore, s_lstore, s_astore, s_iinc, s_bin, s_binG, s_un, s_lbin, s_lbinG, s_lsh, s_lcmp, s_i2l, s_l2i, s_dup, s_dup2, s_pop, s_if, s_icmp, s_geti, s_getl, s_getr, s_puti, s_putz, s_putl, s_iald, s_zald, s_iast, s_zast, s_aaldS, s_aaldU, s_gets, s_tald, s_tsw, tsw, s_iret, s_zret, s_lret, s_aret, s_vret, s_callV, s_callS, c1, nl1, keepL, csum, pushR, inL, List.getD_cons_zero, List.getD_cons_succ, List.set_cons_zero, List.set_cons_succ, List.cons_append, List.nil_append, List.append_nil, List.replicate, List.length_cons, List.length_nil, List.take_succ_cons, List.take_zero, List.drop_succ_cons, List.drop_zero, List.reverse_cons, List.reverse_nil, true_and, and_true, forall_const, not_true_eq_false, not_false_eq_true, false_implies, true_implies, implies_true, one0, m10, Nat.reduceAdd, Nat.reduceSub, Nat.reduceLeDiff, Nat.zero_add, Nat.add_zero])
  simp only [hl, ei, ej]
  refine ⟨hvi, hvj, fun h2 => ?_, fun h2 => ?_⟩
  · rw [if_pos h2] at e
    (apply h28; simp only [BX6_isBefore_28, s_mth, s_mab, s_at, s_iconst, s_lconst, s_iload, s_lload, s_aload, s_istore, s_lstore, s_astore, s_iinc, s_bin, s_binG, s_un, s_lbin, s_lbinG, s_lsh, s_lcmp, s_i2l, s_l2i, s_dup, s_dup2, s_pop, s_if, s_icmp, s_geti, s_getl, s_getr, s_puti, s_putz, s_putl, s_iald, s_zald, s_iast, s_zast, s_aaldS, s_aaldU, s_gets, s_tald, s_tsw, tsw, s_iret, s_zret, s_lret, s_aret, s_vret, s_callV, s_callS, c1, nl1, keepL, csum, pushR, inL, List.getD_cons_zero, List.getD_cons_succ, List.set_cons_zero, List.set_cons_succ, List.cons_append, List.nil_append, List.append_nil, List.replicate, List.length_cons, List.length_nil, List.take_succ_cons, List.take_zero, List.drop_succ_cons, List.drop_zero, List.reverse_cons, List.reverse_nil, true_and, and_true, forall_const, not_true_eq_false, not_false_eq_true, false_implies, true_implies, implies_true, one0, m10, Nat.reduceAdd, Nat.reduceSub, Nat.reduceLeDiff, Nat.zero_add, Nat.add_zero])
    exact e
  · rw [if_neg h2] at e
    exact e
theorem ct_X6_isBefore (l : Launch) : Con l yX6_isBefore cX6_isBefore 10 (Option.some FieldType.boolean) 0 pre_X6_isBefore fn_X6_isBefore := con_of (by decide +kernel) ok_X6_isBefore len_X6_isBefore (fun p e s m args below meth c D ca ad A as M hX hr hp ho => pf_X6_isBefore _ _ (bsX6_isBefore_0 hX hr) (bsX6_isBefore_28 hX hr) (bsX6_isBefore_29 hX hr) (bsX6_isBefore_45 hX hr) (bsX6_isBefore_46 hX hr) (bsX6_isBefore_52 hX hr) (bsX6_isBefore_63 hX hr) (bsX6_isBefore_64 hX hr) (bsX6_isBefore_88 hX hr) (bsX6_isBefore_92 hX hr) (bsX6_isBefore_93 hX hr) (bsX6_isBefore_117 hX hr) (bsX6_isBefore_121 hX hr) (bsX6_isBefore_122 hX hr) (bsX6_isBefore_134 hX hr) (bsX6_isBefore_156 hX hr) (bsX6_isBefore_157 hX hr) (bsX6_isBefore_158 hX hr) (bsX6_isBefore_205 hX hr) (bsX6_isBefore_206 hX hr) as M ho hp ⟨rfl, rfl⟩)
def duS (M : mM) (k : Nat) (b : Int32) (i : Nat) (d : Int32) : Int32 := if mh M (k + 1 + 1 + i) i b = 0 then d else if d = -9 then nI i else if ib M k i d.toNatClampNeg = 0 then d else nI i
theorem duS_rng {M : mM} {k i N : Nat} {b d : Int32} (hi : i < N) (h : d = -9 ∨ ∃ j, j < N ∧ d = nI j) : duS M k b i d = -9 ∨ ∃ j, j < N ∧ duS M k b i d = nI j := by
  unfold duS
  split
  · exact h
  · split
    · exact Or.inr ⟨i, hi, rfl⟩
    · split
      · exact h
      · exact Or.inr ⟨i, hi, rfl⟩
def nU (M : mM) : Nat := (M.1 4 2).toNatClampNeg
def df (M : mM) (k : Nat) (b : Int32) : Int32 := itr (duS M k b) 0 (nU M) (-9)
theorem itr_inv {S : Type} (f : Nat → S → S) (I : S → Prop) : ∀ (n i : Nat) (s : S), (∀ j s, i ≤ j → j < i + n → I s → I (f j s)) → I s → I (itr f i n s)
  | 0, _, _, _, h => h
  | n + 1, i, s, hf, h => itr_inv f I n (i + 1) (f i s) (fun j s h1 h2 => hf j s (by omega) (by omega)) (hf i s (by omega) (by omega) h)
theorem df_rng {M : mM} {k : Nat} {b : Int32} : df M k b = -9 ∨ ∃ j, j < nU M ∧ df M k b = nI j :=
  itr_inv _ (fun d => d = -9 ∨ ∃ j, j < nU M ∧ d = nI j) _ _ _ (fun j s h1 h2 h => duS_rng (by omega) h) (Or.inl rfl)
def pre_X6_dueFor (as : List mV) (M : mM) : Prop := ∃ g k b, as = [.inr (.inr (6, g)), .inr (.inr (8, k)), .inl b] ∧ PL M
def fn_X6_dueFor : List mV → mM → Option mV × mM
  | [.inr (.inr (_, g)), .inr (.inr (_, k)), .inl b], M => (some (.inl (df M k b)), M)
  | _, M => (none, M)
theorem ok_X6_dueFor (as : List mV) (M : mM) (h : pre_X6_dueFor as M) (_ : ∀ v ∈ as, okV v) : okR (fn_X6_dueFor as M).1 := by
  obtain ⟨g, k, b, rfl, -⟩ := h
  first | trivial | exact (by decide +kernel : kof 14 = 8)
theorem len_X6_dueFor (as : List mV) (M : mM) (h : pre_X6_dueFor as M) : (inL as).length ≤ 5 := by
  obtain ⟨g, k, b, rfl, -⟩ := h
  exact Nat.le_of_ble_eq_true rfl

theorem fl_171 : FLk "FairBlocks$Scheduler" 24 6 0 8 := ⟨RX6, TX6, 5, rfl, inX6, by decide, w_171, by decide, rfl⟩
theorem fl_63 : FLk "FairBlocks$Scheduler" 66 5 2 0 := ⟨RX5, TX5, 5, rfl, inX5, by decide, w_63, by decide, rfl⟩
theorem dX6_dueFor_0 : decode cX6_dueFor 0 = .ok (.bipush (-9), 2) := by decide +kernel
theorem dX6_dueFor_2 : decode cX6_dueFor 2 = .ok (.istore_n 3, 1) := by decide +kernel
theorem dX6_dueFor_3 : decode cX6_dueFor 3 = .ok (.iconst 0, 1) := by decide +kernel
theorem dX6_dueFor_4 : decode cX6_dueFor 4 = .ok (.istore 4, 2) := by decide +kernel
theorem dX6_dueFor_6 : decode cX6_dueFor 6 = .ok (.iload 4, 2) := by decide +kernel
theorem dX6_dueFor_8 : decode cX6_dueFor 8 = .ok (.aload_n 0, 1) := by decide +kernel
theorem dX6_dueFor_9 : decode cX6_dueFor 9 = .ok (.getfield 24, 3) := by decide +kernel
theorem dX6_dueFor_12 : decode cX6_dueFor 12 = .ok (.getfield 66, 3) := by decide +kernel
theorem dX6_dueFor_15 : decode cX6_dueFor 15 = .ok (.if_icmp .ge 46, 3) := by decide +kernel
theorem dX6_dueFor_18 : decode cX6_dueFor 18 = .ok (.aload_n 0, 1) := by decide +kernel
theorem dX6_dueFor_19 : decode cX6_dueFor 19 = .ok (.aload_n 1, 1) := by decide +kernel
theorem dX6_dueFor_20 : decode cX6_dueFor 20 = .ok (.getfield 46, 3) := by decide +kernel
theorem dX6_dueFor_23 : decode cX6_dueFor 23 = .ok (.iload 4, 2) := by decide +kernel
theorem dX6_dueFor_25 : decode cX6_dueFor 25 = .ok (.aaload, 1) := by decide +kernel
theorem dX6_dueFor_26 : decode cX6_dueFor 26 = .ok (.iload 4, 2) := by decide +kernel
theorem dX6_dueFor_28 : decode cX6_dueFor 28 = .ok (.iload_n 2, 1) := by decide +kernel
theorem dX6_dueFor_29 : decode cX6_dueFor 29 = .ok (.invokevirtual 99, 3) := by decide +kernel
theorem dX6_dueFor_32 : decode cX6_dueFor 32 = .ok (.ifCond .eq 23, 3) := by decide +kernel
theorem dX6_dueFor_35 : decode cX6_dueFor 35 = .ok (.iload_n 3, 1) := by decide +kernel
theorem dX6_dueFor_36 : decode cX6_dueFor 36 = .ok (.bipush (-9), 2) := by decide +kernel
theorem dX6_dueFor_38 : decode cX6_dueFor 38 = .ok (.if_icmp .eq 14, 3) := by decide +kernel
theorem dX6_dueFor_41 : decode cX6_dueFor 41 = .ok (.aload_n 0, 1) := by decide +kernel
theorem dX6_dueFor_42 : decode cX6_dueFor 42 = .ok (.aload_n 1, 1) := by decide +kernel
theorem dX6_dueFor_43 : decode cX6_dueFor 43 = .ok (.iload 4, 2) := by decide +kernel
theorem dX6_dueFor_45 : decode cX6_dueFor 45 = .ok (.iload_n 3, 1) := by decide +kernel
theorem dX6_dueFor_46 : decode cX6_dueFor 46 = .ok (.invokevirtual 103, 3) := by decide +kernel
theorem dX6_dueFor_49 : decode cX6_dueFor 49 = .ok (.ifCond .eq 6, 3) := by decide +kernel
theorem dX6_dueFor_52 : decode cX6_dueFor 52 = .ok (.iload 4, 2) := by decide +kernel
theorem dX6_dueFor_54 : decode cX6_dueFor 54 = .ok (.istore_n 3, 1) := by decide +kernel
theorem dX6_dueFor_55 : decode cX6_dueFor 55 = .ok (.iinc 4 1, 3) := by decide +kernel
theorem dX6_dueFor_58 : decode cX6_dueFor 58 = .ok (.goto (-52), 3) := by decide +kernel
theorem dX6_dueFor_61 : decode cX6_dueFor 61 = .ok (.iload_n 3, 1) := by decide +kernel
theorem dX6_dueFor_62 : decode cX6_dueFor 62 = .ok (.ireturn, 1) := by decide +kernel
theorem mk_X6_dueFor : MVk yX6_dueFor "FairBlocks$Scheduler" cX6_dueFor 5 (Option.some FieldType.int) 2 := ⟨w_445, w_444, wp_2, w_7, rfl, by decide +kernel, by decide +kernel, by decide +kernel⟩
def BX6_dueFor_0 (G : Nat → KT) (Q : Option mV → mM → Prop) : KT := (s_iconst (-9) (s_istore 3 (s_iconst (0) (s_istore 4 (s_at G 6 [true, true, true, true, true])))))
set_option maxRecDepth 4000 in
theorem bsX6_dueFor_0 {p : Program} {l : Launch} {e : Env} {s : State} {m : MethodId} {args : Array Value} {below : List Frame} {meth : Method} {c : Code} {D : va_G} {ca : Nat → ClassId} {ad : Nat → Nat} {A : Nat → Prop} {Q : Option mV → mM → Prop} (hX : CX p s m args meth c 5 cX6_dueFor "FairBlocks$Scheduler" D ca ad A) (hr : meth.sig.returnType = (Option.some FieldType.int)) : ∀ lv st M, BX6_dueFor_0 (Gd p l e (rmD 1) s m args below meth c 5 D ca ad A 0 0 (MQ below (QC D ca ad A Q) args s 0 0 A)) Q lv st M → Gd p l e (rmD 1) s m args below meth c 5 D ca ad A 0 0 (MQ below (QC D ca ad A Q) args s 0 0 A) 0 lv st M :=
  (sd_bipush hX dX6_dueFor_0 rfl (sd_istore_n hX (by decide) dX6_dueFor_2 rfl (sd_iconst hX dX6_dueFor_3 rfl (sd_istore hX (by decide) dX6_dueFor_4 sd_at))))
def BX6_dueFor_6 (G : Nat → KT) (Q : Option mV → mM → Prop) : KT := (s_iload 4 (s_aload 0 (s_getr 6 5 (fun _ => 4) (s_geti 5 2 (s_icmp (fun x y => y ≤ x) (s_at G 61 [false, false, false, true, false]) (s_aload 0 (s_aload 1 (s_getr 8 16 (fun k => k + 1) (s_iload 4 (s_aaldU (s_iload 4 (s_iload 2 (s_callV 6 3 pre_X6_mayHave fn_X6_mayHave (s_if (fun x => x = 0) (s_at G 55 [true, true, true, true, true]) (s_iload 3 (s_iconst (-9) (s_icmp (fun x y => x = y) (s_at G 52 [true, true, true, false, true]) (s_aload 0 (s_aload 1 (s_iload 4 (s_iload 3 (s_callV 6 3 pre_X6_isBefore fn_X6_isBefore (s_if (fun x => x = 0) (s_at G 55 [true, true, true, true, true]) (s_at G 52 [true, true, true, false, true]))))))))))))))))))))))))
set_option maxRecDepth 4000 in
theorem bsX6_dueFor_6 {p : Program} {l : Launch} {e : Env} {s : State} {m : MethodId} {args : Array Value} {below : List Frame} {meth : Method} {c : Code} {D : va_G} {ca : Nat → ClassId} {ad : Nat → Nat} {A : Nat → Prop} {Q : Option mV → mM → Prop} (hX : CX p s m args meth c 5 cX6_dueFor "FairBlocks$Scheduler" D ca ad A) (hr : meth.sig.returnType = (Option.some FieldType.int)) : ∀ lv st M, BX6_dueFor_6 (Gd p l e (rmD 1) s m args below meth c 5 D ca ad A 0 0 (MQ below (QC D ca ad A Q) args s 0 0 A)) Q lv st M → Gd p l e (rmD 1) s m args below meth c 5 D ca ad A 0 0 (MQ below (QC D ca ad A Q) args s 0 0 A) 6 lv st M :=
  (sd_iload hX dX6_dueFor_6 (sd_aload_n hX dX6_dueFor_8 rfl (sd_getr hX fl_171 (fun _ => rfl) (fun _ _ _ => by decide +kernel) dX6_dueFor_9 (sd_geti hX fl_63 (by decide) dX6_dueFor_12 (sd_icmp_ge hX dX6_dueFor_15 (by decide) sd_at (sd_aload_n hX dX6_dueFor_18 rfl (sd_aload_n hX dX6_dueFor_19 rfl (sd_getr hX fl_146 (fun _ => rfl) okA dX6_dueFor_20 (sd_iload hX dX6_dueFor_23 (sd_aaldU hX dX6_dueFor_25 (sd_iload hX dX6_dueFor_26 (sd_iload_n hX dX6_dueFor_28 rfl (sd_callV hX (kd := 6) rfl (by decide) (ct_X6_mayHave l) mk_X6_mayHave w_446 ⟨⟨by decide, by decide⟩, by decide, by decide⟩ dX6_dueFor_29 (sd_if_eq hX dX6_dueFor_32 (by decide) sd_at (sd_iload_n hX dX6_dueFor_35 rfl (sd_bipush hX dX6_dueFor_36 rfl (sd_icmp_eq hX dX6_dueFor_38 (by decide) sd_at (sd_aload_n hX dX6_dueFor_41 rfl (sd_aload_n hX dX6_dueFor_42 rfl (sd_iload hX dX6_dueFor_43 (sd_iload_n hX dX6_dueFor_45 rfl (sd_callV hX (kd := 6) rfl (by decide) (ct_X6_isBefore l) mk_X6_isBefore w_450 ⟨⟨by decide, by decide⟩, by decide, by decide⟩ dX6_dueFor_46 (sd_if_eq hX dX6_dueFor_49 (by decide) sd_at sd_at)))))))))))))))))))))))
def BX6_dueFor_52 (G : Nat → KT) (Q : Option mV → mM → Prop) : KT := (s_iload 4 (s_istore 3 (s_at G 55 [true, true, true, true, true])))
set_option maxRecDepth 4000 in
theorem bsX6_dueFor_52 {p : Program} {l : Launch} {e : Env} {s : State} {m : MethodId} {args : Array Value} {below : List Frame} {meth : Method} {c : Code} {D : va_G} {ca : Nat → ClassId} {ad : Nat → Nat} {A : Nat → Prop} {Q : Option mV → mM → Prop} (hX : CX p s m args meth c 5 cX6_dueFor "FairBlocks$Scheduler" D ca ad A) (hr : meth.sig.returnType = (Option.some FieldType.int)) : ∀ lv st M, BX6_dueFor_52 (Gd p l e (rmD 1) s m args below meth c 5 D ca ad A 0 0 (MQ below (QC D ca ad A Q) args s 0 0 A)) Q lv st M → Gd p l e (rmD 1) s m args below meth c 5 D ca ad A 0 0 (MQ below (QC D ca ad A Q) args s 0 0 A) 52 lv st M :=
  (sd_iload hX dX6_dueFor_52 (sd_istore_n hX (by decide) dX6_dueFor_54 rfl sd_at))
def BX6_dueFor_55 (G : Nat → KT) (Q : Option mV → mM → Prop) : KT := (s_iinc 4 (1) (s_at G 6 [true, true, true, true, true]))
set_option maxRecDepth 4000 in
theorem bsX6_dueFor_55 {p : Program} {l : Launch} {e : Env} {s : State} {m : MethodId} {args : Array Value} {below : List Frame} {meth : Method} {c : Code} {D : va_G} {ca : Nat → ClassId} {ad : Nat → Nat} {A : Nat → Prop} {Q : Option mV → mM → Prop} (hX : CX p s m args meth c 5 cX6_dueFor "FairBlocks$Scheduler" D ca ad A) (hr : meth.sig.returnType = (Option.some FieldType.int)) : ∀ lv st M, BX6_dueFor_55 (Gd p l e (rmD 1) s m args below meth c 5 D ca ad A 0 0 (MQ below (QC D ca ad A Q) args s 0 0 A)) Q lv st M → Gd p l e (rmD 1) s m args below meth c 5 D ca ad A 0 0 (MQ below (QC D ca ad A Q) args s 0 0 A) 55 lv st M :=
  (sd_iinc hX (by decide) dX6_dueFor_55 rfl (sd_goto hX dX6_dueFor_58 (by decide) sd_at))
def BX6_dueFor_61 (G : Nat → KT) (Q : Option mV → mM → Prop) : KT := (s_iload 3 (s_iret Q))
set_option maxRecDepth 4000 in
theorem bsX6_dueFor_61 {p : Program} {l : Launch} {e : Env} {s : State} {m : MethodId} {args : Array Value} {below : List Frame} {meth : Method} {c : Code} {D : va_G} {ca : Nat → ClassId} {ad : Nat → Nat} {A : Nat → Prop} {Q : Option mV → mM → Prop} (hX : CX p s m args meth c 5 cX6_dueFor "FairBlocks$Scheduler" D ca ad A) (hr : meth.sig.returnType = (Option.some FieldType.int)) : ∀ lv st M, BX6_dueFor_61 (Gd p l e (rmD 1) s m args below meth c 5 D ca ad A 0 0 (MQ below (QC D ca ad A Q) args s 0 0 A)) Q lv st M → Gd p l e (rmD 1) s m args below meth c 5 D ca ad A 0 0 (MQ below (QC D ca ad A Q) args s 0 0 A) 61 lv st M :=
  (sd_iload_n hX dX6_dueFor_61 rfl (sd_iret hX hr dX6_dueFor_62))
set_option maxHeartbeats 400000 in
theorem pf_X6_dueFor (G : Nat → KT) (Q : Option mV → mM → Prop) (h0 : ∀ lv st M, BX6_dueFor_0 G Q lv st M → G 0 lv st M) (h6 : ∀ lv st M, BX6_dueFor_6 G Q lv st M → G 6 lv st M) (h52 : ∀ lv st M, BX6_dueFor_52 G Q lv st M → G 52 lv st M) (h55 : ∀ lv st M, BX6_dueFor_55 G Q lv st M → G 55 lv st M) (h61 : ∀ lv st M, BX6_dueFor_61 G Q lv st M → G 61 lv st M) (as : List mV) (M : mM) (ho : ∀ v ∈ as, okV v) (hp : pre_X6_dueFor as M) (hQ : Q (fn_X6_dueFor as M).1 (fn_X6_dueFor as M).2) : G 0 (inL as ++ List.replicate (5 - (inL as).length) none) [] M := by
  obtain ⟨g, k, b, rfl, ⟨N, hN, eN⟩, -⟩ := hp
  have hk : kof k = 8 := ho (.inr (.inr (8, k))) (by simp)
  have hl := lnU hk
  have en : nU M = N := by unfold nU; rw [eN]; exact nI_clamp (by omega)
  simp only [fn_X6_dueFor, df, en] at hQ
  have loop : ∀ (n i : Nat) (d : Int32), i + n = N → (d = -9 ∨ ∃ j, j < N ∧ d = nI j) → Q (some (.inl (itr (duS M k b) i n d))) M → G 6 [some (.inr (.inr (6, g))), some (.inr (.inr (8, k))), some (.inl b), some (.inl d), some (.inl (nI i))] [] M := by
    intro n
    induction n with
    | zero =>
      intro i d hi hd hq
      obtain rfl : i = N := by omega
      (apply h6; simp only [BX6_dueFor_6, s_mth, s_mab, s_at, s_iconst, s_lconst, s_iload, s_lload, s_aload, s_istore, s_lstore, s_astore, s_iinc, s_bin, s_binG, s_un, s_lbin, s_lbinG, s_lsh, s_lcmp, s_i2l, s_l2i, s_dup, s_dup2, s_pop, s_if, s_icmp, s_geti, s_getl, s_getr, s_puti, s_putz, s_putl, s_iald, s_zald, s_iast, s_zast, s_aaldS, s_aaldU, s_gets, s_tald, s_tsw, tsw, s_iret, s_zret, s_lret, s_aret, s_vret, s_callV, s_callS, c1, nl1, keepL, csum, pushR, inL, List.getD_cons_zero, List.getD_cons_succ, List.set_cons_zero, List.set_cons_succ, List.cons_append, List.nil_append, List.append_nil, List.replicate, List.length_cons, List.length_nil, List.take_succ_cons, List.take_zero, List.drop_succ_cons, List.drop_zero, List.reverse_cons, List.reverse_nil, true_and, and_true, forall_const, not_true_eq_false, not_false_eq_true, false_implies, true_implies, implies_true, one0, m10, Nat.reduceAdd, Nat.reduceSub, Nat.reduceLeDiff, Nat.zero_add, Nat.add_zero, fn_X6_isBefore, fn_X6_mayHave])
      rw [eN]
      refine ⟨fun _ => ?_, fun h => absurd (nI_le (Nat.le_refl i) (by omega)) h⟩
      (apply h61; simp only [BX6_dueFor_61, s_mth, s_mab, s_at, s_iconst, s_lconst, s_iload, s_lload, s_aload, s_istore, s_lstore, s_astore, s_iinc, s_bin, s_binG, s_un, s_lbin, s_lbinG, s_lsh, s_lcmp, s_i2l, s_l2i, s_dup, s_dup2, s_pop, s_if, s_icmp, s_geti, s_getl, s_getr, s_puti, s_putz, s_putl, s_iald, s_zald, s_iast, s_zast, s_aaldS, s_aaldU, s_gets, s_tald, s_tsw, tsw, s_iret, s_zret, s_lret, s_aret, s_vret, s_callV, s_callS, c1, nl1, keepL, csum, pushR, inL, List.getD_cons_zero, List.getD_cons_succ, List.set_cons_zero, List.set_cons_succ, List.cons_append, List.nil_append, List.append_nil, List.replicate, List.length_cons, List.length_nil, List.take_succ_cons, List.take_zero, List.drop_succ_cons, List.drop_zero, List.reverse_cons, List.reverse_nil, true_and, and_true, forall_const, not_true_eq_false, not_false_eq_true, false_implies, true_implies, implies_true, one0, m10, Nat.reduceAdd, Nat.reduceSub, Nat.reduceLeDiff, Nat.zero_add, Nat.add_zero, fn_X6_isBefore, fn_X6_mayHave])
      exact hq
    | succ n ih =>
      intro i d hi hd hq
      have ei : (nI i).toNatClampNeg = i := nI_clamp (by omega)
      have step : ∀ d2, d2 = duS M k b i d → G 55 [some (.inr (.inr (6, g))), some (.inr (.inr (8, k))), some (.inl b), some (.inl d2), some (.inl (nI i))] [] M := by
        intro d2 e
        (apply h55; simp only [BX6_dueFor_55, s_mth, s_mab, s_at, s_iconst, s_lconst, s_iload, s_lload, s_aload, s_istore, s_lstore, s_astore, s_iinc, s_bin, s_binG, s_un, s_lbin, s_lbinG, s_lsh, s_lcmp, s_i2l, s_l2i, s_dup, s_dup2, s_pop, s_if, s_icmp, s_geti, s_getl, s_getr, s_puti, s_putz, s_putl, s_iald, s_zald, s_iast, s_zast, s_aaldS, s_aaldU, s_gets, s_tald, s_tsw, tsw, s_iret, s_zret, s_lret, s_aret, s_vret, s_callV, s_callS, c1, nl1, keepL, csum, pushR, inL, List.getD_cons_zero, List.getD_cons_succ, List.set_cons_zero, List.set_cons_succ, List.cons_append, List.nil_append, List.append_nil, List.replicate, List.length_cons, List.length_nil, List.take_succ_cons, List.take_zero, List.drop_succ_cons, List.drop_zero, List.reverse_cons, List.reverse_nil, true_and, and_true, forall_const, not_true_eq_false, not_false_eq_true, false_implies, true_implies, implies_true, one0, m10, Nat.reduceAdd, Nat.reduceSub, Nat.reduceLeDiff, Nat.zero_add, Nat.add_zero, fn_X6_isBefore, fn_X6_mayHave])
        rw [nI_1]
        refine ih (i + 1) d2 (by omega) (by rw [e]; exact duS_rng (by omega) hd) ?_
        rw [e]
        exact hq
      (apply h6; simp only [BX6_dueFor_6, s_mth, s_mab, s_at, s_iconst, s_lconst, s_iload, s_lload, s_aload, s_istore, s_lstore, s_astore, s_iinc, s_bin, s_binG, s_un, s_lbin, s_lbinG, s_lsh, s_lcmp, s_i2l, s_l2i, s_dup, s_dup2, s_pop, s_if, s_icmp, s_geti, s_getl, s_getr, s_puti, s_putz, s_putl, s_iald, s_zald, s_iast, s_zast, s_aaldS, s_aaldU, s_gets, s_tald, s_tsw, tsw, s_iret, s_zret, s_lret, s_aret, s_vret, s_callV, s_callS, c1, nl1, keepL, csum, pushR, inL, List.getD_cons_zero, List.getD_cons_succ, List.set_cons_zero, List.set_cons_succ, List.cons_append, List.nil_append, List.append_nil, List.replicate, List.length_cons, List.length_nil, List.take_succ_cons, List.take_zero, List.drop_succ_cons, List.drop_zero, List.reverse_cons, List.reverse_nil, true_and, and_true, forall_const, not_true_eq_false, not_false_eq_true, false_implies, true_implies, implies_true, one0, m10, Nat.reduceAdd, Nat.reduceSub, Nat.reduceLeDiff, Nat.zero_add, Nat.add_zero, fn_X6_isBefore, fn_X6_mayHave])
      simp only [eN, hl, ei]
      refine ⟨fun h => absurd h (nI_ge (by omega) (by omega)), fun _ => ⟨vp_in_nI (by omega) (by decide), ⟨_, _, _, _, rfl, i, by omega, rfl⟩, fun h => ?_, fun h => ⟨fun h2 => ?_, fun h2 => ?_⟩⟩⟩
      · exact step d (by rw [duS, if_pos h])
      · (apply h52; simp only [BX6_dueFor_52, s_mth, s_mab, s_at, s_iconst, s_lconst, s_iload, s_lload, s_aload, s_istore, s_lstore, s_astore, s_iinc, s_bin, s_binG, s_un, s_lbin, s_lbinG, s_lsh, s_lcmp, s_i2l, s_l2i, s_dup, s_dup2, s_pop, s_if, s_icmp, s_geti, s_getl, s_getr, s_puti, s_putz, s_putl, s_iald, s_zald, s_iast, s_zast, s_aaldS, s_aaldU, s_gets, s_tald, s_tsw, tsw, s_iret, s_zret, s_lret, s_aret, s_vret, s_callV, s_callS, c1, nl1, keepL, csum, pushR, inL, List.getD_cons_zero, List.getD_cons_succ, List.set_cons_zero, List.set_cons_succ, List.cons_append, List.nil_append, List.append_nil, List.replicate, List.length_cons, List.length_nil, List.take_succ_cons, List.take_zero, List.drop_succ_cons, List.drop_zero, List.reverse_cons, List.reverse_nil, true_and, and_true, forall_const, not_true_eq_false, not_false_eq_true, false_implies, true_implies, implies_true, one0, m10, Nat.reduceAdd, Nat.reduceSub, Nat.reduceLeDiff, Nat.zero_add, Nat.add_zero, fn_X6_isBefore, fn_X6_mayHave])
        exact step (nI i) (by rw [duS, if_neg h, if_pos h2])
      · have hd2 : ∃ j, j < N ∧ d = nI j := by
          rcases hd with e | e
          · exact absurd e h2
          · exact e
        obtain ⟨j, hj, e⟩ := hd2
        refine ⟨⟨_, _, _, _, rfl, ⟨i, by omega, rfl⟩, j, by omega, e⟩, fun h3 => ?_, fun h3 => ?_⟩
        · exact step d (by rw [duS, if_neg h, if_neg h2, if_pos h3])
        · (apply h52; simp only [BX6_dueFor_52, s_mth, s_mab, s_at, s_iconst, s_lconst, s_iload, s_lload, s_aload, s_istore, s_lstore, s_astore, s_iinc, s_bin, s_binG, s_un, s_lbin, s_lbinG, s_lsh, s_lcmp, s_i2l, s_l2i, s_dup, s_dup2, s_pop, s_if, s_icmp, s_geti, s_getl, s_getr, s_puti, s_putz, s_putl, s_iald, s_zald, s_iast, s_zast, s_aaldS, s_aaldU, s_gets, s_tald, s_tsw, tsw, s_iret, s_zret, s_lret, s_aret, s_vret, s_callV, s_callS, c1, nl1, keepL, csum, pushR, inL, List.getD_cons_zero, List.getD_cons_succ, List.set_cons_zero, List.set_cons_succ, List.cons_append, List.nil_append, List.append_nil, List.replicate, List.length_cons, List.length_nil, List.take_succ_cons, List.take_zero, List.drop_succ_cons, List.drop_zero, List.reverse_cons, List.reverse_nil, true_and, and_true, forall_const, not_true_eq_false, not_false_eq_true, false_implies, true_implies, implies_true, one0, m10, Nat.reduceAdd, Nat.reduceSub, Nat.reduceLeDiff, Nat.zero_add, Nat.add_zero, fn_X6_isBefore, fn_X6_mayHave])
          exact step (nI i) (by rw [duS, if_neg h, if_neg h2, if_neg h3])
  (apply h0; simp only [BX6_dueFor_0, s_mth, s_mab, s_at, s_iconst, s_lconst, s_iload, s_lload, s_aload, s_istore, s_lstore, s_astore, s_iinc, s_bin, s_binG, s_un, s_lbin, s_lbinG, s_lsh, s_lcmp, s_i2l, s_l2i, s_dup, s_dup2, s_pop, s_if, s_icmp, s_geti, s_getl, s_getr, s_puti, s_putz, s_putl, s_iald, s_zald, s_iast, s_zast, s_aaldS, s_aaldU, s_gets, s_tald, s_tsw, tsw, s_iret, s_zret, s_lret, s_aret, s_vret, s_callV, s_callS, c1, nl1, keepL, csum, pushR, inL, List.getD_cons_zero, List.getD_cons_succ, List.set_cons_zero, List.set_cons_succ, List.cons_append, List.nil_append, List.append_nil, List.replicate, List.length_cons, List.length_nil, List.take_succ_cons, List.take_zero, List.drop_succ_cons, List.drop_zero, List.reverse_cons, List.reverse_nil, true_and, and_true, forall_const, not_true_eq_false, not_false_eq_true, false_implies, true_implies, implies_true, one0, m10, Nat.reduceAdd, Nat.reduceSub, Nat.reduceLeDiff, Nat.zero_add, Nat.add_zero, fn_X6_isBefore, fn_X6_mayHave])
  exact loop N 0 (-9) (by omega) (Or.inl rfl) hQ
theorem ct_X6_dueFor (l : Launch) : Con l yX6_dueFor cX6_dueFor 5 (Option.some FieldType.int) 1 pre_X6_dueFor fn_X6_dueFor := con_of (by decide +kernel) ok_X6_dueFor len_X6_dueFor (fun p e s m args below meth c D ca ad A as M hX hr hp ho => pf_X6_dueFor _ _ (bsX6_dueFor_0 hX hr) (bsX6_dueFor_6 hX hr) (bsX6_dueFor_52 hX hr) (bsX6_dueFor_55 hX hr) (bsX6_dueFor_61 hX hr) as M ho hp ⟨rfl, rfl⟩)
