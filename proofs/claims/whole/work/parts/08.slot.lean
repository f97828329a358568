/-! a slot of the class -/
def tkn (M : mM) (uk : Nat) : mM := mset M uk 4 (if M.1 uk 4 + M.1 uk 0 ≤ 999 then M.1 uk 4 + M.1 uk 0 else 999)
def ciS (k i : Nat) (M : mM) : mM := mset (mset (mset (tkn M (k + 1 + 1 + i)) 22 i (rt (tkn M (k + 1 + 1 + i)) (nI i) ((tkn M (k + 1 + 1 + i)).1 k 2))) 23 i (-1)) 24 i 0
theorem nU_mset {M : mM} {k j : Nat} {v : Int32} (h4 : k ≠ 4) : nU (mset M k j v) = nU M := by unfold nU; rw [mset_n (Ne.symm h4)]
theorem PL_tkn {M : mM} {uk : Nat} (h : PL M) (hk : kof uk = 10) : PL (tkn M uk) := PL_mset h (kne (by rw [hk]; decide +kernel)) (kne (by rw [hk]; decide +kernel))
theorem PL_ciS {M : mM} {k i : Nat} (h : PL M) (hk : kof k = 8) (hi : i < 5) : PL (ciS k i M) :=
  PL_mset (PL_mset (PL_mset (PL_tkn h (kU hk hi)) (by decide) (by decide)) (by decide) (by decide)) (by decide) (by decide)
theorem p4_ciS {M : mM} {k i : Nat} (hk : kof k = 8) (hi : i < 5) : (ciS k i M).1 4 = M.1 4 := by
  unfold ciS tkn
  rw [mset_n (by decide), mset_n (by decide), mset_n (by decide), mset_n (kne (by rw [kU hk hi]; decide +kernel))]
def comeIn (M : mM) (k : Nat) : mM := itr (ciS k) 0 (nU M) M
def pre_X6_comeIn (as : List mV) (M : mM) : Prop := ∃ g k, as = [.inr (.inr (6, g)), .inr (.inr (8, k))] ∧ PL M
def fn_X6_comeIn : List mV → mM → Option mV × mM
  | [.inr (.inr (_, g)), .inr (.inr (_, k))], M => (none, comeIn M k)
  | _, M => (none, M)
theorem ok_X6_comeIn (as : List mV) (M : mM) (h : pre_X6_comeIn as M) (_ : ∀ v ∈ as, okV v) : okR (fn_X6_comeIn as M).1 := by
  obtain ⟨g, k, rfl, -⟩ := h
  first | trivial | exact (by decide +kernel : kof 14 = 8)
theorem len_X6_comeIn (as : List mV) (M : mM) (h : pre_X6_comeIn as M) : (inL as).length ≤ 4 := by
  obtain ⟨g, k, rfl, -⟩ := h
  exact Nat.le_of_ble_eq_true rfl

theorem fl_155 : FLk "FairBlocks$Scheduler" 75 8 2 0 := ⟨RX8, TX8, 3, rfl, inX8, by decide, w_155, by decide, rfl⟩
theorem fl_174 : FLk "FairBlocks$Scheduler" 18 6 3 16 := ⟨RX6, TX6, 5, rfl, inX6, by decide, w_174, by decide, rfl⟩
theorem fl_94 : FLk "FairBlocks$Scheduler" 68 10 0 0 := ⟨RX10, TX10, 10, rfl, inX10, by decide, w_94, by decide, rfl⟩
theorem dX6_comeIn_0 : decode cX6_comeIn 0 = .ok (.iconst 0, 1) := by decide +kernel
theorem dX6_comeIn_1 : decode cX6_comeIn 1 = .ok (.istore_n 2, 1) := by decide +kernel
theorem dX6_comeIn_2 : decode cX6_comeIn 2 = .ok (.iload_n 2, 1) := by decide +kernel
theorem dX6_comeIn_3 : decode cX6_comeIn 3 = .ok (.aload_n 0, 1) := by decide +kernel
theorem dX6_comeIn_4 : decode cX6_comeIn 4 = .ok (.getfield 24, 3) := by decide +kernel
theorem dX6_comeIn_7 : decode cX6_comeIn 7 = .ok (.getfield 66, 3) := by decide +kernel
theorem dX6_comeIn_10 : decode cX6_comeIn 10 = .ok (.if_icmp .ge 56, 3) := by decide +kernel
theorem dX6_comeIn_13 : decode cX6_comeIn 13 = .ok (.aload_n 1, 1) := by decide +kernel
theorem dX6_comeIn_14 : decode cX6_comeIn 14 = .ok (.getfield 46, 3) := by decide +kernel
theorem dX6_comeIn_17 : decode cX6_comeIn 17 = .ok (.iload_n 2, 1) := by decide +kernel
theorem dX6_comeIn_18 : decode cX6_comeIn 18 = .ok (.aaload, 1) := by decide +kernel
theorem dX6_comeIn_19 : decode cX6_comeIn 19 = .ok (.astore_n 3, 1) := by decide +kernel
theorem dX6_comeIn_20 : decode cX6_comeIn 20 = .ok (.aload_n 3, 1) := by decide +kernel
theorem dX6_comeIn_21 : decode cX6_comeIn 21 = .ok (.aload_n 3, 1) := by decide +kernel
theorem dX6_comeIn_22 : decode cX6_comeIn 22 = .ok (.getfield 68, 3) := by decide +kernel
theorem dX6_comeIn_25 : decode cX6_comeIn 25 = .ok (.invokevirtual 71, 3) := by decide +kernel
theorem dX6_comeIn_28 : decode cX6_comeIn 28 = .ok (.aload_n 0, 1) := by decide +kernel
theorem dX6_comeIn_29 : decode cX6_comeIn 29 = .ok (.getfield 9, 3) := by decide +kernel
theorem dX6_comeIn_32 : decode cX6_comeIn 32 = .ok (.iload_n 2, 1) := by decide +kernel
theorem dX6_comeIn_33 : decode cX6_comeIn 33 = .ok (.aload_n 0, 1) := by decide +kernel
theorem dX6_comeIn_34 : decode cX6_comeIn 34 = .ok (.getfield 24, 3) := by decide +kernel
theorem dX6_comeIn_37 : decode cX6_comeIn 37 = .ok (.iload_n 2, 1) := by decide +kernel
theorem dX6_comeIn_38 : decode cX6_comeIn 38 = .ok (.aload_n 1, 1) := by decide +kernel
theorem dX6_comeIn_39 : decode cX6_comeIn 39 = .ok (.getfield 75, 3) := by decide +kernel
theorem dX6_comeIn_42 : decode cX6_comeIn 42 = .ok (.invokevirtual 78, 3) := by decide +kernel
theorem dX6_comeIn_45 : decode cX6_comeIn 45 = .ok (.iastore, 1) := by decide +kernel
theorem dX6_comeIn_46 : decode cX6_comeIn 46 = .ok (.aload_n 0, 1) := by decide +kernel
theorem dX6_comeIn_47 : decode cX6_comeIn 47 = .ok (.getfield 15, 3) := by decide +kernel
theorem dX6_comeIn_50 : decode cX6_comeIn 50 = .ok (.iload_n 2, 1) := by decide +kernel
theorem dX6_comeIn_51 : decode cX6_comeIn 51 = .ok (.iconst (-1), 1) := by decide +kernel
theorem dX6_comeIn_52 : decode cX6_comeIn 52 = .ok (.iastore, 1) := by decide +kernel
theorem dX6_comeIn_53 : decode cX6_comeIn 53 = .ok (.aload_n 0, 1) := by decide +kernel
theorem dX6_comeIn_54 : decode cX6_comeIn 54 = .ok (.getfield 18, 3) := by decide +kernel
theorem dX6_comeIn_57 : decode cX6_comeIn 57 = .ok (.iload_n 2, 1) := by decide +kernel
theorem dX6_comeIn_58 : decode cX6_comeIn 58 = .ok (.iconst 0, 1) := by decide +kernel
theorem dX6_comeIn_59 : decode cX6_comeIn 59 = .ok (.iastore, 1) := by decide +kernel
theorem dX6_comeIn_60 : decode cX6_comeIn 60 = .ok (.iinc 2 1, 3) := by decide +kernel
theorem dX6_comeIn_63 : decode cX6_comeIn 63 = .ok (.goto (-61), 3) := by decide +kernel
theorem dX6_comeIn_66 : decode cX6_comeIn 66 = .ok (.return_, 1) := by decide +kernel
theorem mk_X6_comeIn : MVk yX6_comeIn "FairBlocks$Scheduler" cX6_comeIn 4 (Option.none : Option FieldType) 1 := ⟨w_436, w_435, wp_1, w_7, rfl, by decide +kernel, by decide +kernel, by decide +kernel⟩
def BX6_comeIn_0 (G : Nat → KT) (Q : Option mV → mM → Prop) : KT := (s_iconst (0) (s_istore 2 (s_at G 2 [true, true, true, false])))
set_option maxRecDepth 4000 in
theorem bsX6_comeIn_0 {p : Program} {l : Launch} {e : Env} {s : State} {m : MethodId} {args : Array Value} {below : List Frame} {meth : Method} {c : Code} {D : va_G} {ca : Nat → ClassId} {ad : Nat → Nat} {A : Nat → Prop} {Q : Option mV → mM → Prop} (hX : CX p s m args meth c 4 cX6_comeIn "FairBlocks$Scheduler" D ca ad A) (hr : meth.sig.returnType = (Option.none : Option FieldType)) : ∀ lv st M, BX6_comeIn_0 (Gd p l e (rmD 1) s m args below meth c 4 D ca ad A 0 0 (MQ below (QC D ca ad A Q) args s 0 0 A)) Q lv st M → Gd p l e (rmD 1) s m args below meth c 4 D ca ad A 0 0 (MQ below (QC D ca ad A Q) args s 0 0 A) 0 lv st M :=
  (sd_iconst hX dX6_comeIn_0 rfl (sd_istore_n hX (by decide) dX6_comeIn_1 rfl sd_at))
def BX6_comeIn_2 (G : Nat → KT) (Q : Option mV → mM → Prop) : KT := (s_iload 2 (s_aload 0 (s_getr 6 5 (fun _ => 4) (s_geti 5 2 (s_icmp (fun x y => y ≤ x) (s_at G 66 [false, false, false, false]) (s_aload 1 (s_getr 8 16 (fun k => k + 1) (s_iload 2 (s_aaldU (s_astore 3 (s_aload 3 (s_aload 3 (s_geti 10 0 (s_callV 10 1 pre_X10_takeIn fn_X10_takeIn (s_aload 0 (s_getr 6 13 (fun _ => 22) (s_iload 2 (s_aload 0 (s_getr 6 5 (fun _ => 4) (s_iload 2 (s_aload 1 (s_geti 8 2 (s_callV 5 2 pre_X5_rateOf fn_X5_rateOf (s_iast (s_aload 0 (s_getr 6 13 (fun _ => 23) (s_iload 2 (s_iconst (-1) (s_iast (s_aload 0 (s_getr 6 13 (fun _ => 24) (s_iload 2 (s_iconst (0) (s_iast (s_iinc 2 (1) (s_at G 2 [true, true, true, false]))))))))))))))))))))))))))))))))))))
set_option maxRecDepth 4000 in
theorem bsX6_comeIn_2 {p : Program} {l : Launch} {e : Env} {s : State} {m : MethodId} {args : Array Value} {below : List Frame} {meth : Method} {c : Code} {D : va_G} {ca : Nat → ClassId} {ad : Nat → Nat} {A : Nat → Prop} {Q : Option mV → mM → Prop} (hX : CX p s m args meth c 4 cX6_comeIn "FairBlocks$Scheduler" D ca ad A) (hr : meth.sig.returnType = (Option.none : Option FieldType)) : ∀ lv st M, BX6_comeIn_2 (Gd p l e (rmD 1) s m args below meth c 4 D ca ad A 0 0 (MQ below (QC D ca ad A Q) args s 0 0 A)) Q lv st M → Gd p l e (rmD 1) s m args below meth c 4 D ca ad A 0 0 (MQ below (QC D ca ad A Q) args s 0 0 A) 2 lv st M :=
  (sd_iload_n hX dX6_comeIn_2 rfl (sd_aload_n hX dX6_comeIn_3 rfl (sd_getr hX fl_171 (fun _ => rfl) (fun _ _ _ => by decide +kernel) dX6_comeIn_4 (sd_geti hX fl_63 (by decide) dX6_comeIn_7 (sd_icmp_ge hX dX6_comeIn_10 (by decide) sd_at (sd_aload_n hX dX6_comeIn_13 rfl (sd_getr hX fl_146 (fun _ => rfl) okA dX6_comeIn_14 (sd_iload_n hX dX6_comeIn_17 rfl (sd_aaldU hX dX6_comeIn_18 (sd_astore_n hX (by decide) dX6_comeIn_19 rfl (sd_aload_n hX dX6_comeIn_20 rfl (sd_aload_n hX dX6_comeIn_21 rfl (sd_geti hX fl_94 (by decide) dX6_comeIn_22 (sd_callV hX (kd := 10) rfl (by decide) (ct_X10_takeIn l) mk_X10_takeIn w_437 ⟨⟨by decide, by decide⟩, by decide, by decide⟩ dX6_comeIn_25 (sd_aload_n hX dX6_comeIn_28 rfl (sd_getr hX fl_172 (fun _ => rfl) (fun _ _ _ => by decide +kernel) dX6_comeIn_29 (sd_iload_n hX dX6_comeIn_32 rfl (sd_aload_n hX dX6_comeIn_33 rfl (sd_getr hX fl_171 (fun _ => rfl) (fun _ _ _ => by decide +kernel) dX6_comeIn_34 (sd_iload_n hX dX6_comeIn_37 rfl (sd_aload_n hX dX6_comeIn_38 rfl (sd_geti hX fl_155 (by decide) dX6_comeIn_39 (sd_callV hX (kd := 5) rfl (by decide) (ct_X5_rateOf l) mk_X5_rateOf w_441 ⟨⟨by decide, by decide⟩, by decide, by decide⟩ dX6_comeIn_42 (sd_iast hX dX6_comeIn_45 (sd_aload_n hX dX6_comeIn_46 rfl (sd_getr hX fl_173 (fun _ => rfl) (fun _ _ _ => by decide +kernel) dX6_comeIn_47 (sd_iload_n hX dX6_comeIn_50 rfl (sd_iconst hX dX6_comeIn_51 rfl (sd_iast hX dX6_comeIn_52 (sd_aload_n hX dX6_comeIn_53 rfl (sd_getr hX fl_174 (fun _ => rfl) (fun _ _ _ => by decide +kernel) dX6_comeIn_54 (sd_iload_n hX dX6_comeIn_57 rfl (sd_iconst hX dX6_comeIn_58 rfl (sd_iast hX dX6_comeIn_59 (sd_iinc hX (by decide) dX6_comeIn_60 rfl (sd_goto hX dX6_comeIn_63 (by decide) sd_at))))))))))))))))))))))))))))))))))))
def BX6_comeIn_66 (G : Nat → KT) (Q : Option mV → mM → Prop) : KT := (s_vret Q)
set_option maxRecDepth 4000 in
theorem bsX6_comeIn_66 {p : Program} {l : Launch} {e : Env} {s : State} {m : MethodId} {args : Array Value} {below : List Frame} {meth : Method} {c : Code} {D : va_G} {ca : Nat → ClassId} {ad : Nat → Nat} {A : Nat → Prop} {Q : Option mV → mM → Prop} (hX : CX p s m args meth c 4 cX6_comeIn "FairBlocks$Scheduler" D ca ad A) (hr : meth.sig.returnType = (Option.none : Option FieldType)) : ∀ lv st M, BX6_comeIn_66 (Gd p l e (rmD 1) s m args below meth c 4 D ca ad A 0 0 (MQ below (QC D ca ad A Q) args s 0 0 A)) Q lv st M → Gd p l e (rmD 1) s m args below meth c 4 D ca ad A 0 0 (MQ below (QC D ca ad A Q) args s 0 0 A) 66 lv st M :=
  sd_vret hX hr dX6_comeIn_66
set_option maxHeartbeats 400000 in
theorem pf_X6_comeIn (G : Nat → KT) (Q : Option mV → mM → Prop) (h0 : ∀ lv st M, BX6_comeIn_0 G Q lv st M → G 0 lv st M) (h2 : ∀ lv st M, BX6_comeIn_2 G Q lv st M → G 2 lv st M) (h66 : ∀ lv st M, BX6_comeIn_66 G Q lv st M → G 66 lv st M) (as : List mV) (M : mM) (ho : ∀ v ∈ as, okV v) (hp : pre_X6_comeIn as M) (hQ : Q (fn_X6_comeIn as M).1 (fn_X6_comeIn as M).2) : G 0 (inL as ++ List.replicate (4 - (inL as).length) none) [] M := by
  obtain ⟨g, k, rfl, hPL⟩ := hp
  have hk : kof k = 8 := ho (.inr (.inr (8, k))) (by simp)
  have hl := lnU hk
  obtain ⟨N, hN, eN⟩ := hPL.1
  have en : nU M = N := by unfold nU; rw [eN]; exact nI_clamp (by omega)
  simp only [fn_X6_comeIn, comeIn, en] at hQ
  have loop : ∀ (n i : Nat) (M : mM), i + n = N → PL M → M.1 4 2 = nI N → Q none (itr (ciS k) i n M) → G 2 [some (.inr (.inr (6, g))), some (.inr (.inr (8, k))), some (.inl (nI i)), none] [] M := by
    intro n
    induction n with
    | zero =>
      intro i M hi hPL eN hq
      obtain rfl : i = N := by omega
      (apply h2; simp only [BX6_comeIn_2, s_mth, s_mab, s_at, s_iconst, s_lconst, s_iload, s_lload, s_aload, s_istore, s_lstore, s_astore, s_iinc, s_bin, s_binG, s_un, s_lbin, s_lbinG, s_lsh, s_lcmp, s_i2l, s_l2i, s_dup, s_dup2, s_pop, s_if, s_icmp, s_geti, s_getl, s_getr, s_puti, s_putz, s_putl, s_iald, s_zald, s_iast, s_zast, s_aaldS, s_aaldU, s_gets, s_tald, s_tsw, tsw, s_iret, s_zret, s_lret, s_aret, s_vret, s_callV, s_callS, c1, nl1, keepL, csum, pushR, inL, List.getD_cons_zero, List.getD_cons_succ, List.set_cons_zero, List.set_cons_succ, List.cons_append, List.nil_append, List.append_nil, List.replicate, List.length_cons, List.length_nil, List.take_succ_cons, List.take_zero, List.drop_succ_cons, List.drop_zero, List.reverse_cons, List.reverse_nil, true_and, and_true, forall_const, not_true_eq_false, not_false_eq_true, false_implies, true_implies, implies_true, one0, m10, Nat.reduceAdd, Nat.reduceSub, Nat.reduceLeDiff, Nat.zero_add, Nat.add_zero, fn_X10_takeIn, fn_X5_rateOf])
      rw [eN]
      refine ⟨fun _ => ?_, fun h => absurd (nI_le (Nat.le_refl i) (by omega)) h⟩
      (apply h66; simp only [BX6_comeIn_66, s_mth, s_mab, s_at, s_iconst, s_lconst, s_iload, s_lload, s_aload, s_istore, s_lstore, s_astore, s_iinc, s_bin, s_binG, s_un, s_lbin, s_lbinG, s_lsh, s_lcmp, s_i2l, s_l2i, s_dup, s_dup2, s_pop, s_if, s_icmp, s_geti, s_getl, s_getr, s_puti, s_putz, s_putl, s_iald, s_zald, s_iast, s_zast, s_aaldS, s_aaldU, s_gets, s_tald, s_tsw, tsw, s_iret, s_zret, s_lret, s_aret, s_vret, s_callV, s_callS, c1, nl1, keepL, csum, pushR, inL, List.getD_cons_zero, List.getD_cons_succ, List.set_cons_zero, List.set_cons_succ, List.cons_append, List.nil_append, List.append_nil, List.replicate, List.length_cons, List.length_nil, List.take_succ_cons, List.take_zero, List.drop_succ_cons, List.drop_zero, List.reverse_cons, List.reverse_nil, true_and, and_true, forall_const, not_true_eq_false, not_false_eq_true, false_implies, true_implies, implies_true, one0, m10, Nat.reduceAdd, Nat.reduceSub, Nat.reduceLeDiff, Nat.zero_add, Nat.add_zero, fn_X10_takeIn, fn_X5_rateOf])
      exact hq
    | succ n ih =>
      intro i M hi hPL eN hq
      have ei : (nI i).toNatClampNeg = i := nI_clamp (by omega)
      have hv : vp_in (nI i) 5 := vp_in_nI (by omega) (by decide)
      (apply h2; simp only [BX6_comeIn_2, s_mth, s_mab, s_at, s_iconst, s_lconst, s_iload, s_lload, s_aload, s_istore, s_lstore, s_astore, s_iinc, s_bin, s_binG, s_un, s_lbin, s_lbinG, s_lsh, s_lcmp, s_i2l, s_l2i, s_dup, s_dup2, s_pop, s_if, s_icmp, s_geti, s_getl, s_getr, s_puti, s_putz, s_putl, s_iald, s_zald, s_iast, s_zast, s_aaldS, s_aaldU, s_gets, s_tald, s_tsw, tsw, s_iret, s_zret, s_lret, s_aret, s_vret, s_callV, s_callS, c1, nl1, keepL, csum, pushR, inL, List.getD_cons_zero, List.getD_cons_succ, List.set_cons_zero, List.set_cons_succ, List.cons_append, List.nil_append, List.append_nil, List.replicate, List.length_cons, List.length_nil, List.take_succ_cons, List.take_zero, List.drop_succ_cons, List.drop_zero, List.reverse_cons, List.reverse_nil, true_and, and_true, forall_const, not_true_eq_false, not_false_eq_true, false_implies, true_implies, implies_true, one0, m10, Nat.reduceAdd, Nat.reduceSub, Nat.reduceLeDiff, Nat.zero_add, Nat.add_zero, fn_X10_takeIn, fn_X5_rateOf])
      simp only [eN, hl, ei, l22, l23, l24]
      refine ⟨fun h => absurd h (nI_ge (by omega) (by omega)), fun _ => ⟨hv, ⟨_, _, rfl⟩, ⟨_, _, _, rfl, PL_tkn hPL (kU hk (by omega))⟩, hv, hv, hv, ?_⟩⟩
      rw [nI_1]
      exact ih (i + 1) (ciS k i M) (by omega) (PL_ciS hPL hk (by omega)) (by rw [p4_ciS hk (by omega)]; exact eN) hq
  (apply h0; simp only [BX6_comeIn_0, s_mth, s_mab, s_at, s_iconst, s_lconst, s_iload, s_lload, s_aload, s_istore, s_lstore, s_astore, s_iinc, s_bin, s_binG, s_un, s_lbin, s_lbinG, s_lsh, s_lcmp, s_i2l, s_l2i, s_dup, s_dup2, s_pop, s_if, s_icmp, s_geti, s_getl, s_getr, s_puti, s_putz, s_putl, s_iald, s_zald, s_iast, s_zast, s_aaldS, s_aaldU, s_gets, s_tald, s_tsw, tsw, s_iret, s_zret, s_lret, s_aret, s_vret, s_callV, s_callS, c1, nl1, keepL, csum, pushR, inL, List.getD_cons_zero, List.getD_cons_succ, List.set_cons_zero, List.set_cons_succ, List.cons_append, List.nil_append, List.append_nil, List.replicate, List.length_cons, List.length_nil, List.take_succ_cons, List.take_zero, List.drop_succ_cons, List.drop_zero, List.reverse_cons, List.reverse_nil, true_and, and_true, forall_const, not_true_eq_false, not_false_eq_true, false_implies, true_implies, implies_true, one0, m10, Nat.reduceAdd, Nat.reduceSub, Nat.reduceLeDiff, Nat.zero_add, Nat.add_zero, fn_X10_takeIn, fn_X5_rateOf])
  exact loop N 0 M (by omega) hPL eN hQ
theorem ct_X6_comeIn (l : Launch) : Con l yX6_comeIn cX6_comeIn 4 (Option.none : Option FieldType) 1 pre_X6_comeIn fn_X6_comeIn := con_of (by decide +kernel) ok_X6_comeIn len_X6_comeIn (fun p e s m args below meth c D ca ad A as M hX hr hp ho => pf_X6_comeIn _ _ (bsX6_comeIn_0 hX hr) (bsX6_comeIn_2 hX hr) (bsX6_comeIn_66 hX hr) as M ho hp ⟨rfl, rfl⟩)
def esA (M : mM) (uk i : Nat) : mM := mset M uk 6 (M.1 uk 6 - (M.1 uk 6 >>> (M.1 4 1 &&& 31)) + ((16 * M.1 24 i) >>> (M.1 4 1 &&& 31)))
def rst (M : mM) (uk i : Nat) : Int32 := if M.1 23 i = -1 then (if M.1 uk 3 = 0 then (if M.1 uk 4 + M.1 uk 5 = 0 then 1 else 0) else 1) else 1
def esB (M : mM) (uk i : Nat) : mM := mset M uk 7 (if rst M uk i = 0 then M.1 uk 7 + 1 else 0)
def esS (k i : Nat) (q : Int32 × mM) : Int32 × mM := (q.1 + (esB (esA q.2 (k + 1 + 1 + i) i) (k + 1 + 1 + i) i).1 24 i, esB (esA q.2 (k + 1 + 1 + i) i) (k + 1 + 1 + i) i)
theorem p4_es {M : mM} {uk i : Nat} (hk : kof uk = 10) : (esB (esA M uk i) uk i).1 4 = M.1 4 := by
  unfold esB esA
  rw [mset_n (kne (by rw [hk]; decide +kernel)), mset_n (kne (by rw [hk]; decide +kernel))]
def esF (k : Nat) (q : Int32 × mM) : Int32 × mM := (q.1, mset q.2 k 2 (q.2.1 k 2 + 1))
def endSlot (M : mM) (k : Nat) : Int32 × mM := esF k (itr (esS k) 0 (nU M) (0, M))
def pre_X6_endSlot (as : List mV) (M : mM) : Prop := ∃ g k, as = [.inr (.inr (6, g)), .inr (.inr (8, k))] ∧ PL M
def fn_X6_endSlot : List mV → mM → Option mV × mM
  | [.inr (.inr (_, g)), .inr (.inr (_, k))], M => (some (.inl (endSlot M k).1), (endSlot M k).2)
  | _, M => (none, M)
theorem ok_X6_endSlot (as : List mV) (M : mM) (h : pre_X6_endSlot as M) (_ : ∀ v ∈ as, okV v) : okR (fn_X6_endSlot as M).1 := by
  obtain ⟨g, k, rfl, -⟩ := h
  first | trivial | exact (by decide +kernel : kof 14 = 8)
theorem len_X6_endSlot (as : List mV) (M : mM) (h : pre_X6_endSlot as M) : (inL as).length ≤ 6 := by
  obtain ⟨g, k, rfl, -⟩ := h
  exact Nat.le_of_ble_eq_true rfl

theorem fl_58 : FLk "FairBlocks$Scheduler" 85 5 1 0 := ⟨RX5, TX5, 5, rfl, inX5, by decide, w_58, by decide, rfl⟩
theorem fp_112 : FPk "FairBlocks$Scheduler" 82 10 6 0 .int := ⟨RX10, TX10, 10, tyX10, rfl, inX10, by decide, w_112, by decide, rfl, tyX10_ok, nmX10, rfl, rfl⟩
theorem fp_117 : FPk "FairBlocks$Scheduler" 96 10 7 0 .int := ⟨RX10, TX10, 10, tyX10, rfl, inX10, by decide, w_117, by decide, rfl, tyX10_ok, nmX10, rfl, rfl⟩
theorem fp_155 : FPk "FairBlocks$Scheduler" 75 8 2 0 .int := ⟨RX8, TX8, 3, tyX8, rfl, inX8, by decide, w_155, by decide, rfl, tyX8_ok, nmX8, rfl, rfl⟩
theorem dX6_endSlot_0 : decode cX6_endSlot 0 = .ok (.iconst 0, 1) := by decide +kernel
theorem dX6_endSlot_1 : decode cX6_endSlot 1 = .ok (.istore_n 2, 1) := by decide +kernel
theorem dX6_endSlot_2 : decode cX6_endSlot 2 = .ok (.iconst 0, 1) := by decide +kernel
theorem dX6_endSlot_3 : decode cX6_endSlot 3 = .ok (.istore_n 3, 1) := by decide +kernel
theorem dX6_endSlot_4 : decode cX6_endSlot 4 = .ok (.iload_n 3, 1) := by decide +kernel
theorem dX6_endSlot_5 : decode cX6_endSlot 5 = .ok (.aload_n 0, 1) := by decide +kernel
theorem dX6_endSlot_6 : decode cX6_endSlot 6 = .ok (.getfield 24, 3) := by decide +kernel
theorem dX6_endSlot_9 : decode cX6_endSlot 9 = .ok (.getfield 66, 3) := by decide +kernel
theorem dX6_endSlot_12 : decode cX6_endSlot 12 = .ok (.if_icmp .ge 122, 3) := by decide +kernel
theorem dX6_endSlot_15 : decode cX6_endSlot 15 = .ok (.aload_n 1, 1) := by decide +kernel
theorem dX6_endSlot_16 : decode cX6_endSlot 16 = .ok (.getfield 46, 3) := by decide +kernel
theorem dX6_endSlot_19 : decode cX6_endSlot 19 = .ok (.iload_n 3, 1) := by decide +kernel
theorem dX6_endSlot_20 : decode cX6_endSlot 20 = .ok (.aaload, 1) := by decide +kernel
theorem dX6_endSlot_21 : decode cX6_endSlot 21 = .ok (.astore 4, 2) := by decide +kernel
theorem dX6_endSlot_23 : decode cX6_endSlot 23 = .ok (.aload 4, 2) := by decide +kernel
theorem dX6_endSlot_25 : decode cX6_endSlot 25 = .ok (.aload 4, 2) := by decide +kernel
theorem dX6_endSlot_27 : decode cX6_endSlot 27 = .ok (.getfield 82, 3) := by decide +kernel
theorem dX6_endSlot_30 : decode cX6_endSlot 30 = .ok (.aload 4, 2) := by decide +kernel
theorem dX6_endSlot_32 : decode cX6_endSlot 32 = .ok (.getfield 82, 3) := by decide +kernel
theorem dX6_endSlot_35 : decode cX6_endSlot 35 = .ok (.aload_n 0, 1) := by decide +kernel
theorem dX6_endSlot_36 : decode cX6_endSlot 36 = .ok (.getfield 24, 3) := by decide +kernel
theorem dX6_endSlot_39 : decode cX6_endSlot 39 = .ok (.getfield 85, 3) := by decide +kernel
theorem dX6_endSlot_42 : decode cX6_endSlot 42 = .ok (.ishr, 1) := by decide +kernel
theorem dX6_endSlot_43 : decode cX6_endSlot 43 = .ok (.isub, 1) := by decide +kernel
theorem dX6_endSlot_44 : decode cX6_endSlot 44 = .ok (.bipush 16, 2) := by decide +kernel
theorem dX6_endSlot_46 : decode cX6_endSlot 46 = .ok (.aload_n 0, 1) := by decide +kernel
theorem dX6_endSlot_47 : decode cX6_endSlot 47 = .ok (.getfield 18, 3) := by decide +kernel
theorem dX6_endSlot_50 : decode cX6_endSlot 50 = .ok (.iload_n 3, 1) := by decide +kernel
theorem dX6_endSlot_51 : decode cX6_endSlot 51 = .ok (.iaload, 1) := by decide +kernel
theorem dX6_endSlot_52 : decode cX6_endSlot 52 = .ok (.imul, 1) := by decide +kernel
theorem dX6_endSlot_53 : decode cX6_endSlot 53 = .ok (.aload_n 0, 1) := by decide +kernel
theorem dX6_endSlot_54 : decode cX6_endSlot 54 = .ok (.getfield 24, 3) := by decide +kernel
theorem dX6_endSlot_57 : decode cX6_endSlot 57 = .ok (.getfield 85, 3) := by decide +kernel
theorem dX6_endSlot_60 : decode cX6_endSlot 60 = .ok (.ishr, 1) := by decide +kernel
theorem dX6_endSlot_61 : decode cX6_endSlot 61 = .ok (.iadd, 1) := by decide +kernel
theorem dX6_endSlot_62 : decode cX6_endSlot 62 = .ok (.putfield 82, 3) := by decide +kernel
theorem dX6_endSlot_65 : decode cX6_endSlot 65 = .ok (.aload_n 0, 1) := by decide +kernel
theorem dX6_endSlot_66 : decode cX6_endSlot 66 = .ok (.getfield 15, 3) := by decide +kernel
theorem dX6_endSlot_69 : decode cX6_endSlot 69 = .ok (.iload_n 3, 1) := by decide +kernel
theorem dX6_endSlot_70 : decode cX6_endSlot 70 = .ok (.iaload, 1) := by decide +kernel
theorem dX6_endSlot_71 : decode cX6_endSlot 71 = .ok (.iconst (-1), 1) := by decide +kernel
theorem dX6_endSlot_72 : decode cX6_endSlot 72 = .ok (.if_icmp .ne 19, 3) := by decide +kernel
theorem dX6_endSlot_75 : decode cX6_endSlot 75 = .ok (.aload 4, 2) := by decide +kernel
theorem dX6_endSlot_77 : decode cX6_endSlot 77 = .ok (.getfield 88, 3) := by decide +kernel
theorem dX6_endSlot_80 : decode cX6_endSlot 80 = .ok (.ifCond .ne 11, 3) := by decide +kernel
theorem dX6_endSlot_83 : decode cX6_endSlot 83 = .ok (.aload 4, 2) := by decide +kernel
theorem dX6_endSlot_85 : decode cX6_endSlot 85 = .ok (.invokevirtual 92, 3) := by decide +kernel
theorem dX6_endSlot_88 : decode cX6_endSlot 88 = .ok (.ifCond .ne 7, 3) := by decide +kernel
theorem dX6_endSlot_91 : decode cX6_endSlot 91 = .ok (.iconst 1, 1) := by decide +kernel
theorem dX6_endSlot_92 : decode cX6_endSlot 92 = .ok (.goto 4, 3) := by decide +kernel
theorem dX6_endSlot_95 : decode cX6_endSlot 95 = .ok (.iconst 0, 1) := by decide +kernel
theorem dX6_endSlot_96 : decode cX6_endSlot 96 = .ok (.istore 5, 2) := by decide +kernel
theorem dX6_endSlot_98 : decode cX6_endSlot 98 = .ok (.aload 4, 2) := by decide +kernel
theorem dX6_endSlot_100 : decode cX6_endSlot 100 = .ok (.iload 5, 2) := by decide +kernel
theorem dX6_endSlot_102 : decode cX6_endSlot 102 = .ok (.ifCond .eq 7, 3) := by decide +kernel
theorem dX6_endSlot_105 : decode cX6_endSlot 105 = .ok (.iconst 0, 1) := by decide +kernel
theorem dX6_endSlot_106 : decode cX6_endSlot 106 = .ok (.goto 10, 3) := by decide +kernel
theorem dX6_endSlot_109 : decode cX6_endSlot 109 = .ok (.aload 4, 2) := by decide +kernel
theorem dX6_endSlot_111 : decode cX6_endSlot 111 = .ok (.getfield 96, 3) := by decide +kernel
theorem dX6_endSlot_114 : decode cX6_endSlot 114 = .ok (.iconst 1, 1) := by decide +kernel
theorem dX6_endSlot_115 : decode cX6_endSlot 115 = .ok (.iadd, 1) := by decide +kernel
theorem dX6_endSlot_116 : decode cX6_endSlot 116 = .ok (.putfield 96, 3) := by decide +kernel
theorem dX6_endSlot_119 : decode cX6_endSlot 119 = .ok (.iload_n 2, 1) := by decide +kernel
theorem dX6_endSlot_120 : decode cX6_endSlot 120 = .ok (.aload_n 0, 1) := by decide +kernel
theorem dX6_endSlot_121 : decode cX6_endSlot 121 = .ok (.getfield 18, 3) := by decide +kernel
theorem dX6_endSlot_124 : decode cX6_endSlot 124 = .ok (.iload_n 3, 1) := by decide +kernel
theorem dX6_endSlot_125 : decode cX6_endSlot 125 = .ok (.iaload, 1) := by decide +kernel
theorem dX6_endSlot_126 : decode cX6_endSlot 126 = .ok (.iadd, 1) := by decide +kernel
theorem dX6_endSlot_127 : decode cX6_endSlot 127 = .ok (.istore_n 2, 1) := by decide +kernel
theorem dX6_endSlot_128 : decode cX6_endSlot 128 = .ok (.iinc 3 1, 3) := by decide +kernel
theorem dX6_endSlot_131 : decode cX6_endSlot 131 = .ok (.goto (-127), 3) := by decide +kernel
theorem dX6_endSlot_134 : decode cX6_endSlot 134 = .ok (.aload_n 1, 1) := by decide +kernel
theorem dX6_endSlot_135 : decode cX6_endSlot 135 = .ok (.dup, 1) := by decide +kernel
theorem dX6_endSlot_136 : decode cX6_endSlot 136 = .ok (.getfield 75, 3) := by decide +kernel
theorem dX6_endSlot_139 : decode cX6_endSlot 139 = .ok (.iconst 1, 1) := by decide +kernel
theorem dX6_endSlot_140 : decode cX6_endSlot 140 = .ok (.iadd, 1) := by decide +kernel
theorem dX6_endSlot_141 : decode cX6_endSlot 141 = .ok (.putfield 75, 3) := by decide +kernel
theorem dX6_endSlot_144 : decode cX6_endSlot 144 = .ok (.iload_n 2, 1) := by decide +kernel
theorem dX6_endSlot_145 : decode cX6_endSlot 145 = .ok (.ireturn, 1) := by decide +kernel
theorem mk_X6_endSlot : MVk yX6_endSlot "FairBlocks$Scheduler" cX6_endSlot 6 (Option.some FieldType.int) 1 := ⟨w_464, w_463, wp_5, w_7, rfl, by decide +kernel, by decide +kernel, by decide +kernel⟩
def BX6_endSlot_0 (G : Nat → KT) (Q : Option mV → mM → Prop) : KT := (s_iconst (0) (s_istore 2 (s_iconst (0) (s_istore 3 (s_at G 4 [true, true, true, true, false, false])))))
set_option maxRecDepth 4000 in
theorem bsX6_endSlot_0 {p : Program} {l : Launch} {e : Env} {s : State} {m : MethodId} {args : Array Value} {below : List Frame} {meth : Method} {c : Code} {D : va_G} {ca : Nat → ClassId} {ad : Nat → Nat} {A : Nat → Prop} {Q : Option mV → mM → Prop} (hX : CX p s m args meth c 6 cX6_endSlot "FairBlocks$Scheduler" D ca ad A) (hr : meth.sig.returnType = (Option.some FieldType.int)) : ∀ lv st M, BX6_endSlot_0 (Gd p l e (rmD 1) s m args below meth c 6 D ca ad A 0 0 (MQ below (QC D ca ad A Q) args s 0 0 A)) Q lv st M → Gd p l e (rmD 1) s m args below meth c 6 D ca ad A 0 0 (MQ below (QC D ca ad A Q) args s 0 0 A) 0 lv st M :=
  (sd_iconst hX dX6_endSlot_0 rfl (sd_istore_n hX (by decide) dX6_endSlot_1 rfl (sd_iconst hX dX6_endSlot_2 rfl (sd_istore_n hX (by decide) dX6_endSlot_3 rfl sd_at))))
def BX6_endSlot_4 (G : Nat → KT) (Q : Option mV → mM → Prop) : KT := (s_iload 3 (s_aload 0 (s_getr 6 5 (fun _ => 4) (s_geti 5 2 (s_icmp (fun x y => y ≤ x) (s_at G 134 [false, true, true, false, false, false]) (s_aload 1 (s_getr 8 16 (fun k => k + 1) (s_iload 3 (s_aaldU (s_astore 4 (s_aload 4 (s_aload 4 (s_geti 10 6 (s_aload 4 (s_geti 10 6 (s_aload 0 (s_getr 6 5 (fun _ => 4) (s_geti 5 1 (s_bin (fun x y => x >>> (y &&& 31)) (s_bin (fun x y => x - y) (s_iconst (16) (s_aload 0 (s_getr 6 13 (fun _ => 24) (s_iload 3 (s_iald (s_bin (fun x y => x * y) (s_aload 0 (s_getr 6 5 (fun _ => 4) (s_geti 5 1 (s_bin (fun x y => x >>> (y &&& 31)) (s_bin (fun x y => x + y) (s_puti 10 6 (s_aload 0 (s_getr 6 13 (fun _ => 23) (s_iload 3 (s_iald (s_iconst (-1) (s_icmp (fun x y => x = y) ((s_aload 4 (s_geti 10 3 (s_if (fun x => x = 0) ((s_aload 4 (s_callV 10 0 pre_X10_waiting fn_X10_waiting (s_if (fun x => x = 0) ((s_at G 91 [true, true, true, true, true, false])) (s_at G 95 [true, true, true, true, true, false]))))) (s_at G 91 [true, true, true, true, true, false]))))) (s_at G 91 [true, true, true, true, true, false])))))))))))))))))))))))))))))))))))))))
set_option maxRecDepth 4000 in
theorem bsX6_endSlot_4 {p : Program} {l : Launch} {e : Env} {s : State} {m : MethodId} {args : Array Value} {below : List Frame} {meth : Method} {c : Code} {D : va_G} {ca : Nat → ClassId} {ad : Nat → Nat} {A : Nat → Prop} {Q : Option mV → mM → Prop} (hX : CX p s m args meth c 6 cX6_endSlot "FairBlocks$Scheduler" D ca ad A) (hr : meth.sig.returnType = (Option.some FieldType.int)) : ∀ lv st M, BX6_endSlot_4 (Gd p l e (rmD 1) s m args below meth c 6 D ca ad A 0 0 (MQ below (QC D ca ad A Q) args s 0 0 A)) Q lv st M → Gd p l e (rmD 1) s m args below meth c 6 D ca ad A 0 0 (MQ below (QC D ca ad A Q) args s 0 0 A) 4 lv st M :=
  (sd_iload_n hX dX6_endSlot_4 rfl (sd_aload_n hX dX6_endSlot_5 rfl (sd_getr hX fl_171 (fun _ => rfl) (fun _ _ _ => by decide +kernel) dX6_endSlot_6 (sd_geti hX fl_63 (by decide) dX6_endSlot_9 (sd_icmp_ge hX dX6_endSlot_12 (by decide) sd_at (sd_aload_n hX dX6_endSlot_15 rfl (sd_getr hX fl_146 (fun _ => rfl) okA dX6_endSlot_16 (sd_iload_n hX dX6_endSlot_19 rfl (sd_aaldU hX dX6_endSlot_20 (sd_astore hX (by decide) dX6_endSlot_21 (sd_aload hX dX6_endSlot_23 (sd_aload hX dX6_endSlot_25 (sd_geti hX fl_112 (by decide) dX6_endSlot_27 (sd_aload hX dX6_endSlot_30 (sd_geti hX fl_112 (by decide) dX6_endSlot_32 (sd_aload_n hX dX6_endSlot_35 rfl (sd_getr hX fl_171 (fun _ => rfl) (fun _ _ _ => by decide +kernel) dX6_endSlot_36 (sd_geti hX fl_58 (by decide) dX6_endSlot_39 (sd_ishr hX dX6_endSlot_42 (sd_isub hX dX6_endSlot_43 (sd_bipush hX dX6_endSlot_44 rfl (sd_aload_n hX dX6_endSlot_46 rfl (sd_getr hX fl_174 (fun _ => rfl) (fun _ _ _ => by decide +kernel) dX6_endSlot_47 (sd_iload_n hX dX6_endSlot_50 rfl (sd_iald hX dX6_endSlot_51 (sd_imul hX dX6_endSlot_52 (sd_aload_n hX dX6_endSlot_53 rfl (sd_getr hX fl_171 (fun _ => rfl) (fun _ _ _ => by decide +kernel) dX6_endSlot_54 (sd_geti hX fl_58 (by decide) dX6_endSlot_57 (sd_ishr hX dX6_endSlot_60 (sd_iadd hX dX6_endSlot_61 (sd_puti hX fp_112 dX6_endSlot_62 (sd_aload_n hX dX6_endSlot_65 rfl (sd_getr hX fl_173 (fun _ => rfl) (fun _ _ _ => by decide +kernel) dX6_endSlot_66 (sd_iload_n hX dX6_endSlot_69 rfl (sd_iald hX dX6_endSlot_70 (sd_iconst hX dX6_endSlot_71 rfl (sd_icmp_ne hX dX6_endSlot_72 (by decide) sd_at (sd_aload hX dX6_endSlot_75 (sd_geti hX fl_105 (by decide) dX6_endSlot_77 (sd_if_ne hX dX6_endSlot_80 (by decide) sd_at (sd_aload hX dX6_endSlot_83 (sd_callV hX (kd := 10) rfl (by decide) (ct_X10_waiting l) mk_X10_waiting w_465 ⟨⟨by decide, by decide⟩, by decide, by decide⟩ dX6_endSlot_85 (sd_if_ne hX dX6_endSlot_88 (by decide) sd_at sd_at))))))))))))))))))))))))))))))))))))))))))))
def BX6_endSlot_91 (G : Nat → KT) (Q : Option mV → mM → Prop) : KT := (s_iconst (1) (s_at G 96 [true, true, true, true, true, false]))
set_option maxRecDepth 4000 in
theorem bsX6_endSlot_91 {p : Program} {l : Launch} {e : Env} {s : State} {m : MethodId} {args : Array Value} {below : List Frame} {meth : Method} {c : Code} {D : va_G} {ca : Nat → ClassId} {ad : Nat → Nat} {A : Nat → Prop} {Q : Option mV → mM → Prop} (hX : CX p s m args meth c 6 cX6_endSlot "FairBlocks$Scheduler" D ca ad A) (hr : meth.sig.returnType = (Option.some FieldType.int)) : ∀ lv st M, BX6_endSlot_91 (Gd p l e (rmD 1) s m args below meth c 6 D ca ad A 0 0 (MQ below (QC D ca ad A Q) args s 0 0 A)) Q lv st M → Gd p l e (rmD 1) s m args below meth c 6 D ca ad A 0 0 (MQ below (QC D ca ad A Q) args s 0 0 A) 91 lv st M :=
  (sd_iconst hX dX6_endSlot_91 rfl (sd_goto hX dX6_endSlot_92 (by decide) sd_at))
def BX6_endSlot_95 (G : Nat → KT) (Q : Option mV → mM → Prop) : KT := (s_iconst (0) (s_at G 96 [true, true, true, true, true, false]))
set_option maxRecDepth 4000 in
theorem bsX6_endSlot_95 {p : Program} {l : Launch} {e : Env} {s : State} {m : MethodId} {args : Array Value} {below : List Frame} {meth : Method} {c : Code} {D : va_G} {ca : Nat → ClassId} {ad : Nat → Nat} {A : Nat → Prop} {Q : Option mV → mM → Prop} (hX : CX p s m args meth c 6 cX6_endSlot "FairBlocks$Scheduler" D ca ad A) (hr : meth.sig.returnType = (Option.some FieldType.int)) : ∀ lv st M, BX6_endSlot_95 (Gd p l e (rmD 1) s m args below meth c 6 D ca ad A 0 0 (MQ below (QC D ca ad A Q) args s 0 0 A)) Q lv st M → Gd p l e (rmD 1) s m args below meth c 6 D ca ad A 0 0 (MQ below (QC D ca ad A Q) args s 0 0 A) 95 lv st M :=
  (sd_iconst hX dX6_endSlot_95 rfl sd_at)
def BX6_endSlot_96 (G : Nat → KT) (Q : Option mV → mM → Prop) : KT := (s_istore 5 (s_aload 4 (s_iload 5 (s_if (fun x => x = 0) (s_at G 109 [true, true, true, true, true, false]) (s_iconst (0) (s_at G 116 [true, true, true, true, false, false]))))))
set_option maxRecDepth 4000 in
theorem bsX6_endSlot_96 {p : Program} {l : Launch} {e : Env} {s : State} {m : MethodId} {args : Array Value} {below : List Frame} {meth : Method} {c : Code} {D : va_G} {ca : Nat → ClassId} {ad : Nat → Nat} {A : Nat → Prop} {Q : Option mV → mM → Prop} (hX : CX p s m args meth c 6 cX6_endSlot "FairBlocks$Scheduler" D ca ad A) (hr : meth.sig.returnType = (Option.some FieldType.int)) : ∀ lv st M, BX6_endSlot_96 (Gd p l e (rmD 1) s m args below meth c 6 D ca ad A 0 0 (MQ below (QC D ca ad A Q) args s 0 0 A)) Q lv st M → Gd p l e (rmD 1) s m args below meth c 6 D ca ad A 0 0 (MQ below (QC D ca ad A Q) args s 0 0 A) 96 lv st M :=
  (sd_istore hX (by decide) dX6_endSlot_96 (sd_aload hX dX6_endSlot_98 (sd_iload hX dX6_endSlot_100 (sd_if_eq hX dX6_endSlot_102 (by decide) sd_at (sd_iconst hX dX6_endSlot_105 rfl (sd_goto hX dX6_endSlot_106 (by decide) sd_at))))))
def BX6_endSlot_109 (G : Nat → KT) (Q : Option mV → mM → Prop) : KT := (s_aload 4 (s_geti 10 7 (s_iconst (1) (s_bin (fun x y => x + y) (s_at G 116 [true, true, true, true, false, false])))))
set_option maxRecDepth 4000 in
theorem bsX6_endSlot_109 {p : Program} {l : Launch} {e : Env} {s : State} {m : MethodId} {args : Array Value} {below : List Frame} {meth : Method} {c : Code} {D : va_G} {ca : Nat → ClassId} {ad : Nat → Nat} {A : Nat → Prop} {Q : Option mV → mM → Prop} (hX : CX p s m args meth c 6 cX6_endSlot "FairBlocks$Scheduler" D ca ad A) (hr : meth.sig.returnType = (Option.some FieldType.int)) : ∀ lv st M, BX6_endSlot_109 (Gd p l e (rmD 1) s m args below meth c 6 D ca ad A 0 0 (MQ below (QC D ca ad A Q) args s 0 0 A)) Q lv st M → Gd p l e (rmD 1) s m args below meth c 6 D ca ad A 0 0 (MQ below (QC D ca ad A Q) args s 0 0 A) 109 lv st M :=
  (sd_aload hX dX6_endSlot_109 (sd_geti hX fl_117 (by decide) dX6_endSlot_111 (sd_iconst hX dX6_endSlot_114 rfl (sd_iadd hX dX6_endSlot_115 sd_at))))
def BX6_endSlot_116 (G : Nat → KT) (Q : Option mV → mM → Prop) : KT := (s_puti 10 7 (s_iload 2 (s_aload 0 (s_getr 6 13 (fun _ => 24) (s_iload 3 (s_iald (s_bin (fun x y => x + y) (s_istore 2 (s_iinc 3 (1) (s_at G 4 [true, true, true, true, false, false]))))))))))
set_option maxRecDepth 4000 in
theorem bsX6_endSlot_116 {p : Program} {l : Launch} {e : Env} {s : State} {m : MethodId} {args : Array Value} {below : List Frame} {meth : Method} {c : Code} {D : va_G} {ca : Nat → ClassId} {ad : Nat → Nat} {A : Nat → Prop} {Q : Option mV → mM → Prop} (hX : CX p s m args meth c 6 cX6_endSlot "FairBlocks$Scheduler" D ca ad A) (hr : meth.sig.returnType = (Option.some FieldType.int)) : ∀ lv st M, BX6_endSlot_116 (Gd p l e (rmD 1) s m args below meth c 6 D ca ad A 0 0 (MQ below (QC D ca ad A Q) args s 0 0 A)) Q lv st M → Gd p l e (rmD 1) s m args below meth c 6 D ca ad A 0 0 (MQ below (QC D ca ad A Q) args s 0 0 A) 116 lv st M :=
  (sd_puti hX fp_117 dX6_endSlot_116 (sd_iload_n hX dX6_endSlot_119 rfl (sd_aload_n hX dX6_endSlot_120 rfl (sd_getr hX fl_174 (fun _ => rfl) (fun _ _ _ => by decide +kernel) dX6_endSlot_121 (sd_iload_n hX dX6_endSlot_124 rfl (sd_iald hX dX6_endSlot_125 (sd_iadd hX dX6_endSlot_126 (sd_istore_n hX (by decide) dX6_endSlot_127 rfl (sd_iinc hX (by decide) dX6_endSlot_128 rfl (sd_goto hX dX6_endSlot_131 (by decide) sd_at))))))))))
def BX6_endSlot_134 (G : Nat → KT) (Q : Option mV → mM → Prop) : KT := (s_aload 1 (s_dup (s_geti 8 2 (s_iconst (1) (s_bin (fun x y => x + y) (s_puti 8 2 (s_iload 2 (s_iret Q))))))))
set_option maxRecDepth 4000 in
theorem bsX6_endSlot_134 {p : Program} {l : Launch} {e : Env} {s : State} {m : MethodId} {args : Array Value} {below : List Frame} {meth : Method} {c : Code} {D : va_G} {ca : Nat → ClassId} {ad : Nat → Nat} {A : Nat → Prop} {Q : Option mV → mM → Prop} (hX : CX p s m args meth c 6 cX6_endSlot "FairBlocks$Scheduler" D ca ad A) (hr : meth.sig.returnType = (Option.some FieldType.int)) : ∀ lv st M, BX6_endSlot_134 (Gd p l e (rmD 1) s m args below meth c 6 D ca ad A 0 0 (MQ below (QC D ca ad A Q) args s 0 0 A)) Q lv st M → Gd p l e (rmD 1) s m args below meth c 6 D ca ad A 0 0 (MQ below (QC D ca ad A Q) args s 0 0 A) 134 lv st M :=
  (sd_aload_n hX dX6_endSlot_134 rfl (sd_dup hX dX6_endSlot_135 (sd_geti hX fl_155 (by decide) dX6_endSlot_136 (sd_iconst hX dX6_endSlot_139 rfl (sd_iadd hX dX6_endSlot_140 (sd_puti hX fp_155 dX6_endSlot_141 (sd_iload_n hX dX6_endSlot_144 rfl (sd_iret hX hr dX6_endSlot_145))))))))
set_option maxHeartbeats 400000 in
theorem pf_X6_endSlot (G : Nat → KT) (Q : Option mV → mM → Prop) (h0 : ∀ lv st M, BX6_endSlot_0 G Q lv st M → G 0 lv st M) (h4 : ∀ lv st M, BX6_endSlot_4 G Q lv st M → G 4 lv st M) (h91 : ∀ lv st M, BX6_endSlot_91 G Q lv st M → G 91 lv st M) (h95 : ∀ lv st M, BX6_endSlot_95 G Q lv st M → G 95 lv st M) (h96 : ∀ lv st M, BX6_endSlot_96 G Q lv st M → G 96 lv st M) (h109 : ∀ lv st M, BX6_endSlot_109 G Q lv st M → G 109 lv st M) (h116 : ∀ lv st M, BX6_endSlot_116 G Q lv st M → G 116 lv st M) (h134 : ∀ lv st M, BX6_endSlot_134 G Q lv st M → G 134 lv st M) (as : List mV) (M : mM) (ho : ∀ v ∈ as, okV v) (hp : pre_X6_endSlot as M) (hQ : Q (fn_X6_endSlot as M).1 (fn_X6_endSlot as M).2) : G 0 (inL as ++ List.replicate (6 - (inL as).length) none) [] M := by
  obtain ⟨g, k, rfl, hPL⟩ := hp
  have hk : kof k = 8 := ho (.inr (.inr (8, k))) (by simp)
  have hl := lnU hk
  obtain ⟨N, hN, eN⟩ := hPL.1
  have en : nU M = N := by unfold nU; rw [eN]; exact nI_clamp (by omega)
  simp only [fn_X6_endSlot, endSlot, en] at hQ
  have loop : ∀ (n i : Nat) (t : Int32) (M : mM), i + n = N → M.1 4 2 = nI N → Q (some (.inl (esF k (itr (esS k) i n (t, M))).1)) (esF k (itr (esS k) i n (t, M))).2 → G 4 [some (.inr (.inr (6, g))), some (.inr (.inr (8, k))), some (.inl t), some (.inl (nI i)), none, none] [] M := by
    intro n
    induction n with
    | zero =>
      intro i t M hi eN hq
      obtain rfl : i = N := by omega
      (apply h4; simp only [BX6_endSlot_4, s_mth, s_mab, s_at, s_iconst, s_lconst, s_iload, s_lload, s_aload, s_istore, s_lstore, s_astore, s_iinc, s_bin, s_binG, s_un, s_lbin, s_lbinG, s_lsh, s_lcmp, s_i2l, s_l2i, s_dup, s_dup2, s_pop, s_if, s_icmp, s_geti, s_getl, s_getr, s_puti, s_putz, s_putl, s_iald, s_zald, s_iast, s_zast, s_aaldS, s_aaldU, s_gets, s_tald, s_tsw, tsw, s_iret, s_zret, s_lret, s_aret, s_vret, s_callV, s_callS, c1, nl1, keepL, csum, pushR, inL, List.getD_cons_zero, List.getD_cons_succ, List.set_cons_zero, List.set_cons_succ, List.cons_append, List.nil_append, List.append_nil, List.replicate, List.length_cons, List.length_nil, List.take_succ_cons, List.take_zero, List.drop_succ_cons, List.drop_zero, List.reverse_cons, List.reverse_nil, true_and, and_true, forall_const, not_true_eq_false, not_false_eq_true, false_implies, true_implies, implies_true, one0, m10, Nat.reduceAdd, Nat.reduceSub, Nat.reduceLeDiff, Nat.zero_add, Nat.add_zero, fn_X10_waiting])
      rw [eN]
      refine ⟨fun _ => ?_, fun h => absurd (nI_le (Nat.le_refl i) (by omega)) h⟩
      (apply h134; simp only [BX6_endSlot_134, s_mth, s_mab, s_at, s_iconst, s_lconst, s_iload, s_lload, s_aload, s_istore, s_lstore, s_astore, s_iinc, s_bin, s_binG, s_un, s_lbin, s_lbinG, s_lsh, s_lcmp, s_i2l, s_l2i, s_dup, s_dup2, s_pop, s_if, s_icmp, s_geti, s_getl, s_getr, s_puti, s_putz, s_putl, s_iald, s_zald, s_iast, s_zast, s_aaldS, s_aaldU, s_gets, s_tald, s_tsw, tsw, s_iret, s_zret, s_lret, s_aret, s_vret, s_callV, s_callS, c1, nl1, keepL, csum, pushR, inL, List.getD_cons_zero, List.getD_cons_succ, List.set_cons_zero, List.set_cons_succ, List.cons_append, List.nil_append, List.append_nil, List.replicate, List.length_cons, List.length_nil, List.take_succ_cons, List.take_zero, List.drop_succ_cons, List.drop_zero, List.reverse_cons, List.reverse_nil, true_and, and_true, forall_const, not_true_eq_false, not_false_eq_true, false_implies, true_implies, implies_true, one0, m10, Nat.reduceAdd, Nat.reduceSub, Nat.reduceLeDiff, Nat.zero_add, Nat.add_zero, fn_X10_waiting])
      exact hq
    | succ n ih =>
      intro i t M hi eN hq
      have ei : (nI i).toNatClampNeg = i := nI_clamp (by omega)
      have hv : vp_in (nI i) 5 := vp_in_nI (by omega) (by decide)
      have huk := kU hk (show i < 5 by omega)
      have L96 : ∀ r : Int32, r = rst (esA M (k + 1 + 1 + i) i) (k + 1 + 1 + i) i → G 96 [some (.inr (.inr (6, g))), some (.inr (.inr (8, k))), some (.inl t), some (.inl (nI i)), some (.inr (.inr (10, k + 1 + 1 + i))), none] [.inl r] (esA M (k + 1 + 1 + i) i) := by
        intro r er
        have L116 : ∀ w : Int32, w = (if rst (esA M (k + 1 + 1 + i) i) (k + 1 + 1 + i) i = 0 then (esA M (k + 1 + 1 + i) i).1 (k + 1 + 1 + i) 7 + 1 else 0) → G 116 [some (.inr (.inr (6, g))), some (.inr (.inr (8, k))), some (.inl t), some (.inl (nI i)), none, none] [.inl w, .inr (.inr (10, k + 1 + 1 + i))] (esA M (k + 1 + 1 + i) i) := by
          intro w ew
          subst ew
          (apply h116; simp only [BX6_endSlot_116, s_mth, s_mab, s_at, s_iconst, s_lconst, s_iload, s_lload, s_aload, s_istore, s_lstore, s_astore, s_iinc, s_bin, s_binG, s_un, s_lbin, s_lbinG, s_lsh, s_lcmp, s_i2l, s_l2i, s_dup, s_dup2, s_pop, s_if, s_icmp, s_geti, s_getl, s_getr, s_puti, s_putz, s_putl, s_iald, s_zald, s_iast, s_zast, s_aaldS, s_aaldU, s_gets, s_tald, s_tsw, tsw, s_iret, s_zret, s_lret, s_aret, s_vret, s_callV, s_callS, c1, nl1, keepL, csum, pushR, inL, List.getD_cons_zero, List.getD_cons_succ, List.set_cons_zero, List.set_cons_succ, List.cons_append, List.nil_append, List.append_nil, List.replicate, List.length_cons, List.length_nil, List.take_succ_cons, List.take_zero, List.drop_succ_cons, List.drop_zero, List.reverse_cons, List.reverse_nil, true_and, and_true, forall_const, not_true_eq_false, not_false_eq_true, false_implies, true_implies, implies_true, one0, m10, Nat.reduceAdd, Nat.reduceSub, Nat.reduceLeDiff, Nat.zero_add, Nat.add_zero, fn_X10_waiting])
          simp only [l24, ei]
          refine ⟨hv, ?_⟩
          rw [nI_1]
          exact ih (i + 1) _ _ (by omega) (by rw [← eN]; exact congrFun (p4_es huk) 2) hq
        (apply h96; simp only [BX6_endSlot_96, s_mth, s_mab, s_at, s_iconst, s_lconst, s_iload, s_lload, s_aload, s_istore, s_lstore, s_astore, s_iinc, s_bin, s_binG, s_un, s_lbin, s_lbinG, s_lsh, s_lcmp, s_i2l, s_l2i, s_dup, s_dup2, s_pop, s_if, s_icmp, s_geti, s_getl, s_getr, s_puti, s_putz, s_putl, s_iald, s_zald, s_iast, s_zast, s_aaldS, s_aaldU, s_gets, s_tald, s_tsw, tsw, s_iret, s_zret, s_lret, s_aret, s_vret, s_callV, s_callS, c1, nl1, keepL, csum, pushR, inL, List.getD_cons_zero, List.getD_cons_succ, List.set_cons_zero, List.set_cons_succ, List.cons_append, List.nil_append, List.append_nil, List.replicate, List.length_cons, List.length_nil, List.take_succ_cons, List.take_zero, List.drop_succ_cons, List.drop_zero, List.reverse_cons, List.reverse_nil, true_and, and_true, forall_const, not_true_eq_false, not_false_eq_true, false_implies, true_implies, implies_true, one0, m10, Nat.reduceAdd, Nat.reduceSub, Nat.reduceLeDiff, Nat.zero_add, Nat.add_zero, fn_X10_waiting])
        refine ⟨fun h => ?_, fun h => ?_⟩
        · (apply h109; simp only [BX6_endSlot_109, s_mth, s_mab, s_at, s_iconst, s_lconst, s_iload, s_lload, s_aload, s_istore, s_lstore, s_astore, s_iinc, s_bin, s_binG, s_un, s_lbin, s_lbinG, s_lsh, s_lcmp, s_i2l, s_l2i, s_dup, s_dup2, s_pop, s_if, s_icmp, s_geti, s_getl, s_getr, s_puti, s_putz, s_putl, s_iald, s_zald, s_iast, s_zast, s_aaldS, s_aaldU, s_gets, s_tald, s_tsw, tsw, s_iret, s_zret, s_lret, s_aret, s_vret, s_callV, s_callS, c1, nl1, keepL, csum, pushR, inL, List.getD_cons_zero, List.getD_cons_succ, List.set_cons_zero, List.set_cons_succ, List.cons_append, List.nil_append, List.append_nil, List.replicate, List.length_cons, List.length_nil, List.take_succ_cons, List.take_zero, List.drop_succ_cons, List.drop_zero, List.reverse_cons, List.reverse_nil, true_and, and_true, forall_const, not_true_eq_false, not_false_eq_true, false_implies, true_implies, implies_true, one0, m10, Nat.reduceAdd, Nat.reduceSub, Nat.reduceLeDiff, Nat.zero_add, Nat.add_zero, fn_X10_waiting])
          exact L116 _ (by rw [← er, if_pos h])
        · exact L116 _ (by rw [← er, if_neg h])
      have T : rst (esA M (k + 1 + 1 + i) i) (k + 1 + 1 + i) i = 1 → G 91 [some (.inr (.inr (6, g))), some (.inr (.inr (8, k))), some (.inl t), some (.inl (nI i)), some (.inr (.inr (10, k + 1 + 1 + i))), none] [] (esA M (k + 1 + 1 + i) i) := by
        intro h
        (apply h91; simp only [BX6_endSlot_91, s_mth, s_mab, s_at, s_iconst, s_lconst, s_iload, s_lload, s_aload, s_istore, s_lstore, s_astore, s_iinc, s_bin, s_binG, s_un, s_lbin, s_lbinG, s_lsh, s_lcmp, s_i2l, s_l2i, s_dup, s_dup2, s_pop, s_if, s_icmp, s_geti, s_getl, s_getr, s_puti, s_putz, s_putl, s_iald, s_zald, s_iast, s_zast, s_aaldS, s_aaldU, s_gets, s_tald, s_tsw, tsw, s_iret, s_zret, s_lret, s_aret, s_vret, s_callV, s_callS, c1, nl1, keepL, csum, pushR, inL, List.getD_cons_zero, List.getD_cons_succ, List.set_cons_zero, List.set_cons_succ, List.cons_append, List.nil_append, List.append_nil, List.replicate, List.length_cons, List.length_nil, List.take_succ_cons, List.take_zero, List.drop_succ_cons, List.drop_zero, List.reverse_cons, List.reverse_nil, true_and, and_true, forall_const, not_true_eq_false, not_false_eq_true, false_implies, true_implies, implies_true, one0, m10, Nat.reduceAdd, Nat.reduceSub, Nat.reduceLeDiff, Nat.zero_add, Nat.add_zero, fn_X10_waiting])
        exact L96 1 h.symm
      have F : rst (esA M (k + 1 + 1 + i) i) (k + 1 + 1 + i) i = 0 → G 95 [some (.inr (.inr (6, g))), some (.inr (.inr (8, k))), some (.inl t), some (.inl (nI i)), some (.inr (.inr (10, k + 1 + 1 + i))), none] [] (esA M (k + 1 + 1 + i) i) := by
        intro h
        (apply h95; simp only [BX6_endSlot_95, s_mth, s_mab, s_at, s_iconst, s_lconst, s_iload, s_lload, s_aload, s_istore, s_lstore, s_astore, s_iinc, s_bin, s_binG, s_un, s_lbin, s_lbinG, s_lsh, s_lcmp, s_i2l, s_l2i, s_dup, s_dup2, s_pop, s_if, s_icmp, s_geti, s_getl, s_getr, s_puti, s_putz, s_putl, s_iald, s_zald, s_iast, s_zast, s_aaldS, s_aaldU, s_gets, s_tald, s_tsw, tsw, s_iret, s_zret, s_lret, s_aret, s_vret, s_callV, s_callS, c1, nl1, keepL, csum, pushR, inL, List.getD_cons_zero, List.getD_cons_succ, List.set_cons_zero, List.set_cons_succ, List.cons_append, List.nil_append, List.append_nil, List.replicate, List.length_cons, List.length_nil, List.take_succ_cons, List.take_zero, List.drop_succ_cons, List.drop_zero, List.reverse_cons, List.reverse_nil, true_and, and_true, forall_const, not_true_eq_false, not_false_eq_true, false_implies, true_implies, implies_true, one0, m10, Nat.reduceAdd, Nat.reduceSub, Nat.reduceLeDiff, Nat.zero_add, Nat.add_zero, fn_X10_waiting])
        exact L96 0 h.symm
      unfold rst esA at T F
      (apply h4; simp only [BX6_endSlot_4, s_mth, s_mab, s_at, s_iconst, s_lconst, s_iload, s_lload, s_aload, s_istore, s_lstore, s_astore, s_iinc, s_bin, s_binG, s_un, s_lbin, s_lbinG, s_lsh, s_lcmp, s_i2l, s_l2i, s_dup, s_dup2, s_pop, s_if, s_icmp, s_geti, s_getl, s_getr, s_puti, s_putz, s_putl, s_iald, s_zald, s_iast, s_zast, s_aaldS, s_aaldU, s_gets, s_tald, s_tsw, tsw, s_iret, s_zret, s_lret, s_aret, s_vret, s_callV, s_callS, c1, nl1, keepL, csum, pushR, inL, List.getD_cons_zero, List.getD_cons_succ, List.set_cons_zero, List.set_cons_succ, List.cons_append, List.nil_append, List.append_nil, List.replicate, List.length_cons, List.length_nil, List.take_succ_cons, List.take_zero, List.drop_succ_cons, List.drop_zero, List.reverse_cons, List.reverse_nil, true_and, and_true, forall_const, not_true_eq_false, not_false_eq_true, false_implies, true_implies, implies_true, one0, m10, Nat.reduceAdd, Nat.reduceSub, Nat.reduceLeDiff, Nat.zero_add, Nat.add_zero, fn_X10_waiting])
      simp only [eN, hl, ei, l24, l23]
      refine ⟨fun h => absurd h (nI_ge (by omega) (by omega)), fun _ => ⟨hv, hv, hv, fun h => ⟨fun h2 => ⟨⟨_, rfl⟩, fun h3 => ?_, fun h3 => ?_⟩, fun h2 => ?_⟩, fun h => ?_⟩⟩
      · exact T (by rw [if_pos h, if_pos h2, if_pos h3])
      · exact F (by rw [if_pos h, if_pos h2, if_neg h3])
      · exact T (by rw [if_pos h, if_neg h2])
      · exact T (by rw [if_neg h])
  (apply h0; simp only [BX6_endSlot_0, s_mth, s_mab, s_at, s_iconst, s_lconst, s_iload, s_lload, s_aload, s_istore, s_lstore, s_astore, s_iinc, s_bin, s_binG, s_un, s_lbin, s_lbinG, s_lsh, s_lcmp, s_i2l, s_l2i, s_dup, s_dup2, s_pop, s_if, s_icmp, s_geti, s_getl, s_getr, s_puti, s_putz, s_putl, s_iald, s_zald, s_iast, s_zast, s_aaldS, s_aaldU, s_gets, s_tald, s_tsw, tsw, s_iret, s_zret, s_lret, s_aret, s_vret, s_callV, s_callS, c1, nl1, keepL, csum, pushR, inL, List.getD_cons_zero, List.getD_cons_succ, List.set_cons_zero, List.set_cons_succ, List.cons_append, List.nil_append, List.append_nil, List.replicate, List.length_cons, List.length_nil, List.take_succ_cons, List.take_zero, List.drop_succ_cons, List.drop_zero, List.reverse_cons, List.reverse_nil, true_and, and_true, forall_const, not_true_eq_false, not_false_eq_true, false_implies, true_implies, implies_true, one0, m10, Nat.reduceAdd, Nat.reduceSub, Nat.reduceLeDiff, Nat.zero_add, Nat.add_zero, fn_X10_waiting])
  exact loop N 0 0 M (by omega) eN hQ
theorem ct_X6_endSlot (l : Launch) : Con l yX6_endSlot cX6_endSlot 6 (Option.some FieldType.int) 1 pre_X6_endSlot fn_X6_endSlot := con_of (by decide +kernel) ok_X6_endSlot len_X6_endSlot (fun p e s m args below meth c D ca ad A as M hX hr hp ho => pf_X6_endSlot _ _ (bsX6_endSlot_0 hX hr) (bsX6_endSlot_4 hX hr) (bsX6_endSlot_91 hX hr) (bsX6_endSlot_95 hX hr) (bsX6_endSlot_96 hX hr) (bsX6_endSlot_109 hX hr) (bsX6_endSlot_116 hX hr) (bsX6_endSlot_134 hX hr) as M ho hp ⟨rfl, rfl⟩)
def ro3 (k i j : Nat) (M : mM) : mM := mset (mset (send M (k + 1 + 1 + j) (M.1 22 j)).2 24 j (M.1 24 j + (send M (k + 1 + 1 + j) (M.1 22 j)).1)) 23 j (nI i)
def ro2 (k i : Nat) (h : Int32) (M : mM) : mM := if h < 0 then mset M 25 i h else ro3 k i h.toNatClampNeg (mset M 25 i h)
def roS (k : Nat) (f : Int32) (i : Nat) (M : mM) : mM := ro2 k i (if f = 0 then df M k (nI i) else -9) M
theorem send_n {M : mM} {uk a : Nat} {x : Int32} (h : a ≠ uk) : (send M uk x).2.1 a = M.1 a := by
  unfold send send2 sendM
  split <;> (try split) <;> (try split) <;> simp [mset_n h]
theorem p4_ro3 {M : mM} {k i j : Nat} (hk : kof k = 8) (hj : j < 5) : (ro3 k i j M).1 4 = M.1 4 ∧ (ro3 k i j M).1 6 = M.1 6 := by
  unfold ro3
  have h := kU hk hj
  rw [mset_n (by decide), mset_n (by decide), send_n (kne (by rw [h]; decide +kernel)), mset_n (by decide), mset_n (by decide), send_n (kne (by rw [h]; decide +kernel))]
  exact ⟨rfl, rfl⟩
theorem p4_ro2 {M : mM} {k i : Nat} {h : Int32} (hk : kof k = 8) (hh : h < 0 ∨ ∃ j, j < 5 ∧ h = nI j) : (ro2 k i h M).1 4 = M.1 4 ∧ (ro2 k i h M).1 6 = M.1 6 := by
  unfold ro2
  split
  · exact ⟨mset_n (by decide), mset_n (by decide)⟩
  · next hn =>
    rcases hh with hh | ⟨j, hj, rfl⟩
    · exact absurd hh hn
    · rw [nI_clamp (by omega)]
      obtain ⟨a, b⟩ := p4_ro3 (M := mset M 25 i (nI j)) (i := i) hk hj
      exact ⟨a.trans (mset_n (by decide)), b.trans (mset_n (by decide))⟩
theorem PL_of {M M' : mM} (h : PL M) (h4 : M'.1 4 = M.1 4) (h6 : M'.1 6 = M.1 6) : PL M' := by
  unfold PL at h ⊢
  rw [h4, h6]
  exact h
theorem ro_h {M : mM} {k i : Nat} {f : Int32} (hPL : PL M) : (if f = 0 then df M k (nI i) else -9) < 0 ∨ ∃ j, j < 5 ∧ (if f = 0 then df M k (nI i) else -9) = nI j := by
  obtain ⟨N, hN, eN⟩ := hPL.1
  have en : nU M = N := by unfold nU; rw [eN]; exact nI_clamp (by omega)
  split
  · rcases df_rng (M := M) (k := k) (b := nI i) with h | ⟨j, hj, h⟩
    · rw [h]; exact Or.inl (by decide)
    · exact Or.inr ⟨j, by omega, h⟩
  · exact Or.inl (by decide)
theorem p4_roS {M : mM} {k i : Nat} {f : Int32} (hk : kof k = 8) (hPL : PL M) : (roS k f i M).1 4 = M.1 4 ∧ (roS k f i M).1 6 = M.1 6 := p4_ro2 hk (ro_h hPL)
theorem p4_comeIn {M : mM} {k : Nat} (hk : kof k = 8) (hPL : PL M) : (comeIn M k).1 4 = M.1 4 ∧ PL (comeIn M k) := by
  obtain ⟨N, hN, eN⟩ := hPL.1
  have en : nU M = N := by unfold nU; rw [eN]; exact nI_clamp (by omega)
  unfold comeIn
  exact itr_inv (ciS k) (fun M2 => M2.1 4 = M.1 4 ∧ PL M2) (nU M) 0 M (fun j s h1 h2 h => ⟨(p4_ciS hk (by omega)).trans h.1, PL_ciS h.2 hk (by omega)⟩) ⟨rfl, hPL⟩
def nB (M : mM) : Nat := (M.1 4 0).toNatClampNeg
def ro (M : mM) (k : Nat) (f : Int32) : Int32 × mM := endSlot (itr (roS k f) 0 (nB M) (comeIn M k)) k
def pre_X6_runOne (as : List mV) (M : mM) : Prop := ∃ g k f, as = [.inr (.inr (6, g)), .inr (.inr (8, k)), .inl f] ∧ PL M
def fn_X6_runOne : List mV → mM → Option mV × mM
  | [.inr (.inr (_, g)), .inr (.inr (_, k)), .inl f], M => (some (.inl (ro M k f).1), (ro M k f).2)
  | _, M => (none, M)
theorem ok_X6_runOne (as : List mV) (M : mM) (h : pre_X6_runOne as M) (_ : ∀ v ∈ as, okV v) : okR (fn_X6_runOne as M).1 := by
  obtain ⟨g, k, f, rfl, -⟩ := h
  first | trivial | exact (by decide +kernel : kof 14 = 8)
theorem len_X6_runOne (as : List mV) (M : mM) (h : pre_X6_runOne as M) : (inL as).length ≤ 5 := by
  obtain ⟨g, k, f, rfl, -⟩ := h
  exact Nat.le_of_ble_eq_true rfl

theorem fl_52 : FLk "FairBlocks$Scheduler" 36 5 0 0 := ⟨RX5, TX5, 5, rfl, inX5, by decide, w_52, by decide, rfl⟩
theorem dX6_runOne_0 : decode cX6_runOne 0 = .ok (.aload_n 0, 1) := by decide +kernel
theorem dX6_runOne_1 : decode cX6_runOne 1 = .ok (.aload_n 1, 1) := by decide +kernel
theorem dX6_runOne_2 : decode cX6_runOne 2 = .ok (.invokevirtual 32, 3) := by decide +kernel
theorem dX6_runOne_5 : decode cX6_runOne 5 = .ok (.iconst 0, 1) := by decide +kernel
theorem dX6_runOne_6 : decode cX6_runOne 6 = .ok (.istore_n 3, 1) := by decide +kernel
theorem dX6_runOne_7 : decode cX6_runOne 7 = .ok (.iload_n 3, 1) := by decide +kernel
theorem dX6_runOne_8 : decode cX6_runOne 8 = .ok (.aload_n 0, 1) := by decide +kernel
theorem dX6_runOne_9 : decode cX6_runOne 9 = .ok (.getfield 24, 3) := by decide +kernel
theorem dX6_runOne_12 : decode cX6_runOne 12 = .ok (.getfield 36, 3) := by decide +kernel
theorem dX6_runOne_15 : decode cX6_runOne 15 = .ok (.if_icmp .ge 79, 3) := by decide +kernel
theorem dX6_runOne_18 : decode cX6_runOne 18 = .ok (.iload_n 3, 1) := by decide +kernel
theorem dX6_runOne_19 : decode cX6_runOne 19 = .ok (.iconst 4, 1) := by decide +kernel
theorem dX6_runOne_20 : decode cX6_runOne 20 = .ok (.if_icmp .ge 74, 3) := by decide +kernel
theorem dX6_runOne_23 : decode cX6_runOne 23 = .ok (.iload_n 2, 1) := by decide +kernel
theorem dX6_runOne_24 : decode cX6_runOne 24 = .ok (.ifCond .eq 8, 3) := by decide +kernel
theorem dX6_runOne_27 : decode cX6_runOne 27 = .ok (.bipush (-9), 2) := by decide +kernel
theorem dX6_runOne_29 : decode cX6_runOne 29 = .ok (.goto 9, 3) := by decide +kernel
theorem dX6_runOne_32 : decode cX6_runOne 32 = .ok (.aload_n 0, 1) := by decide +kernel
theorem dX6_runOne_33 : decode cX6_runOne 33 = .ok (.aload_n 1, 1) := by decide +kernel
theorem dX6_runOne_34 : decode cX6_runOne 34 = .ok (.iload_n 3, 1) := by decide +kernel
theorem dX6_runOne_35 : decode cX6_runOne 35 = .ok (.invokevirtual 42, 3) := by decide +kernel
theorem dX6_runOne_38 : decode cX6_runOne 38 = .ok (.istore 4, 2) := by decide +kernel
theorem dX6_runOne_40 : decode cX6_runOne 40 = .ok (.aload_n 0, 1) := by decide +kernel
theorem dX6_runOne_41 : decode cX6_runOne 41 = .ok (.getfield 21, 3) := by decide +kernel
theorem dX6_runOne_44 : decode cX6_runOne 44 = .ok (.iload_n 3, 1) := by decide +kernel
theorem dX6_runOne_45 : decode cX6_runOne 45 = .ok (.iload 4, 2) := by decide +kernel
theorem dX6_runOne_47 : decode cX6_runOne 47 = .ok (.iastore, 1) := by decide +kernel
theorem dX6_runOne_48 : decode cX6_runOne 48 = .ok (.iload 4, 2) := by decide +kernel
theorem dX6_runOne_50 : decode cX6_runOne 50 = .ok (.ifCond .lt 38, 3) := by decide +kernel
theorem dX6_runOne_53 : decode cX6_runOne 53 = .ok (.aload_n 0, 1) := by decide +kernel
theorem dX6_runOne_54 : decode cX6_runOne 54 = .ok (.getfield 18, 3) := by decide +kernel
theorem dX6_runOne_57 : decode cX6_runOne 57 = .ok (.iload 4, 2) := by decide +kernel
theorem dX6_runOne_59 : decode cX6_runOne 59 = .ok (.dup2, 1) := by decide +kernel
theorem dX6_runOne_60 : decode cX6_runOne 60 = .ok (.iaload, 1) := by decide +kernel
theorem dX6_runOne_61 : decode cX6_runOne 61 = .ok (.aload_n 1, 1) := by decide +kernel
theorem dX6_runOne_62 : decode cX6_runOne 62 = .ok (.getfield 46, 3) := by decide +kernel
theorem dX6_runOne_65 : decode cX6_runOne 65 = .ok (.iload 4, 2) := by decide +kernel
theorem dX6_runOne_67 : decode cX6_runOne 67 = .ok (.aaload, 1) := by decide +kernel
theorem dX6_runOne_68 : decode cX6_runOne 68 = .ok (.aload_n 0, 1) := by decide +kernel
theorem dX6_runOne_69 : decode cX6_runOne 69 = .ok (.getfield 9, 3) := by decide +kernel
theorem dX6_runOne_72 : decode cX6_runOne 72 = .ok (.iload 4, 2) := by decide +kernel
theorem dX6_runOne_74 : decode cX6_runOne 74 = .ok (.iaload, 1) := by decide +kernel
theorem dX6_runOne_75 : decode cX6_runOne 75 = .ok (.invokevirtual 52, 3) := by decide +kernel
theorem dX6_runOne_78 : decode cX6_runOne 78 = .ok (.iadd, 1) := by decide +kernel
theorem dX6_runOne_79 : decode cX6_runOne 79 = .ok (.iastore, 1) := by decide +kernel
theorem dX6_runOne_80 : decode cX6_runOne 80 = .ok (.aload_n 0, 1) := by decide +kernel
theorem dX6_runOne_81 : decode cX6_runOne 81 = .ok (.getfield 15, 3) := by decide +kernel
theorem dX6_runOne_84 : decode cX6_runOne 84 = .ok (.iload 4, 2) := by decide +kernel
theorem dX6_runOne_86 : decode cX6_runOne 86 = .ok (.iload_n 3, 1) := by decide +kernel
theorem dX6_runOne_87 : decode cX6_runOne 87 = .ok (.iastore, 1) := by decide +kernel
theorem dX6_runOne_88 : decode cX6_runOne 88 = .ok (.iinc 3 1, 3) := by decide +kernel
theorem dX6_runOne_91 : decode cX6_runOne 91 = .ok (.goto (-84), 3) := by decide +kernel
theorem dX6_runOne_94 : decode cX6_runOne 94 = .ok (.aload_n 0, 1) := by decide +kernel
theorem dX6_runOne_95 : decode cX6_runOne 95 = .ok (.aload_n 1, 1) := by decide +kernel
theorem dX6_runOne_96 : decode cX6_runOne 96 = .ok (.invokevirtual 58, 3) := by decide +kernel
theorem dX6_runOne_99 : decode cX6_runOne 99 = .ok (.ireturn, 1) := by decide +kernel
theorem mk_X6_runOne : MVk yX6_runOne "FairBlocks$Scheduler" cX6_runOne 5 (Option.some FieldType.int) 2 := ⟨w_432, w_430, w_431, w_7, rfl, by decide +kernel, by decide +kernel, by decide +kernel⟩
def BX6_runOne_0 (G : Nat → KT) (Q : Option mV → mM → Prop) : KT := (s_aload 0 (s_aload 1 (s_callV 6 1 pre_X6_comeIn fn_X6_comeIn (s_iconst (0) (s_istore 3 (s_at G 7 [true, true, true, true, false]))))))
set_option maxRecDepth 4000 in
theorem bsX6_runOne_0 {p : Program} {l : Launch} {e : Env} {s : State} {m : MethodId} {args : Array Value} {below : List Frame} {meth : Method} {c : Code} {D : va_G} {ca : Nat → ClassId} {ad : Nat → Nat} {A : Nat → Prop} {Q : Option mV → mM → Prop} (hX : CX p s m args meth c 5 cX6_runOne "FairBlocks$Scheduler" D ca ad A) (hr : meth.sig.returnType = (Option.some FieldType.int)) : ∀ lv st M, BX6_runOne_0 (Gd p l e (rmD 2) s m args below meth c 5 D ca ad A 0 0 (MQ below (QC D ca ad A Q) args s 0 0 A)) Q lv st M → Gd p l e (rmD 2) s m args below meth c 5 D ca ad A 0 0 (MQ below (QC D ca ad A Q) args s 0 0 A) 0 lv st M :=
  (sd_aload_n hX dX6_runOne_0 rfl (sd_aload_n hX dX6_runOne_1 rfl (sd_callV hX (kd := 6) rfl (by decide) (ct_X6_comeIn l) mk_X6_comeIn w_433 ⟨⟨by decide, by decide⟩, by decide, by decide⟩ dX6_runOne_2 (sd_iconst hX dX6_runOne_5 rfl (sd_istore_n hX (by decide) dX6_runOne_6 rfl sd_at)))))
def BX6_runOne_7 (G : Nat → KT) (Q : Option mV → mM → Prop) : KT := (s_iload 3 (s_aload 0 (s_getr 6 5 (fun _ => 4) (s_geti 5 0 (s_icmp (fun x y => y ≤ x) (s_at G 94 [true, true, false, false, false]) (s_iload 3 (s_iconst (4) (s_icmp (fun x y => y ≤ x) (s_at G 94 [true, true, false, false, false]) (s_iload 2 (s_if (fun x => x = 0) (s_at G 32 [true, true, true, true, false]) (s_iconst (-9) (s_at G 38 [true, true, true, true, false]))))))))))))
set_option maxRecDepth 4000 in
theorem bsX6_runOne_7 {p : Program} {l : Launch} {e : Env} {s : State} {m : MethodId} {args : Array Value} {below : List Frame} {meth : Method} {c : Code} {D : va_G} {ca : Nat → ClassId} {ad : Nat → Nat} {A : Nat → Prop} {Q : Option mV → mM → Prop} (hX : CX p s m args meth c 5 cX6_runOne "FairBlocks$Scheduler" D ca ad A) (hr : meth.sig.returnType = (Option.some FieldType.int)) : ∀ lv st M, BX6_runOne_7 (Gd p l e (rmD 2) s m args below meth c 5 D ca ad A 0 0 (MQ below (QC D ca ad A Q) args s 0 0 A)) Q lv st M → Gd p l e (rmD 2) s m args below meth c 5 D ca ad A 0 0 (MQ below (QC D ca ad A Q) args s 0 0 A) 7 lv st M :=
  (sd_iload_n hX dX6_runOne_7 rfl (sd_aload_n hX dX6_runOne_8 rfl (sd_getr hX fl_171 (fun _ => rfl) (fun _ _ _ => by decide +kernel) dX6_runOne_9 (sd_geti hX fl_52 (by decide) dX6_runOne_12 (sd_icmp_ge hX dX6_runOne_15 (by decide) sd_at (sd_iload_n hX dX6_runOne_18 rfl (sd_iconst hX dX6_runOne_19 rfl (sd_icmp_ge hX dX6_runOne_20 (by decide) sd_at (sd_iload_n hX dX6_runOne_23 rfl (sd_if_eq hX dX6_runOne_24 (by decide) sd_at (sd_bipush hX dX6_runOne_27 rfl (sd_goto hX dX6_runOne_29 (by decide) sd_at))))))))))))
def BX6_runOne_32 (G : Nat → KT) (Q : Option mV → mM → Prop) : KT := (s_aload 0 (s_aload 1 (s_iload 3 (s_callV 6 2 pre_X6_dueFor fn_X6_dueFor (s_at G 38 [true, true, true, true, false])))))
set_option maxRecDepth 4000 in
theorem bsX6_runOne_32 {p : Program} {l : Launch} {e : Env} {s : State} {m : MethodId} {args : Array Value} {below : List Frame} {meth : Method} {c : Code} {D : va_G} {ca : Nat → ClassId} {ad : Nat → Nat} {A : Nat → Prop} {Q : Option mV → mM → Prop} (hX : CX p s m args meth c 5 cX6_runOne "FairBlocks$Scheduler" D ca ad A) (hr : meth.sig.returnType = (Option.some FieldType.int)) : ∀ lv st M, BX6_runOne_32 (Gd p l e (rmD 2) s m args below meth c 5 D ca ad A 0 0 (MQ below (QC D ca ad A Q) args s 0 0 A)) Q lv st M → Gd p l e (rmD 2) s m args below meth c 5 D ca ad A 0 0 (MQ below (QC D ca ad A Q) args s 0 0 A) 32 lv st M :=
  (sd_aload_n hX dX6_runOne_32 rfl (sd_aload_n hX dX6_runOne_33 rfl (sd_iload_n hX dX6_runOne_34 rfl (sd_callV hX (kd := 6) rfl (by decide) (ct_X6_dueFor l) mk_X6_dueFor w_442 ⟨⟨by decide, by decide⟩, by decide, by decide⟩ dX6_runOne_35 sd_at))))
def BX6_runOne_38 (G : Nat → KT) (Q : Option mV → mM → Prop) : KT := (s_istore 4 (s_aload 0 (s_getr 6 13 (fun _ => 25) (s_iload 3 (s_iload 4 (s_iast (s_iload 4 (s_if (fun x => x < 0) (s_at G 88 [true, true, true, true, false]) (s_aload 0 (s_getr 6 13 (fun _ => 24) (s_iload 4 (s_dup2 (s_iald (s_aload 1 (s_getr 8 16 (fun k => k + 1) (s_iload 4 (s_aaldU (s_aload 0 (s_getr 6 13 (fun _ => 22) (s_iload 4 (s_iald (s_callV 10 1 pre_X10_send fn_X10_send (s_bin (fun x y => x + y) (s_iast (s_aload 0 (s_getr 6 13 (fun _ => 23) (s_iload 4 (s_iload 3 (s_iast (s_at G 88 [true, true, true, true, false]))))))))))))))))))))))))))))))
set_option maxRecDepth 4000 in
theorem bsX6_runOne_38 {p : Program} {l : Launch} {e : Env} {s : State} {m : MethodId} {args : Array Value} {below : List Frame} {meth : Method} {c : Code} {D : va_G} {ca : Nat → ClassId} {ad : Nat → Nat} {A : Nat → Prop} {Q : Option mV → mM → Prop} (hX : CX p s m args meth c 5 cX6_runOne "FairBlocks$Scheduler" D ca ad A) (hr : meth.sig.returnType = (Option.some FieldType.int)) : ∀ lv st M, BX6_runOne_38 (Gd p l e (rmD 2) s m args below meth c 5 D ca ad A 0 0 (MQ below (QC D ca ad A Q) args s 0 0 A)) Q lv st M → Gd p l e (rmD 2) s m args below meth c 5 D ca ad A 0 0 (MQ below (QC D ca ad A Q) args s 0 0 A) 38 lv st M :=
  (sd_istore hX (by decide) dX6_runOne_38 (sd_aload_n hX dX6_runOne_40 rfl (sd_getr hX fl_175 (fun _ => rfl) (fun _ _ _ => by decide +kernel) dX6_runOne_41 (sd_iload_n hX dX6_runOne_44 rfl (sd_iload hX dX6_runOne_45 (sd_iast hX dX6_runOne_47 (sd_iload hX dX6_runOne_48 (sd_if_lt hX dX6_runOne_50 (by decide) sd_at (sd_aload_n hX dX6_runOne_53 rfl (sd_getr hX fl_174 (fun _ => rfl) (fun _ _ _ => by decide +kernel) dX6_runOne_54 (sd_iload hX dX6_runOne_57 (sd_dup2 hX dX6_runOne_59 (sd_iald hX dX6_runOne_60 (sd_aload_n hX dX6_runOne_61 rfl (sd_getr hX fl_146 (fun _ => rfl) okA dX6_runOne_62 (sd_iload hX dX6_runOne_65 (sd_aaldU hX dX6_runOne_67 (sd_aload_n hX dX6_runOne_68 rfl (sd_getr hX fl_172 (fun _ => rfl) (fun _ _ _ => by decide +kernel) dX6_runOne_69 (sd_iload hX dX6_runOne_72 (sd_iald hX dX6_runOne_74 (sd_callV hX (kd := 10) rfl (by decide) (ct_X10_send l) mk_X10_send w_454 ⟨⟨by decide, by decide⟩, by decide, by decide⟩ dX6_runOne_75 (sd_iadd hX dX6_runOne_78 (sd_iast hX dX6_runOne_79 (sd_aload_n hX dX6_runOne_80 rfl (sd_getr hX fl_173 (fun _ => rfl) (fun _ _ _ => by decide +kernel) dX6_runOne_81 (sd_iload hX dX6_runOne_84 (sd_iload_n hX dX6_runOne_86 rfl (sd_iast hX dX6_runOne_87 sd_at)))))))))))))))))))))))))))))
def BX6_runOne_88 (G : Nat → KT) (Q : Option mV → mM → Prop) : KT := (s_iinc 3 (1) (s_at G 7 [true, true, true, true, false]))
set_option maxRecDepth 4000 in
theorem bsX6_runOne_88 {p : Program} {l : Launch} {e : Env} {s : State} {m : MethodId} {args : Array Value} {below : List Frame} {meth : Method} {c : Code} {D : va_G} {ca : Nat → ClassId} {ad : Nat → Nat} {A : Nat → Prop} {Q : Option mV → mM → Prop} (hX : CX p s m args meth c 5 cX6_runOne "FairBlocks$Scheduler" D ca ad A) (hr : meth.sig.returnType = (Option.some FieldType.int)) : ∀ lv st M, BX6_runOne_88 (Gd p l e (rmD 2) s m args below meth c 5 D ca ad A 0 0 (MQ below (QC D ca ad A Q) args s 0 0 A)) Q lv st M → Gd p l e (rmD 2) s m args below meth c 5 D ca ad A 0 0 (MQ below (QC D ca ad A Q) args s 0 0 A) 88 lv st M :=
  (sd_iinc hX (by decide) dX6_runOne_88 rfl (sd_goto hX dX6_runOne_91 (by decide) sd_at))
def BX6_runOne_94 (G : Nat → KT) (Q : Option mV → mM → Prop) : KT := (s_aload 0 (s_aload 1 (s_callV 6 1 pre_X6_endSlot fn_X6_endSlot (s_iret Q))))
set_option maxRecDepth 4000 in
theorem bsX6_runOne_94 {p : Program} {l : Launch} {e : Env} {s : State} {m : MethodId} {args : Array Value} {below : List Frame} {meth : Method} {c : Code} {D : va_G} {ca : Nat → ClassId} {ad : Nat → Nat} {A : Nat → Prop} {Q : Option mV → mM → Prop} (hX : CX p s m args meth c 5 cX6_runOne "FairBlocks$Scheduler" D ca ad A) (hr : meth.sig.returnType = (Option.some FieldType.int)) : ∀ lv st M, BX6_runOne_94 (Gd p l e (rmD 2) s m args below meth c 5 D ca ad A 0 0 (MQ below (QC D ca ad A Q) args s 0 0 A)) Q lv st M → Gd p l e (rmD 2) s m args below meth c 5 D ca ad A 0 0 (MQ below (QC D ca ad A Q) args s 0 0 A) 94 lv st M :=
  (sd_aload_n hX dX6_runOne_94 rfl (sd_aload_n hX dX6_runOne_95 rfl (sd_callV hX (kd := 6) rfl (by decide) (ct_X6_endSlot l) mk_X6_endSlot w_461 ⟨⟨by decide, by decide⟩, by decide, by decide⟩ dX6_runOne_96 (sd_iret hX hr dX6_runOne_99))))
set_option maxHeartbeats 400000 in
theorem pf_X6_runOne (G : Nat → KT) (Q : Option mV → mM → Prop) (h0 : ∀ lv st M, BX6_runOne_0 G Q lv st M → G 0 lv st M) (h7 : ∀ lv st M, BX6_runOne_7 G Q lv st M → G 7 lv st M) (h32 : ∀ lv st M, BX6_runOne_32 G Q lv st M → G 32 lv st M) (h38 : ∀ lv st M, BX6_runOne_38 G Q lv st M → G 38 lv st M) (h88 : ∀ lv st M, BX6_runOne_88 G Q lv st M → G 88 lv st M) (h94 : ∀ lv st M, BX6_runOne_94 G Q lv st M → G 94 lv st M) (as : List mV) (M : mM) (ho : ∀ v ∈ as, okV v) (hp : pre_X6_runOne as M) (hQ : Q (fn_X6_runOne as M).1 (fn_X6_runOne as M).2) : G 0 (inL as ++ List.replicate (5 - (inL as).length) none) [] M := by
  obtain ⟨g, k, f, rfl, hPL⟩ := hp
  have hk : kof k = 8 := ho (.inr (.inr (8, k))) (by simp)
  have hl := lnU hk
  obtain ⟨B, hB, eB⟩ := hPL.2.2
  have en : nB M = B := by unfold nB; rw [eB]; exact nI_clamp (by omega)
  simp only [fn_X6_runOne, ro, en] at hQ
  have loop : ∀ (n i : Nat) (M : mM), i + n = B → PL M → M.1 4 0 = nI B → Q (some (.inl (endSlot (itr (roS k f) i n M) k).1)) (endSlot (itr (roS k f) i n M) k).2 → G 7 [some (.inr (.inr (6, g))), some (.inr (.inr (8, k))), some (.inl f), some (.inl (nI i)), none] [] M := by
    intro n
    induction n with
    | zero =>
      intro i M hi hPL eB hq
      obtain rfl : i = B := by omega
      (apply h7; simp only [BX6_runOne_7, s_mth, s_mab, s_at, s_iconst, s_lconst, s_iload, s_lload, s_aload, s_istore, s_lstore, s_astore, s_iinc, s_bin, s_binG, s_un, s_lbin, s_lbinG, s_lsh, s_lcmp, s_i2l, s_l2i, s_dup, s_dup2, s_pop, s_if, s_icmp, s_geti, s_getl, s_getr, s_puti, s_putz, s_putl, s_iald, s_zald, s_iast, s_zast, s_aaldS, s_aaldU, s_gets, s_tald, s_tsw, tsw, s_iret, s_zret, s_lret, s_aret, s_vret, s_callV, s_callS, c1, nl1, keepL, csum, pushR, inL, List.getD_cons_zero, List.getD_cons_succ, List.set_cons_zero, List.set_cons_succ, List.cons_append, List.nil_append, List.append_nil, List.replicate, List.length_cons, List.length_nil, List.take_succ_cons, List.take_zero, List.drop_succ_cons, List.drop_zero, List.reverse_cons, List.reverse_nil, true_and, and_true, forall_const, not_true_eq_false, not_false_eq_true, false_implies, true_implies, implies_true, one0, m10, Nat.reduceAdd, Nat.reduceSub, Nat.reduceLeDiff, Nat.zero_add, Nat.add_zero, fn_X10_send, fn_X6_comeIn, fn_X6_dueFor, fn_X6_endSlot])
      rw [eB]
      refine ⟨fun _ => ?_, fun h => absurd (nI_le (Nat.le_refl i) (by omega)) h⟩
      (apply h94; simp only [BX6_runOne_94, s_mth, s_mab, s_at, s_iconst, s_lconst, s_iload, s_lload, s_aload, s_istore, s_lstore, s_astore, s_iinc, s_bin, s_binG, s_un, s_lbin, s_lbinG, s_lsh, s_lcmp, s_i2l, s_l2i, s_dup, s_dup2, s_pop, s_if, s_icmp, s_geti, s_getl, s_getr, s_puti, s_putz, s_putl, s_iald, s_zald, s_iast, s_zast, s_aaldS, s_aaldU, s_gets, s_tald, s_tsw, tsw, s_iret, s_zret, s_lret, s_aret, s_vret, s_callV, s_callS, c1, nl1, keepL, csum, pushR, inL, List.getD_cons_zero, List.getD_cons_succ, List.set_cons_zero, List.set_cons_succ, List.cons_append, List.nil_append, List.append_nil, List.replicate, List.length_cons, List.length_nil, List.take_succ_cons, List.take_zero, List.drop_succ_cons, List.drop_zero, List.reverse_cons, List.reverse_nil, true_and, and_true, forall_const, not_true_eq_false, not_false_eq_true, false_implies, true_implies, implies_true, one0, m10, Nat.reduceAdd, Nat.reduceSub, Nat.reduceLeDiff, Nat.zero_add, Nat.add_zero, fn_X10_send, fn_X6_comeIn, fn_X6_dueFor, fn_X6_endSlot])
      exact ⟨⟨_, _, rfl, hPL⟩, hq⟩
    | succ n ih =>
      intro i M hi hPL eB hq
      have ei : (nI i).toNatClampNeg = i := nI_clamp (by omega)
      have hv4 : vp_in (nI i) 4 := vp_in_nI (by omega) (by decide)
      have h4 := p4_roS (i := i) (f := f) hk hPL
      have L88 : G 88 [some (.inr (.inr (6, g))), some (.inr (.inr (8, k))), some (.inl f), some (.inl (nI i)), none] [] (roS k f i M) := by
        (apply h88; simp only [BX6_runOne_88, s_mth, s_mab, s_at, s_iconst, s_lconst, s_iload, s_lload, s_aload, s_istore, s_lstore, s_astore, s_iinc, s_bin, s_binG, s_un, s_lbin, s_lbinG, s_lsh, s_lcmp, s_i2l, s_l2i, s_dup, s_dup2, s_pop, s_if, s_icmp, s_geti, s_getl, s_getr, s_puti, s_putz, s_putl, s_iald, s_zald, s_iast, s_zast, s_aaldS, s_aaldU, s_gets, s_tald, s_tsw, tsw, s_iret, s_zret, s_lret, s_aret, s_vret, s_callV, s_callS, c1, nl1, keepL, csum, pushR, inL, List.getD_cons_zero, List.getD_cons_succ, List.set_cons_zero, List.set_cons_succ, List.cons_append, List.nil_append, List.append_nil, List.replicate, List.length_cons, List.length_nil, List.take_succ_cons, List.take_zero, List.drop_succ_cons, List.drop_zero, List.reverse_cons, List.reverse_nil, true_and, and_true, forall_const, not_true_eq_false, not_false_eq_true, false_implies, true_implies, implies_true, one0, m10, Nat.reduceAdd, Nat.reduceSub, Nat.reduceLeDiff, Nat.zero_add, Nat.add_zero, fn_X10_send, fn_X6_comeIn, fn_X6_dueFor, fn_X6_endSlot])
        rw [nI_1]
        exact ih (i + 1) _ (by omega) (PL_of hPL h4.1 h4.2) (by rw [h4.1]; exact eB) hq
      have L38 : ∀ h : Int32, h = (if f = 0 then df M k (nI i) else -9) → G 38 [some (.inr (.inr (6, g))), some (.inr (.inr (8, k))), some (.inl f), some (.inl (nI i)), none] [.inl h] M := by
        intro h eh
        have hr := ro_h (i := i) (k := k) (f := f) hPL
        rw [← eh] at hr
        unfold roS at L88
        rw [← eh] at L88
        (apply h38; simp only [BX6_runOne_38, s_mth, s_mab, s_at, s_iconst, s_lconst, s_iload, s_lload, s_aload, s_istore, s_lstore, s_astore, s_iinc, s_bin, s_binG, s_un, s_lbin, s_lbinG, s_lsh, s_lcmp, s_i2l, s_l2i, s_dup, s_dup2, s_pop, s_if, s_icmp, s_geti, s_getl, s_getr, s_puti, s_putz, s_putl, s_iald, s_zald, s_iast, s_zast, s_aaldS, s_aaldU, s_gets, s_tald, s_tsw, tsw, s_iret, s_zret, s_lret, s_aret, s_vret, s_callV, s_callS, c1, nl1, keepL, csum, pushR, inL, List.getD_cons_zero, List.getD_cons_succ, List.set_cons_zero, List.set_cons_succ, List.cons_append, List.nil_append, List.append_nil, List.replicate, List.length_cons, List.length_nil, List.take_succ_cons, List.take_zero, List.drop_succ_cons, List.drop_zero, List.reverse_cons, List.reverse_nil, true_and, and_true, forall_const, not_true_eq_false, not_false_eq_true, false_implies, true_implies, implies_true, one0, m10, Nat.reduceAdd, Nat.reduceSub, Nat.reduceLeDiff, Nat.zero_add, Nat.add_zero, fn_X10_send, fn_X6_comeIn, fn_X6_dueFor, fn_X6_endSlot])
        simp only [l25, l24, l22, l23, hl, ei]
        refine ⟨hv4, fun hn => ?_, fun hn => ?_⟩
        · rw [ro2, if_pos hn] at L88
          exact L88
        · obtain ⟨j, hj, e⟩ : ∃ j, j < 5 ∧ h = nI j := by
            rcases hr with g2 | g2
            · exact absurd g2 hn
            · exact g2
          have hv : vp_in h 5 := by rw [e]; exact vp_in_nI hj (by decide)
          rw [ro2, if_neg hn] at L88
          exact ⟨hv, hv, hv, ⟨_, _, rfl⟩, hv, hv, L88⟩
      (apply h7; simp only [BX6_runOne_7, s_mth, s_mab, s_at, s_iconst, s_lconst, s_iload, s_lload, s_aload, s_istore, s_lstore, s_astore, s_iinc, s_bin, s_binG, s_un, s_lbin, s_lbinG, s_lsh, s_lcmp, s_i2l, s_l2i, s_dup, s_dup2, s_pop, s_if, s_icmp, s_geti, s_getl, s_getr, s_puti, s_putz, s_putl, s_iald, s_zald, s_iast, s_zast, s_aaldS, s_aaldU, s_gets, s_tald, s_tsw, tsw, s_iret, s_zret, s_lret, s_aret, s_vret, s_callV, s_callS, c1, nl1, keepL, csum, pushR, inL, List.getD_cons_zero, List.getD_cons_succ, List.set_cons_zero, List.set_cons_succ, List.cons_append, List.nil_append, List.append_nil, List.replicate, List.length_cons, List.length_nil, List.take_succ_cons, List.take_zero, List.drop_succ_cons, List.drop_zero, List.reverse_cons, List.reverse_nil, true_and, and_true, forall_const, not_true_eq_false, not_false_eq_true, false_implies, true_implies, implies_true, one0, m10, Nat.reduceAdd, Nat.reduceSub, Nat.reduceLeDiff, Nat.zero_add, Nat.add_zero, fn_X10_send, fn_X6_comeIn, fn_X6_dueFor, fn_X6_endSlot])
      rw [eB]
      refine ⟨fun h => absurd h (nI_ge (by omega) (by omega)), fun _ => ⟨fun h => absurd h (nI_ge (b := 4) (by omega) (by decide)), fun _ => ⟨fun h => ?_, fun h => ?_⟩⟩⟩
      · (apply h32; simp only [BX6_runOne_32, s_mth, s_mab, s_at, s_iconst, s_lconst, s_iload, s_lload, s_aload, s_istore, s_lstore, s_astore, s_iinc, s_bin, s_binG, s_un, s_lbin, s_lbinG, s_lsh, s_lcmp, s_i2l, s_l2i, s_dup, s_dup2, s_pop, s_if, s_icmp, s_geti, s_getl, s_getr, s_puti, s_putz, s_putl, s_iald, s_zald, s_iast, s_zast, s_aaldS, s_aaldU, s_gets, s_tald, s_tsw, tsw, s_iret, s_zret, s_lret, s_aret, s_vret, s_callV, s_callS, c1, nl1, keepL, csum, pushR, inL, List.getD_cons_zero, List.getD_cons_succ, List.set_cons_zero, List.set_cons_succ, List.cons_append, List.nil_append, List.append_nil, List.replicate, List.length_cons, List.length_nil, List.take_succ_cons, List.take_zero, List.drop_succ_cons, List.drop_zero, List.reverse_cons, List.reverse_nil, true_and, and_true, forall_const, not_true_eq_false, not_false_eq_true, false_implies, true_implies, implies_true, one0, m10, Nat.reduceAdd, Nat.reduceSub, Nat.reduceLeDiff, Nat.zero_add, Nat.add_zero, fn_X10_send, fn_X6_comeIn, fn_X6_dueFor, fn_X6_endSlot])
        exact ⟨⟨_, _, _, rfl, hPL⟩, L38 _ (by rw [if_pos h])⟩
      · exact L38 _ (by rw [if_neg h])
  have h2 := p4_comeIn hk hPL
  (apply h0; simp only [BX6_runOne_0, s_mth, s_mab, s_at, s_iconst, s_lconst, s_iload, s_lload, s_aload, s_istore, s_lstore, s_astore, s_iinc, s_bin, s_binG, s_un, s_lbin, s_lbinG, s_lsh, s_lcmp, s_i2l, s_l2i, s_dup, s_dup2, s_pop, s_if, s_icmp, s_geti, s_getl, s_getr, s_puti, s_putz, s_putl, s_iald, s_zald, s_iast, s_zast, s_aaldS, s_aaldU, s_gets, s_tald, s_tsw, tsw, s_iret, s_zret, s_lret, s_aret, s_vret, s_callV, s_callS, c1, nl1, keepL, csum, pushR, inL, List.getD_cons_zero, List.getD_cons_succ, List.set_cons_zero, List.set_cons_succ, List.cons_append, List.nil_append, List.append_nil, List.replicate, List.length_cons, List.length_nil, List.take_succ_cons, List.take_zero, List.drop_succ_cons, List.drop_zero, List.reverse_cons, List.reverse_nil, true_and, and_true, forall_const, not_true_eq_false, not_false_eq_true, false_implies, true_implies, implies_true, one0, m10, Nat.reduceAdd, Nat.reduceSub, Nat.reduceLeDiff, Nat.zero_add, Nat.add_zero, fn_X10_send, fn_X6_comeIn, fn_X6_dueFor, fn_X6_endSlot])
  exact ⟨⟨_, _, rfl, hPL⟩, loop B 0 _ (by omega) h2.2 (by rw [h2.1]; exact eB) hQ⟩
theorem ct_X6_runOne (l : Launch) : Con l yX6_runOne cX6_runOne 5 (Option.some FieldType.int) 2 pre_X6_runOne fn_X6_runOne := con_of (by decide +kernel) ok_X6_runOne len_X6_runOne (fun p e s m args below meth c D ca ad A as M hX hr hp ho => pf_X6_runOne _ _ (bsX6_runOne_0 hX hr) (bsX6_runOne_7 hX hr) (bsX6_runOne_32 hX hr) (bsX6_runOne_38 hX hr) (bsX6_runOne_88 hX hr) (bsX6_runOne_94 hX hr) as M ho hp ⟨rfl, rfl⟩)
def ruS (k : Nat) (_ : Nat) (q : Int32 × mM) : Int32 × mM := (q.1 + (ro q.2 k 0).1, (ro q.2 k 0).2)
def ru (M : mM) (k n : Nat) : Int32 × mM := itr (ruS k) 0 n (0, M)
theorem p4_endSlot {M : mM} {k : Nat} (hk : kof k = 8) (hPL : PL M) : (endSlot M k).2.1 4 = M.1 4 ∧ (endSlot M k).2.1 6 = M.1 6 := by
  obtain ⟨N, hN, eN⟩ := hPL.1
  have en : nU M = N := by unfold nU; rw [eN]; exact nI_clamp (by omega)
  unfold endSlot esF
  have h := itr_inv (esS k) (fun q => q.2.1 4 = M.1 4 ∧ q.2.1 6 = M.1 6) (nU M) 0 (0, M) (fun j q h1 h2 h => by
    have hu := kU hk (show j < 5 by omega)
    unfold esS esB esA
    simp only
    rw [mset_n (kne (by rw [hu]; decide +kernel)), mset_n (kne (by rw [hu]; decide +kernel)), mset_n (kne (by rw [hu]; decide +kernel)), mset_n (kne (by rw [hu]; decide +kernel))]
    exact h) ⟨rfl, rfl⟩
  simp only
  rw [mset_n (kne (by rw [hk]; decide +kernel)), mset_n (kne (by rw [hk]; decide +kernel))]
  exact h
theorem p4_ro {M : mM} {k : Nat} {f : Int32} (hk : kof k = 8) (hPL : PL M) : (ro M k f).2.1 4 = M.1 4 ∧ PL (ro M k f).2 := by
  have h1 := p4_comeIn hk hPL
  have h2 := itr_inv (roS k f) (fun M2 => M2.1 4 = M.1 4 ∧ PL M2) (nB M) 0 (comeIn M k) (fun j s _ _ h => by
    have h4 := p4_roS (i := j) (f := f) hk h.2
    exact ⟨h4.1.trans h.1, PL_of h.2 h4.1 h4.2⟩) h1
  have h3 := p4_endSlot hk h2.2
  exact ⟨h3.1.trans h2.1, PL_of h2.2 h3.1 h3.2⟩
def pre_X6_run (as : List mV) (M : mM) : Prop := ∃ g k x, as = [.inr (.inr (6, g)), .inr (.inr (8, k)), .inl x] ∧ PL M ∧ ∃ n, n < 2 ^ 31 ∧ x = nI n
def fn_X6_run : List mV → mM → Option mV × mM
  | [.inr (.inr (_, g)), .inr (.inr (_, k)), .inl x], M => (some (.inl (ru M k x.toNatClampNeg).1), (ru M k x.toNatClampNeg).2)
  | _, M => (none, M)
theorem ok_X6_run (as : List mV) (M : mM) (h : pre_X6_run as M) (_ : ∀ v ∈ as, okV v) : okR (fn_X6_run as M).1 := by
  obtain ⟨g, k, x, rfl, -⟩ := h
  first | trivial | exact (by decide +kernel : kof 14 = 8)
theorem len_X6_run (as : List mV) (M : mM) (h : pre_X6_run as M) : (inL as).length ≤ 5 := by
  obtain ⟨g, k, x, rfl, -⟩ := h
  exact Nat.le_of_ble_eq_true rfl


theorem dX6_run_0 : decode cX6_run 0 = .ok (.iconst 0, 1) := by decide +kernel
theorem dX6_run_1 : decode cX6_run 1 = .ok (.istore_n 3, 1) := by decide +kernel
theorem dX6_run_2 : decode cX6_run 2 = .ok (.iconst 0, 1) := by decide +kernel
theorem dX6_run_3 : decode cX6_run 3 = .ok (.istore 4, 2) := by decide +kernel
theorem dX6_run_5 : decode cX6_run 5 = .ok (.iload 4, 2) := by decide +kernel
theorem dX6_run_7 : decode cX6_run 7 = .ok (.iload_n 2, 1) := by decide +kernel
theorem dX6_run_8 : decode cX6_run 8 = .ok (.if_icmp .ge 18, 3) := by decide +kernel
theorem dX6_run_11 : decode cX6_run 11 = .ok (.iload_n 3, 1) := by decide +kernel
theorem dX6_run_12 : decode cX6_run 12 = .ok (.aload_n 0, 1) := by decide +kernel
theorem dX6_run_13 : decode cX6_run 13 = .ok (.aload_n 1, 1) := by decide +kernel
theorem dX6_run_14 : decode cX6_run 14 = .ok (.iconst 0, 1) := by decide +kernel
theorem dX6_run_15 : decode cX6_run 15 = .ok (.invokevirtual 28, 3) := by decide +kernel
theorem dX6_run_18 : decode cX6_run 18 = .ok (.iadd, 1) := by decide +kernel
theorem dX6_run_19 : decode cX6_run 19 = .ok (.istore_n 3, 1) := by decide +kernel
theorem dX6_run_20 : decode cX6_run 20 = .ok (.iinc 4 1, 3) := by decide +kernel
theorem dX6_run_23 : decode cX6_run 23 = .ok (.goto (-18), 3) := by decide +kernel
theorem dX6_run_26 : decode cX6_run 26 = .ok (.iload_n 3, 1) := by decide +kernel
theorem dX6_run_27 : decode cX6_run 27 = .ok (.ireturn, 1) := by decide +kernel
theorem mk_X6_run : MVk yX6_run "FairBlocks$Scheduler" cX6_run 5 (Option.some FieldType.int) 2 := ⟨w_428, w_426, w_427, w_7, rfl, by decide +kernel, by decide +kernel, by decide +kernel⟩
def BX6_run_0 (G : Nat → KT) (Q : Option mV → mM → Prop) : KT := (s_iconst (0) (s_istore 3 (s_iconst (0) (s_istore 4 (s_at G 5 [true, true, true, true, true])))))
set_option maxRecDepth 4000 in
theorem bsX6_run_0 {p : Program} {l : Launch} {e : Env} {s : State} {m : MethodId} {args : Array Value} {below : List Frame} {meth : Method} {c : Code} {D : va_G} {ca : Nat → ClassId} {ad : Nat → Nat} {A : Nat → Prop} {Q : Option mV → mM → Prop} (hX : CX p s m args meth c 5 cX6_run "FairBlocks$Scheduler" D ca ad A) (hr : meth.sig.returnType = (Option.some FieldType.int)) : ∀ lv st M, BX6_run_0 (Gd p l e (rmD 3) s m args below meth c 5 D ca ad A 0 0 (MQ below (QC D ca ad A Q) args s 0 0 A)) Q lv st M → Gd p l e (rmD 3) s m args below meth c 5 D ca ad A 0 0 (MQ below (QC D ca ad A Q) args s 0 0 A) 0 lv st M :=
  (sd_iconst hX dX6_run_0 rfl (sd_istore_n hX (by decide) dX6_run_1 rfl (sd_iconst hX dX6_run_2 rfl (sd_istore hX (by decide) dX6_run_3 sd_at))))
def BX6_run_5 (G : Nat → KT) (Q : Option mV → mM → Prop) : KT := (s_iload 4 (s_iload 2 (s_icmp (fun x y => y ≤ x) (s_at G 26 [false, false, false, true, false]) (s_iload 3 (s_aload 0 (s_aload 1 (s_iconst (0) (s_callV 6 2 pre_X6_runOne fn_X6_runOne (s_bin (fun x y => x + y) (s_istore 3 (s_iinc 4 (1) (s_at G 5 [true, true, true, true, true]))))))))))))
set_option maxRecDepth 4000 in
theorem bsX6_run_5 {p : Program} {l : Launch} {e : Env} {s : State} {m : MethodId} {args : Array Value} {below : List Frame} {meth : Method} {c : Code} {D : va_G} {ca : Nat → ClassId} {ad : Nat → Nat} {A : Nat → Prop} {Q : Option mV → mM → Prop} (hX : CX p s m args meth c 5 cX6_run "FairBlocks$Scheduler" D ca ad A) (hr : meth.sig.returnType = (Option.some FieldType.int)) : ∀ lv st M, BX6_run_5 (Gd p l e (rmD 3) s m args below meth c 5 D ca ad A 0 0 (MQ below (QC D ca ad A Q) args s 0 0 A)) Q lv st M → Gd p l e (rmD 3) s m args below meth c 5 D ca ad A 0 0 (MQ below (QC D ca ad A Q) args s 0 0 A) 5 lv st M :=
  (sd_iload hX dX6_run_5 (sd_iload_n hX dX6_run_7 rfl (sd_icmp_ge hX dX6_run_8 (by decide) sd_at (sd_iload_n hX dX6_run_11 rfl (sd_aload_n hX dX6_run_12 rfl (sd_aload_n hX dX6_run_13 rfl (sd_iconst hX dX6_run_14 rfl (sd_callV hX (kd := 6) rfl (by decide) (ct_X6_runOne l) mk_X6_runOne w_429 ⟨⟨by decide, by decide⟩, by decide, by decide⟩ dX6_run_15 (sd_iadd hX dX6_run_18 (sd_istore_n hX (by decide) dX6_run_19 rfl (sd_iinc hX (by decide) dX6_run_20 rfl (sd_goto hX dX6_run_23 (by decide) sd_at))))))))))))
def BX6_run_26 (G : Nat → KT) (Q : Option mV → mM → Prop) : KT := (s_iload 3 (s_iret Q))
set_option maxRecDepth 4000 in
theorem bsX6_run_26 {p : Program} {l : Launch} {e : Env} {s : State} {m : MethodId} {args : Array Value} {below : List Frame} {meth : Method} {c : Code} {D : va_G} {ca : Nat → ClassId} {ad : Nat → Nat} {A : Nat → Prop} {Q : Option mV → mM → Prop} (hX : CX p s m args meth c 5 cX6_run "FairBlocks$Scheduler" D ca ad A) (hr : meth.sig.returnType = (Option.some FieldType.int)) : ∀ lv st M, BX6_run_26 (Gd p l e (rmD 3) s m args below meth c 5 D ca ad A 0 0 (MQ below (QC D ca ad A Q) args s 0 0 A)) Q lv st M → Gd p l e (rmD 3) s m args below meth c 5 D ca ad A 0 0 (MQ below (QC D ca ad A Q) args s 0 0 A) 26 lv st M :=
  (sd_iload_n hX dX6_run_26 rfl (sd_iret hX hr dX6_run_27))
set_option maxHeartbeats 400000 in
theorem pf_X6_run (G : Nat → KT) (Q : Option mV → mM → Prop) (h0 : ∀ lv st M, BX6_run_0 G Q lv st M → G 0 lv st M) (h5 : ∀ lv st M, BX6_run_5 G Q lv st M → G 5 lv st M) (h26 : ∀ lv st M, BX6_run_26 G Q lv st M → G 26 lv st M) (as : List mV) (M : mM) (ho : ∀ v ∈ as, okV v) (hp : pre_X6_run as M) (hQ : Q (fn_X6_run as M).1 (fn_X6_run as M).2) : G 0 (inL as ++ List.replicate (5 - (inL as).length) none) [] M := by
  obtain ⟨g, k, x, rfl, hPL, N, hN, rfl⟩ := hp
  have hk : kof k = 8 := ho (.inr (.inr (8, k))) (by simp)
  simp only [fn_X6_run, ru, nI_clamp hN] at hQ
  have loop : ∀ (n i : Nat) (t : Int32) (M : mM), i + n = N → PL M → Q (some (.inl (itr (ruS k) i n (t, M)).1)) (itr (ruS k) i n (t, M)).2 → G 5 [some (.inr (.inr (6, g))), some (.inr (.inr (8, k))), some (.inl (nI N)), some (.inl t), some (.inl (nI i))] [] M := by
    intro n
    induction n with
    | zero =>
      intro i t M hi hPL hq
      obtain rfl : i = N := by omega
      (apply h5; simp only [BX6_run_5, s_mth, s_mab, s_at, s_iconst, s_lconst, s_iload, s_lload, s_aload, s_istore, s_lstore, s_astore, s_iinc, s_bin, s_binG, s_un, s_lbin, s_lbinG, s_lsh, s_lcmp, s_i2l, s_l2i, s_dup, s_dup2, s_pop, s_if, s_icmp, s_geti, s_getl, s_getr, s_puti, s_putz, s_putl, s_iald, s_zald, s_iast, s_zast, s_aaldS, s_aaldU, s_gets, s_tald, s_tsw, tsw, s_iret, s_zret, s_lret, s_aret, s_vret, s_callV, s_callS, c1, nl1, keepL, csum, pushR, inL, List.getD_cons_zero, List.getD_cons_succ, List.set_cons_zero, List.set_cons_succ, List.cons_append, List.nil_append, List.append_nil, List.replicate, List.length_cons, List.length_nil, List.take_succ_cons, List.take_zero, List.drop_succ_cons, List.drop_zero, List.reverse_cons, List.reverse_nil, true_and, and_true, forall_const, not_true_eq_false, not_false_eq_true, false_implies, true_implies, implies_true, one0, m10, Nat.reduceAdd, Nat.reduceSub, Nat.reduceLeDiff, Nat.zero_add, Nat.add_zero, fn_X6_runOne])
      refine ⟨fun _ => ?_, fun h => absurd (nI_le (Nat.le_refl i) (by omega)) h⟩
      (apply h26; simp only [BX6_run_26, s_mth, s_mab, s_at, s_iconst, s_lconst, s_iload, s_lload, s_aload, s_istore, s_lstore, s_astore, s_iinc, s_bin, s_binG, s_un, s_lbin, s_lbinG, s_lsh, s_lcmp, s_i2l, s_l2i, s_dup, s_dup2, s_pop, s_if, s_icmp, s_geti, s_getl, s_getr, s_puti, s_putz, s_putl, s_iald, s_zald, s_iast, s_zast, s_aaldS, s_aaldU, s_gets, s_tald, s_tsw, tsw, s_iret, s_zret, s_lret, s_aret, s_vret, s_callV, s_callS, c1, nl1, keepL, csum, pushR, inL, List.getD_cons_zero, List.getD_cons_succ, List.set_cons_zero, List.set_cons_succ, List.cons_append, List.nil_append, List.append_nil, List.replicate, List.length_cons, List.length_nil, List.take_succ_cons, List.take_zero, List.drop_succ_cons, List.drop_zero, List.reverse_cons, List.reverse_nil, true_and, and_true, forall_const, not_true_eq_false, not_false_eq_true, false_implies, true_implies, implies_true, one0, m10, Nat.reduceAdd, Nat.reduceSub, Nat.reduceLeDiff, Nat.zero_add, Nat.add_zero, fn_X6_runOne])
      exact hq
    | succ n ih =>
      intro i t M hi hPL hq
      (apply h5; simp only [BX6_run_5, s_mth, s_mab, s_at, s_iconst, s_lconst, s_iload, s_lload, s_aload, s_istore, s_lstore, s_astore, s_iinc, s_bin, s_binG, s_un, s_lbin, s_lbinG, s_lsh, s_lcmp, s_i2l, s_l2i, s_dup, s_dup2, s_pop, s_if, s_icmp, s_geti, s_getl, s_getr, s_puti, s_putz, s_putl, s_iald, s_zald, s_iast, s_zast, s_aaldS, s_aaldU, s_gets, s_tald, s_tsw, tsw, s_iret, s_zret, s_lret, s_aret, s_vret, s_callV, s_callS, c1, nl1, keepL, csum, pushR, inL, List.getD_cons_zero, List.getD_cons_succ, List.set_cons_zero, List.set_cons_succ, List.cons_append, List.nil_append, List.append_nil, List.replicate, List.length_cons, List.length_nil, List.take_succ_cons, List.take_zero, List.drop_succ_cons, List.drop_zero, List.reverse_cons, List.reverse_nil, true_and, and_true, forall_const, not_true_eq_false, not_false_eq_true, false_implies, true_implies, implies_true, one0, m10, Nat.reduceAdd, Nat.reduceSub, Nat.reduceLeDiff, Nat.zero_add, Nat.add_zero, fn_X6_runOne])
      refine ⟨fun h => absurd h (nI_ge (by omega) (by omega)), fun _ => ⟨⟨_, _, _, rfl, hPL⟩, ?_⟩⟩
      rw [nI_1]
      exact ih (i + 1) _ _ (by omega) (p4_ro hk hPL).2 hq
  (apply h0; simp only [BX6_run_0, s_mth, s_mab, s_at, s_iconst, s_lconst, s_iload, s_lload, s_aload, s_istore, s_lstore, s_astore, s_iinc, s_bin, s_binG, s_un, s_lbin, s_lbinG, s_lsh, s_lcmp, s_i2l, s_l2i, s_dup, s_dup2, s_pop, s_if, s_icmp, s_geti, s_getl, s_getr, s_puti, s_putz, s_putl, s_iald, s_zald, s_iast, s_zast, s_aaldS, s_aaldU, s_gets, s_tald, s_tsw, tsw, s_iret, s_zret, s_lret, s_aret, s_vret, s_callV, s_callS, c1, nl1, keepL, csum, pushR, inL, List.getD_cons_zero, List.getD_cons_succ, List.set_cons_zero, List.set_cons_succ, List.cons_append, List.nil_append, List.append_nil, List.replicate, List.length_cons, List.length_nil, List.take_succ_cons, List.take_zero, List.drop_succ_cons, List.drop_zero, List.reverse_cons, List.reverse_nil, true_and, and_true, forall_const, not_true_eq_false, not_false_eq_true, false_implies, true_implies, implies_true, one0, m10, Nat.reduceAdd, Nat.reduceSub, Nat.reduceLeDiff, Nat.zero_add, Nat.add_zero, fn_X6_runOne])
  exact loop N 0 0 M (by omega) hPL hQ
theorem ct_X6_run (l : Launch) : Con l yX6_run cX6_run 5 (Option.some FieldType.int) 3 pre_X6_run fn_X6_run := con_of (by decide +kernel) ok_X6_run len_X6_run (fun p e s m args below meth c D ca ad A as M hX hr hp ho => pf_X6_run _ _ (bsX6_run_0 hX hr) (bsX6_run_5 hX hr) (bsX6_run_26 hX hr) as M ho hp ⟨rfl, rfl⟩)
