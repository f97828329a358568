/-! Chances -/
def pw (b : Int32) (n : Nat) : Int32 := itr (fun _ (p : Int32) => p * b) 0 n 1
def pre_X2_power (as : List mV) (M : mM) : Prop := ∃ b x, as = [.inl b, .inl x]
def fn_X2_power : List mV → mM → Option mV × mM
  | [.inl b, .inl x], M => (some (.inl (pw b x.toNatClampNeg)), M)
  | _, M => (none, M)
theorem ok_X2_power (as : List mV) (M : mM) (h : pre_X2_power as M) (_ : ∀ v ∈ as, okV v) : okR (fn_X2_power as M).1 := by
  obtain ⟨b, x, rfl⟩ := h
  first | trivial | exact (by decide +kernel : kof 14 = 8)
theorem len_X2_power (as : List mV) (M : mM) (h : pre_X2_power as M) : (inL as).length ≤ 4 := by
  obtain ⟨b, x, rfl⟩ := h
  exact Nat.le_of_ble_eq_true rfl


theorem dX2_power_0 : decode cX2_power 0 = .ok (.iconst 1, 1) := by decide +kernel
theorem dX2_power_1 : decode cX2_power 1 = .ok (.istore_n 2, 1) := by decide +kernel
theorem dX2_power_2 : decode cX2_power 2 = .ok (.iconst 0, 1) := by decide +kernel
theorem dX2_power_3 : decode cX2_power 3 = .ok (.istore_n 3, 1) := by decide +kernel
theorem dX2_power_4 : decode cX2_power 4 = .ok (.iload_n 3, 1) := by decide +kernel
theorem dX2_power_5 : decode cX2_power 5 = .ok (.iload_n 1, 1) := by decide +kernel
theorem dX2_power_6 : decode cX2_power 6 = .ok (.if_icmp .ge 13, 3) := by decide +kernel
theorem dX2_power_9 : decode cX2_power 9 = .ok (.iload_n 2, 1) := by decide +kernel
theorem dX2_power_10 : decode cX2_power 10 = .ok (.iload_n 0, 1) := by decide +kernel
theorem dX2_power_11 : decode cX2_power 11 = .ok (.imul, 1) := by decide +kernel
theorem dX2_power_12 : decode cX2_power 12 = .ok (.istore_n 2, 1) := by decide +kernel
theorem dX2_power_13 : decode cX2_power 13 = .ok (.iinc 3 1, 3) := by decide +kernel
theorem dX2_power_16 : decode cX2_power 16 = .ok (.goto (-12), 3) := by decide +kernel
theorem dX2_power_19 : decode cX2_power 19 = .ok (.iload_n 2, 1) := by decide +kernel
theorem dX2_power_20 : decode cX2_power 20 = .ok (.ireturn, 1) := by decide +kernel
theorem mk_X2_power : MSk yX2_power cX2_power 4 (Option.some FieldType.int) 2 := ⟨w_680, w_679, w_12, by decide +kernel, by decide +kernel, by decide +kernel⟩
def BX2_power_0 (G : Nat → KT) (Q : Option mV → mM → Prop) : KT := (s_iconst (1) (s_istore 2 (s_iconst (0) (s_istore 3 (s_at G 4 [true, true, true, true])))))
set_option maxRecDepth 4000 in
theorem bsX2_power_0 {p : Program} {l : Launch} {e : Env} {s : State} {m : MethodId} {args : Array Value} {below : List Frame} {meth : Method} {c : Code} {D : va_G} {ca : Nat → ClassId} {ad : Nat → Nat} {A : Nat → Prop} {Q : Option mV → mM → Prop} (hX : CX p s m args meth c 4 cX2_power "FairBlocks$Chances" D ca ad A) (hr : meth.sig.returnType = (Option.some FieldType.int)) : ∀ lv st M, BX2_power_0 (Gd p l e (rmD 0) s m args below meth c 4 D ca ad A 0 0 (MQ below (QC D ca ad A Q) args s 0 0 A)) Q lv st M → Gd p l e (rmD 0) s m args below meth c 4 D ca ad A 0 0 (MQ below (QC D ca ad A Q) args s 0 0 A) 0 lv st M :=
  (sd_iconst hX dX2_power_0 rfl (sd_istore_n hX (by decide) dX2_power_1 rfl (sd_iconst hX dX2_power_2 rfl (sd_istore_n hX (by decide) dX2_power_3 rfl sd_at))))
def BX2_power_4 (G : Nat → KT) (Q : Option mV → mM → Prop) : KT := (s_iload 3 (s_iload 1 (s_icmp (fun x y => y ≤ x) (s_at G 19 [false, false, true, false]) (s_iload 2 (s_iload 0 (s_bin (fun x y => x * y) (s_istore 2 (s_iinc 3 (1) (s_at G 4 [true, true, true, true])))))))))
set_option maxRecDepth 4000 in
theorem bsX2_power_4 {p : Program} {l : Launch} {e : Env} {s : State} {m : MethodId} {args : Array Value} {below : List Frame} {meth : Method} {c : Code} {D : va_G} {ca : Nat → ClassId} {ad : Nat → Nat} {A : Nat → Prop} {Q : Option mV → mM → Prop} (hX : CX p s m args meth c 4 cX2_power "FairBlocks$Chances" D ca ad A) (hr : meth.sig.returnType = (Option.some FieldType.int)) : ∀ lv st M, BX2_power_4 (Gd p l e (rmD 0) s m args below meth c 4 D ca ad A 0 0 (MQ below (QC D ca ad A Q) args s 0 0 A)) Q lv st M → Gd p l e (rmD 0) s m args below meth c 4 D ca ad A 0 0 (MQ below (QC D ca ad A Q) args s 0 0 A) 4 lv st M :=
  (sd_iload_n hX dX2_power_4 rfl (sd_iload_n hX dX2_power_5 rfl (sd_icmp_ge hX dX2_power_6 (by decide) sd_at (sd_iload_n hX dX2_power_9 rfl (sd_iload_n hX dX2_power_10 rfl (sd_imul hX dX2_power_11 (sd_istore_n hX (by decide) dX2_power_12 rfl (sd_iinc hX (by decide) dX2_power_13 rfl (sd_goto hX dX2_power_16 (by decide) sd_at)))))))))
def BX2_power_19 (G : Nat → KT) (Q : Option mV → mM → Prop) : KT := (s_iload 2 (s_iret Q))
set_option maxRecDepth 4000 in
theorem bsX2_power_19 {p : Program} {l : Launch} {e : Env} {s : State} {m : MethodId} {args : Array Value} {below : List Frame} {meth : Method} {c : Code} {D : va_G} {ca : Nat → ClassId} {ad : Nat → Nat} {A : Nat → Prop} {Q : Option mV → mM → Prop} (hX : CX p s m args meth c 4 cX2_power "FairBlocks$Chances" D ca ad A) (hr : meth.sig.returnType = (Option.some FieldType.int)) : ∀ lv st M, BX2_power_19 (Gd p l e (rmD 0) s m args below meth c 4 D ca ad A 0 0 (MQ below (QC D ca ad A Q) args s 0 0 A)) Q lv st M → Gd p l e (rmD 0) s m args below meth c 4 D ca ad A 0 0 (MQ below (QC D ca ad A Q) args s 0 0 A) 19 lv st M :=
  (sd_iload_n hX dX2_power_19 rfl (sd_iret hX hr dX2_power_20))
set_option maxHeartbeats 400000 in
theorem pf_X2_power (G : Nat → KT) (Q : Option mV → mM → Prop) (h0 : ∀ lv st M, BX2_power_0 G Q lv st M → G 0 lv st M) (h4 : ∀ lv st M, BX2_power_4 G Q lv st M → G 4 lv st M) (h19 : ∀ lv st M, BX2_power_19 G Q lv st M → G 19 lv st M) (as : List mV) (M : mM) (ho : ∀ v ∈ as, okV v) (hp : pre_X2_power as M) (hQ : Q (fn_X2_power as M).1 (fn_X2_power as M).2) : G 0 (inL as ++ List.replicate (4 - (inL as).length) none) [] M := by
  obtain ⟨b, x, rfl⟩ := hp
  simp only [fn_X2_power, pw] at hQ
  by_cases hx : x < 0
  · have e : x.toNatClampNeg = 0 := by
      rw [Int32.lt_iff_toInt_lt] at hx
      simp only [Int32.toInt_zero] at hx
      unfold Int32.toNatClampNeg
      omega
    rw [e] at hQ
    (apply h0; simp only [BX2_power_0, s_mth, s_mab, s_at, s_iconst, s_lconst, s_iload, s_lload, s_aload, s_istore, s_lstore, s_astore, s_iinc, s_bin, s_binG, s_un, s_lbin, s_lbinG, s_lsh, s_lcmp, s_i2l, s_l2i, s_dup, s_dup2, s_pop, s_if, s_icmp, s_geti, s_getl, s_getr, s_puti, s_putz, s_putl, s_iald, s_zald, s_iast, s_zast, s_aaldS, s_aaldU, s_gets, s_tald, s_tsw, tsw, s_iret, s_zret, s_lret, s_aret, s_vret, s_callV, s_callS, c1, nl1, keepL, csum, pushR, inL, List.getD_cons_zero, List.getD_cons_succ, List.set_cons_zero, List.set_cons_succ, List.cons_append, List.nil_append, List.append_nil, List.replicate, List.length_cons, List.length_nil, List.take_succ_cons, List.take_zero, List.drop_succ_cons, List.drop_zero, List.reverse_cons, List.reverse_nil, true_and, and_true, forall_const, not_true_eq_false, not_false_eq_true, false_implies, true_implies, implies_true, one0, m10, Nat.reduceAdd, Nat.reduceSub, Nat.reduceLeDiff, Nat.zero_add, Nat.add_zero])
    (apply h4; simp only [BX2_power_4, s_mth, s_mab, s_at, s_iconst, s_lconst, s_iload, s_lload, s_aload, s_istore, s_lstore, s_astore, s_iinc, s_bin, s_binG, s_un, s_lbin, s_lbinG, s_lsh, s_lcmp, s_i2l, s_l2i, s_dup, s_dup2, s_pop, s_if, s_icmp, s_geti, s_getl, s_getr, s_puti, s_putz, s_putl, s_iald, s_zald, s_iast, s_zast, s_aaldS, s_aaldU, s_gets, s_tald, s_tsw, tsw, s_iret, s_zret, s_lret, s_aret, s_vret, s_callV, s_callS, c1, nl1, keepL, csum, pushR, inL, List.getD_cons_zero, List.getD_cons_succ, List.set_cons_zero, List.set_cons_succ, List.cons_append, List.nil_append, List.append_nil, List.replicate, List.length_cons, List.length_nil, List.take_succ_cons, List.take_zero, List.drop_succ_cons, List.drop_zero, List.reverse_cons, List.reverse_nil, true_and, and_true, forall_const, not_true_eq_false, not_false_eq_true, false_implies, true_implies, implies_true, one0, m10, Nat.reduceAdd, Nat.reduceSub, Nat.reduceLeDiff, Nat.zero_add, Nat.add_zero])
    refine ⟨fun _ => ?_, fun h => absurd (by rw [Int32.lt_iff_toInt_lt] at hx; rw [Int32.le_iff_toInt_le]; omega) h⟩
    (apply h19; simp only [BX2_power_19, s_mth, s_mab, s_at, s_iconst, s_lconst, s_iload, s_lload, s_aload, s_istore, s_lstore, s_astore, s_iinc, s_bin, s_binG, s_un, s_lbin, s_lbinG, s_lsh, s_lcmp, s_i2l, s_l2i, s_dup, s_dup2, s_pop, s_if, s_icmp, s_geti, s_getl, s_getr, s_puti, s_putz, s_putl, s_iald, s_zald, s_iast, s_zast, s_aaldS, s_aaldU, s_gets, s_tald, s_tsw, tsw, s_iret, s_zret, s_lret, s_aret, s_vret, s_callV, s_callS, c1, nl1, keepL, csum, pushR, inL, List.getD_cons_zero, List.getD_cons_succ, List.set_cons_zero, List.set_cons_succ, List.cons_append, List.nil_append, List.append_nil, List.replicate, List.length_cons, List.length_nil, List.take_succ_cons, List.take_zero, List.drop_succ_cons, List.drop_zero, List.reverse_cons, List.reverse_nil, true_and, and_true, forall_const, not_true_eq_false, not_false_eq_true, false_implies, true_implies, implies_true, one0, m10, Nat.reduceAdd, Nat.reduceSub, Nat.reduceLeDiff, Nat.zero_add, Nat.add_zero])
    exact hQ
  · obtain ⟨N, hN, rfl⟩ := nI_of hx
    rw [nI_clamp hN] at hQ
    have loop : ∀ (n i : Nat) (p : Int32), i + n = N → Q (some (.inl (itr (fun _ (p : Int32) => p * b) i n p))) M → G 4 [some (.inl b), some (.inl (nI N)), some (.inl p), some (.inl (nI i))] [] M := by
      intro n
      induction n with
      | zero =>
        intro i p hi hq
        obtain rfl : i = N := by omega
        (apply h4; simp only [BX2_power_4, s_mth, s_mab, s_at, s_iconst, s_lconst, s_iload, s_lload, s_aload, s_istore, s_lstore, s_astore, s_iinc, s_bin, s_binG, s_un, s_lbin, s_lbinG, s_lsh, s_lcmp, s_i2l, s_l2i, s_dup, s_dup2, s_pop, s_if, s_icmp, s_geti, s_getl, s_getr, s_puti, s_putz, s_putl, s_iald, s_zald, s_iast, s_zast, s_aaldS, s_aaldU, s_gets, s_tald, s_tsw, tsw, s_iret, s_zret, s_lret, s_aret, s_vret, s_callV, s_callS, c1, nl1, keepL, csum, pushR, inL, List.getD_cons_zero, List.getD_cons_succ, List.set_cons_zero, List.set_cons_succ, List.cons_append, List.nil_append, List.append_nil, List.replicate, List.length_cons, List.length_nil, List.take_succ_cons, List.take_zero, List.drop_succ_cons, List.drop_zero, List.reverse_cons, List.reverse_nil, true_and, and_true, forall_const, not_true_eq_false, not_false_eq_true, false_implies, true_implies, implies_true, one0, m10, Nat.reduceAdd, Nat.reduceSub, Nat.reduceLeDiff, Nat.zero_add, Nat.add_zero])
        refine ⟨fun _ => ?_, fun h => absurd (nI_le (Nat.le_refl i) (by omega)) h⟩
        (apply h19; simp only [BX2_power_19, s_mth, s_mab, s_at, s_iconst, s_lconst, s_iload, s_lload, s_aload, s_istore, s_lstore, s_astore, s_iinc, s_bin, s_binG, s_un, s_lbin, s_lbinG, s_lsh, s_lcmp, s_i2l, s_l2i, s_dup, s_dup2, s_pop, s_if, s_icmp, s_geti, s_getl, s_getr, s_puti, s_putz, s_putl, s_iald, s_zald, s_iast, s_zast, s_aaldS, s_aaldU, s_gets, s_tald, s_tsw, tsw, s_iret, s_zret, s_lret, s_aret, s_vret, s_callV, s_callS, c1, nl1, keepL, csum, pushR, inL, List.getD_cons_zero, List.getD_cons_succ, List.set_cons_zero, List.set_cons_succ, List.cons_append, List.nil_append, List.append_nil, List.replicate, List.length_cons, List.length_nil, List.take_succ_cons, List.take_zero, List.drop_succ_cons, List.drop_zero, List.reverse_cons, List.reverse_nil, true_and, and_true, forall_const, not_true_eq_false, not_false_eq_true, false_implies, true_implies, implies_true, one0, m10, Nat.reduceAdd, Nat.reduceSub, Nat.reduceLeDiff, Nat.zero_add, Nat.add_zero])
        exact hq
      | succ n ih =>
        intro i p hi hq
        (apply h4; simp only [BX2_power_4, s_mth, s_mab, s_at, s_iconst, s_lconst, s_iload, s_lload, s_aload, s_istore, s_lstore, s_astore, s_iinc, s_bin, s_binG, s_un, s_lbin, s_lbinG, s_lsh, s_lcmp, s_i2l, s_l2i, s_dup, s_dup2, s_pop, s_if, s_icmp, s_geti, s_getl, s_getr, s_puti, s_putz, s_putl, s_iald, s_zald, s_iast, s_zast, s_aaldS, s_aaldU, s_gets, s_tald, s_tsw, tsw, s_iret, s_zret, s_lret, s_aret, s_vret, s_callV, s_callS, c1, nl1, keepL, csum, pushR, inL, List.getD_cons_zero, List.getD_cons_succ, List.set_cons_zero, List.set_cons_succ, List.cons_append, List.nil_append, List.append_nil, List.replicate, List.length_cons, List.length_nil, List.take_succ_cons, List.take_zero, List.drop_succ_cons, List.drop_zero, List.reverse_cons, List.reverse_nil, true_and, and_true, forall_const, not_true_eq_false, not_false_eq_true, false_implies, true_implies, implies_true, one0, m10, Nat.reduceAdd, Nat.reduceSub, Nat.reduceLeDiff, Nat.zero_add, Nat.add_zero])
        refine ⟨fun h => absurd h (nI_ge (by omega) (by omega)), fun _ => ?_⟩
        rw [nI_1]
        exact ih (i + 1) _ (by omega) hq
    (apply h0; simp only [BX2_power_0, s_mth, s_mab, s_at, s_iconst, s_lconst, s_iload, s_lload, s_aload, s_istore, s_lstore, s_astore, s_iinc, s_bin, s_binG, s_un, s_lbin, s_lbinG, s_lsh, s_lcmp, s_i2l, s_l2i, s_dup, s_dup2, s_pop, s_if, s_icmp, s_geti, s_getl, s_getr, s_puti, s_putz, s_putl, s_iald, s_zald, s_iast, s_zast, s_aaldS, s_aaldU, s_gets, s_tald, s_tsw, tsw, s_iret, s_zret, s_lret, s_aret, s_vret, s_callV, s_callS, c1, nl1, keepL, csum, pushR, inL, List.getD_cons_zero, List.getD_cons_succ, List.set_cons_zero, List.set_cons_succ, List.cons_append, List.nil_append, List.append_nil, List.replicate, List.length_cons, List.length_nil, List.take_succ_cons, List.take_zero, List.drop_succ_cons, List.drop_zero, List.reverse_cons, List.reverse_nil, true_and, and_true, forall_const, not_true_eq_false, not_false_eq_true, false_implies, true_implies, implies_true, one0, m10, Nat.reduceAdd, Nat.reduceSub, Nat.reduceLeDiff, Nat.zero_add, Nat.add_zero])
    exact loop N 0 1 (by omega) hQ
theorem ct_X2_power (l : Launch) : Con l yX2_power cX2_power 4 (Option.some FieldType.int) 0 pre_X2_power fn_X2_power := con_of (by decide +kernel) ok_X2_power len_X2_power (fun p e s m args below meth c D ca ad A as M hX hr hp ho => pf_X2_power _ _ (bsX2_power_0 hX hr) (bsX2_power_4 hX hr) (bsX2_power_19 hX hr) as M ho hp ⟨rfl, rfl⟩)
def fac (x : Int32) : Int32 := if wi x 0 5 = 0 then 1 else fcF x.toNatClampNeg
def pre_X2_factorial (as : List mV) (M : mM) : Prop := ∃ x, as = [.inl x]
def fn_X2_factorial : List mV → mM → Option mV × mM
  | [.inl x], M => (some (.inl (fac x)), M)
  | _, M => (none, M)
theorem ok_X2_factorial (as : List mV) (M : mM) (h : pre_X2_factorial as M) (_ : ∀ v ∈ as, okV v) : okR (fn_X2_factorial as M).1 := by
  obtain ⟨x, rfl⟩ := h
  first | trivial | exact (by decide +kernel : kof 14 = 8)
theorem len_X2_factorial (as : List mV) (M : mM) (h : pre_X2_factorial as M) : (inL as).length ≤ 1 := by
  obtain ⟨x, rfl⟩ := h
  exact Nat.le_of_ble_eq_true rfl


theorem dX2_factorial_0 : decode cX2_factorial 0 = .ok (.iload_n 0, 1) := by decide +kernel
theorem dX2_factorial_1 : decode cX2_factorial 1 = .ok (.iconst 0, 1) := by decide +kernel
theorem dX2_factorial_2 : decode cX2_factorial 2 = .ok (.iconst 5, 1) := by decide +kernel
theorem dX2_factorial_3 : decode cX2_factorial 3 = .ok (.invokestatic 91, 3) := by decide +kernel
theorem dX2_factorial_6 : decode cX2_factorial 6 = .ok (.ifCond .eq 11, 3) := by decide +kernel
theorem dX2_factorial_9 : decode cX2_factorial 9 = .ok (.getstatic 94, 3) := by decide +kernel
theorem dX2_factorial_12 : decode cX2_factorial 12 = .ok (.iload_n 0, 1) := by decide +kernel
theorem dX2_factorial_13 : decode cX2_factorial 13 = .ok (.iaload, 1) := by decide +kernel
theorem dX2_factorial_14 : decode cX2_factorial 14 = .ok (.goto 4, 3) := by decide +kernel
theorem dX2_factorial_17 : decode cX2_factorial 17 = .ok (.iconst 1, 1) := by decide +kernel
theorem dX2_factorial_18 : decode cX2_factorial 18 = .ok (.ireturn, 1) := by decide +kernel
theorem mk_X2_factorial : MSk yX2_factorial cX2_factorial 1 (Option.some FieldType.int) 1 := ⟨w_651, w_650, w_12, by decide +kernel, by decide +kernel, by decide +kernel⟩
def BX2_factorial_0 (G : Nat → KT) (Q : Option mV → mM → Prop) : KT := (s_iload 0 (s_iconst (0) (s_iconst (5) (s_callS 3 pre_X11_within fn_X11_within (s_if (fun x => x = 0) (s_at G 17 [false]) (s_gets (s_iload 0 (s_tald (s_at G 18 [false])))))))))
set_option maxRecDepth 4000 in
theorem bsX2_factorial_0 {p : Program} {l : Launch} {e : Env} {s : State} {m : MethodId} {args : Array Value} {below : List Frame} {meth : Method} {c : Code} {D : va_G} {ca : Nat → ClassId} {ad : Nat → Nat} {A : Nat → Prop} {Q : Option mV → mM → Prop} (hX : CX p s m args meth c 1 cX2_factorial "FairBlocks$Chances" D ca ad A) (hr : meth.sig.returnType = (Option.some FieldType.int)) : ∀ lv st M, BX2_factorial_0 (Gd p l e (rmD 1) s m args below meth c 1 D ca ad A 0 0 (MQ below (QC D ca ad A Q) args s 0 0 A)) Q lv st M → Gd p l e (rmD 1) s m args below meth c 1 D ca ad A 0 0 (MQ below (QC D ca ad A Q) args s 0 0 A) 0 lv st M :=
  (sd_iload_n hX dX2_factorial_0 rfl (sd_iconst hX dX2_factorial_1 rfl (sd_iconst hX dX2_factorial_2 rfl (sd_callSN hX (ct_X11_within l) mk_X11_within nw_7 ⟨⟨by decide, by decide⟩, by decide, by decide⟩ dX2_factorial_3 (sd_if_eq hX dX2_factorial_6 (by decide) sd_at (sd_gets hX nw_8 dX2_factorial_9 (sd_iload_n hX dX2_factorial_12 rfl (sd_tald hX dX2_factorial_13 (sd_goto hX dX2_factorial_14 (by decide) sd_at)))))))))
def BX2_factorial_17 (G : Nat → KT) (Q : Option mV → mM → Prop) : KT := (s_iconst (1) (s_at G 18 [false]))
set_option maxRecDepth 4000 in
theorem bsX2_factorial_17 {p : Program} {l : Launch} {e : Env} {s : State} {m : MethodId} {args : Array Value} {below : List Frame} {meth : Method} {c : Code} {D : va_G} {ca : Nat → ClassId} {ad : Nat → Nat} {A : Nat → Prop} {Q : Option mV → mM → Prop} (hX : CX p s m args meth c 1 cX2_factorial "FairBlocks$Chances" D ca ad A) (hr : meth.sig.returnType = (Option.some FieldType.int)) : ∀ lv st M, BX2_factorial_17 (Gd p l e (rmD 1) s m args below meth c 1 D ca ad A 0 0 (MQ below (QC D ca ad A Q) args s 0 0 A)) Q lv st M → Gd p l e (rmD 1) s m args below meth c 1 D ca ad A 0 0 (MQ below (QC D ca ad A Q) args s 0 0 A) 17 lv st M :=
  (sd_iconst hX dX2_factorial_17 rfl sd_at)
def BX2_factorial_18 (G : Nat → KT) (Q : Option mV → mM → Prop) : KT := (s_iret Q)
set_option maxRecDepth 4000 in
theorem bsX2_factorial_18 {p : Program} {l : Launch} {e : Env} {s : State} {m : MethodId} {args : Array Value} {below : List Frame} {meth : Method} {c : Code} {D : va_G} {ca : Nat → ClassId} {ad : Nat → Nat} {A : Nat → Prop} {Q : Option mV → mM → Prop} (hX : CX p s m args meth c 1 cX2_factorial "FairBlocks$Chances" D ca ad A) (hr : meth.sig.returnType = (Option.some FieldType.int)) : ∀ lv st M, BX2_factorial_18 (Gd p l e (rmD 1) s m args below meth c 1 D ca ad A 0 0 (MQ below (QC D ca ad A Q) args s 0 0 A)) Q lv st M → Gd p l e (rmD 1) s m args below meth c 1 D ca ad A 0 0 (MQ below (QC D ca ad A Q) args s 0 0 A) 18 lv st M :=
  sd_iret hX hr dX2_factorial_18
set_option maxHeartbeats 400000 in
theorem pf_X2_factorial (G : Nat → KT) (Q : Option mV → mM → Prop) (h0 : ∀ lv st M, BX2_factorial_0 G Q lv st M → G 0 lv st M) (h17 : ∀ lv st M, BX2_factorial_17 G Q lv st M → G 17 lv st M) (h18 : ∀ lv st M, BX2_factorial_18 G Q lv st M → G 18 lv st M) (as : List mV) (M : mM) (ho : ∀ v ∈ as, okV v) (hp : pre_X2_factorial as M) (hQ : Q (fn_X2_factorial as M).1 (fn_X2_factorial as M).2) : G 0 (inL as ++ List.replicate (1 - (inL as).length) none) [] M := by
  obtain ⟨x, rfl⟩ := hp
  simp only [fn_X2_factorial, fac] at hQ
  (apply h0; simp only [BX2_factorial_0, s_mth, s_mab, s_at, s_iconst, s_lconst, s_iload, s_lload, s_aload, s_istore, s_lstore, s_astore, s_iinc, s_bin, s_binG, s_un, s_lbin, s_lbinG, s_lsh, s_lcmp, s_i2l, s_l2i, s_dup, s_dup2, s_pop, s_if, s_icmp, s_geti, s_getl, s_getr, s_puti, s_putz, s_putl, s_iald, s_zald, s_iast, s_zast, s_aaldS, s_aaldU, s_gets, s_tald, s_tsw, tsw, s_iret, s_zret, s_lret, s_aret, s_vret, s_callV, s_callS, c1, nl1, keepL, csum, pushR, inL, List.getD_cons_zero, List.getD_cons_succ, List.set_cons_zero, List.set_cons_succ, List.cons_append, List.nil_append, List.append_nil, List.replicate, List.length_cons, List.length_nil, List.take_succ_cons, List.take_zero, List.drop_succ_cons, List.drop_zero, List.reverse_cons, List.reverse_nil, true_and, and_true, forall_const, not_true_eq_false, not_false_eq_true, false_implies, true_implies, implies_true, one0, m10, Nat.reduceAdd, Nat.reduceSub, Nat.reduceLeDiff, Nat.zero_add, Nat.add_zero, fn_X11_within])
  refine ⟨⟨_, _, _, rfl⟩, fun h => ?_, fun h => ⟨?_, ?_⟩⟩
  · (apply h17; simp only [BX2_factorial_17, s_mth, s_mab, s_at, s_iconst, s_lconst, s_iload, s_lload, s_aload, s_istore, s_lstore, s_astore, s_iinc, s_bin, s_binG, s_un, s_lbin, s_lbinG, s_lsh, s_lcmp, s_i2l, s_l2i, s_dup, s_dup2, s_pop, s_if, s_icmp, s_geti, s_getl, s_getr, s_puti, s_putz, s_putl, s_iald, s_zald, s_iast, s_zast, s_aaldS, s_aaldU, s_gets, s_tald, s_tsw, tsw, s_iret, s_zret, s_lret, s_aret, s_vret, s_callV, s_callS, c1, nl1, keepL, csum, pushR, inL, List.getD_cons_zero, List.getD_cons_succ, List.set_cons_zero, List.set_cons_succ, List.cons_append, List.nil_append, List.append_nil, List.replicate, List.length_cons, List.length_nil, List.take_succ_cons, List.take_zero, List.drop_succ_cons, List.drop_zero, List.reverse_cons, List.reverse_nil, true_and, and_true, forall_const, not_true_eq_false, not_false_eq_true, false_implies, true_implies, implies_true, one0, m10, Nat.reduceAdd, Nat.reduceSub, Nat.reduceLeDiff, Nat.zero_add, Nat.add_zero, fn_X11_within])
    (apply h18; simp only [BX2_factorial_18, s_mth, s_mab, s_at, s_iconst, s_lconst, s_iload, s_lload, s_aload, s_istore, s_lstore, s_astore, s_iinc, s_bin, s_binG, s_un, s_lbin, s_lbinG, s_lsh, s_lcmp, s_i2l, s_l2i, s_dup, s_dup2, s_pop, s_if, s_icmp, s_geti, s_getl, s_getr, s_puti, s_putz, s_putl, s_iald, s_zald, s_iast, s_zast, s_aaldS, s_aaldU, s_gets, s_tald, s_tsw, tsw, s_iret, s_zret, s_lret, s_aret, s_vret, s_callV, s_callS, c1, nl1, keepL, csum, pushR, inL, List.getD_cons_zero, List.getD_cons_succ, List.set_cons_zero, List.set_cons_succ, List.cons_append, List.nil_append, List.append_nil, List.replicate, List.length_cons, List.length_nil, List.take_succ_cons, List.take_zero, List.drop_succ_cons, List.drop_zero, List.reverse_cons, List.reverse_nil, true_and, and_true, forall_const, not_true_eq_false, not_false_eq_true, false_implies, true_implies, implies_true, one0, m10, Nat.reduceAdd, Nat.reduceSub, Nat.reduceLeDiff, Nat.zero_add, Nat.add_zero, fn_X11_within])
    rw [if_pos h] at hQ
    exact hQ
  · obtain ⟨j, hj, rfl⟩ := wi_n (c := 5) rfl (by decide) h
    exact vp_in_nI (by omega) (by decide)
  · (apply h18; simp only [BX2_factorial_18, s_mth, s_mab, s_at, s_iconst, s_lconst, s_iload, s_lload, s_aload, s_istore, s_lstore, s_astore, s_iinc, s_bin, s_binG, s_un, s_lbin, s_lbinG, s_lsh, s_lcmp, s_i2l, s_l2i, s_dup, s_dup2, s_pop, s_if, s_icmp, s_geti, s_getl, s_getr, s_puti, s_putz, s_putl, s_iald, s_zald, s_iast, s_zast, s_aaldS, s_aaldU, s_gets, s_tald, s_tsw, tsw, s_iret, s_zret, s_lret, s_aret, s_vret, s_callV, s_callS, c1, nl1, keepL, csum, pushR, inL, List.getD_cons_zero, List.getD_cons_succ, List.set_cons_zero, List.set_cons_succ, List.cons_append, List.nil_append, List.append_nil, List.replicate, List.length_cons, List.length_nil, List.take_succ_cons, List.take_zero, List.drop_succ_cons, List.drop_zero, List.reverse_cons, List.reverse_nil, true_and, and_true, forall_const, not_true_eq_false, not_false_eq_true, false_implies, true_implies, implies_true, one0, m10, Nat.reduceAdd, Nat.reduceSub, Nat.reduceLeDiff, Nat.zero_add, Nat.add_zero, fn_X11_within])
    rw [if_neg h] at hQ
    exact hQ
theorem ct_X2_factorial (l : Launch) : Con l yX2_factorial cX2_factorial 1 (Option.some FieldType.int) 1 pre_X2_factorial fn_X2_factorial := con_of (by decide +kernel) ok_X2_factorial len_X2_factorial (fun p e s m args below meth c D ca ad A as M hX hr hp ho => pf_X2_factorial _ _ (bsX2_factorial_0 hX hr) (bsX2_factorial_17 hX hr) (bsX2_factorial_18 hX hr) as M ho hp ⟨rfl, rfl⟩)
def cd : Nat → Int32 → Int32 → Int32
  | 0, g, _ => g
  | n + 1, g, l => if l = 0 then g else cd n l (rm g l)
def pre_X2_commonDivisor (as : List mV) (M : mM) : Prop := ∃ a b, as = [.inl a, .inl b]
def fn_X2_commonDivisor : List mV → mM → Option mV × mM
  | [.inl a, .inl b], M => (some (.inl (cd 100 a b)), M)
  | _, M => (none, M)
theorem ok_X2_commonDivisor (as : List mV) (M : mM) (h : pre_X2_commonDivisor as M) (_ : ∀ v ∈ as, okV v) : okR (fn_X2_commonDivisor as M).1 := by
  obtain ⟨a, b, rfl⟩ := h
  first | trivial | exact (by decide +kernel : kof 14 = 8)
theorem len_X2_commonDivisor (as : List mV) (M : mM) (h : pre_X2_commonDivisor as M) : (inL as).length ≤ 6 := by
  obtain ⟨a, b, rfl⟩ := h
  exact Nat.le_of_ble_eq_true rfl


theorem dX2_commonDivisor_0 : decode cX2_commonDivisor 0 = .ok (.iload_n 0, 1) := by decide +kernel
theorem dX2_commonDivisor_1 : decode cX2_commonDivisor 1 = .ok (.istore_n 2, 1) := by decide +kernel
theorem dX2_commonDivisor_2 : decode cX2_commonDivisor 2 = .ok (.iload_n 1, 1) := by decide +kernel
theorem dX2_commonDivisor_3 : decode cX2_commonDivisor 3 = .ok (.istore_n 3, 1) := by decide +kernel
theorem dX2_commonDivisor_4 : decode cX2_commonDivisor 4 = .ok (.iconst 0, 1) := by decide +kernel
theorem dX2_commonDivisor_5 : decode cX2_commonDivisor 5 = .ok (.istore 4, 2) := by decide +kernel
theorem dX2_commonDivisor_7 : decode cX2_commonDivisor 7 = .ok (.iload 4, 2) := by decide +kernel
theorem dX2_commonDivisor_9 : decode cX2_commonDivisor 9 = .ok (.bipush 100, 2) := by decide +kernel
theorem dX2_commonDivisor_11 : decode cX2_commonDivisor 11 = .ok (.if_icmp .ge 23, 3) := by decide +kernel
theorem dX2_commonDivisor_14 : decode cX2_commonDivisor 14 = .ok (.iload_n 3, 1) := by decide +kernel
theorem dX2_commonDivisor_15 : decode cX2_commonDivisor 15 = .ok (.ifCond .eq 19, 3) := by decide +kernel
theorem dX2_commonDivisor_18 : decode cX2_commonDivisor 18 = .ok (.iload_n 2, 1) := by decide +kernel
theorem dX2_commonDivisor_19 : decode cX2_commonDivisor 19 = .ok (.iload_n 3, 1) := by decide +kernel
theorem dX2_commonDivisor_20 : decode cX2_commonDivisor 20 = .ok (.irem, 1) := by decide +kernel
theorem dX2_commonDivisor_21 : decode cX2_commonDivisor 21 = .ok (.istore 5, 2) := by decide +kernel
theorem dX2_commonDivisor_23 : decode cX2_commonDivisor 23 = .ok (.iload_n 3, 1) := by decide +kernel
theorem dX2_commonDivisor_24 : decode cX2_commonDivisor 24 = .ok (.istore_n 2, 1) := by decide +kernel
theorem dX2_commonDivisor_25 : decode cX2_commonDivisor 25 = .ok (.iload 5, 2) := by decide +kernel
theorem dX2_commonDivisor_27 : decode cX2_commonDivisor 27 = .ok (.istore_n 3, 1) := by decide +kernel
theorem dX2_commonDivisor_28 : decode cX2_commonDivisor 28 = .ok (.iinc 4 1, 3) := by decide +kernel
theorem dX2_commonDivisor_31 : decode cX2_commonDivisor 31 = .ok (.goto (-24), 3) := by decide +kernel
theorem dX2_commonDivisor_34 : decode cX2_commonDivisor 34 = .ok (.iload_n 2, 1) := by decide +kernel
theorem dX2_commonDivisor_35 : decode cX2_commonDivisor 35 = .ok (.ireturn, 1) := by decide +kernel
theorem mk_X2_commonDivisor : MSk yX2_commonDivisor cX2_commonDivisor 6 (Option.some FieldType.int) 2 := ⟨w_669, w_668, w_12, by decide +kernel, by decide +kernel, by decide +kernel⟩
def BX2_commonDivisor_0 (G : Nat → KT) (Q : Option mV → mM → Prop) : KT := (s_iload 0 (s_istore 2 (s_iload 1 (s_istore 3 (s_iconst (0) (s_istore 4 (s_at G 7 [false, false, true, true, true, false])))))))
set_option maxRecDepth 4000 in
theorem bsX2_commonDivisor_0 {p : Program} {l : Launch} {e : Env} {s : State} {m : MethodId} {args : Array Value} {below : List Frame} {meth : Method} {c : Code} {D : va_G} {ca : Nat → ClassId} {ad : Nat → Nat} {A : Nat → Prop} {Q : Option mV → mM → Prop} (hX : CX p s m args meth c 6 cX2_commonDivisor "FairBlocks$Chances" D ca ad A) (hr : meth.sig.returnType = (Option.some FieldType.int)) : ∀ lv st M, BX2_commonDivisor_0 (Gd p l e (rmD 0) s m args below meth c 6 D ca ad A 0 0 (MQ below (QC D ca ad A Q) args s 0 0 A)) Q lv st M → Gd p l e (rmD 0) s m args below meth c 6 D ca ad A 0 0 (MQ below (QC D ca ad A Q) args s 0 0 A) 0 lv st M :=
  (sd_iload_n hX dX2_commonDivisor_0 rfl (sd_istore_n hX (by decide) dX2_commonDivisor_1 rfl (sd_iload_n hX dX2_commonDivisor_2 rfl (sd_istore_n hX (by decide) dX2_commonDivisor_3 rfl (sd_iconst hX dX2_commonDivisor_4 rfl (sd_istore hX (by decide) dX2_commonDivisor_5 sd_at))))))
def BX2_commonDivisor_7 (G : Nat → KT) (Q : Option mV → mM → Prop) : KT := (s_iload 4 (s_iconst (100) (s_icmp (fun x y => y ≤ x) (s_at G 34 [false, false, true, false, false, false]) (s_iload 3 (s_if (fun x => x = 0) (s_at G 34 [false, false, true, false, false, false]) (s_iload 2 (s_iload 3 (s_binG (fun x y => x - x / y * y) (s_istore 5 (s_iload 3 (s_istore 2 (s_iload 5 (s_istore 3 (s_iinc 4 (1) (s_at G 7 [false, false, true, true, true, false])))))))))))))))
set_option maxRecDepth 4000 in
theorem bsX2_commonDivisor_7 {p : Program} {l : Launch} {e : Env} {s : State} {m : MethodId} {args : Array Value} {below : List Frame} {meth : Method} {c : Code} {D : va_G} {ca : Nat → ClassId} {ad : Nat → Nat} {A : Nat → Prop} {Q : Option mV → mM → Prop} (hX : CX p s m args meth c 6 cX2_commonDivisor "FairBlocks$Chances" D ca ad A) (hr : meth.sig.returnType = (Option.some FieldType.int)) : ∀ lv st M, BX2_commonDivisor_7 (Gd p l e (rmD 0) s m args below meth c 6 D ca ad A 0 0 (MQ below (QC D ca ad A Q) args s 0 0 A)) Q lv st M → Gd p l e (rmD 0) s m args below meth c 6 D ca ad A 0 0 (MQ below (QC D ca ad A Q) args s 0 0 A) 7 lv st M :=
  (sd_iload hX dX2_commonDivisor_7 (sd_bipush hX dX2_commonDivisor_9 rfl (sd_icmp_ge hX dX2_commonDivisor_11 (by decide) sd_at (sd_iload_n hX dX2_commonDivisor_14 rfl (sd_if_eq hX dX2_commonDivisor_15 (by decide) sd_at (sd_iload_n hX dX2_commonDivisor_18 rfl (sd_iload_n hX dX2_commonDivisor_19 rfl (sd_irem hX dX2_commonDivisor_20 (sd_istore hX (by decide) dX2_commonDivisor_21 (sd_iload_n hX dX2_commonDivisor_23 rfl (sd_istore_n hX (by decide) dX2_commonDivisor_24 rfl (sd_iload hX dX2_commonDivisor_25 (sd_istore_n hX (by decide) dX2_commonDivisor_27 rfl (sd_iinc hX (by decide) dX2_commonDivisor_28 rfl (sd_goto hX dX2_commonDivisor_31 (by decide) sd_at)))))))))))))))
def BX2_commonDivisor_34 (G : Nat → KT) (Q : Option mV → mM → Prop) : KT := (s_iload 2 (s_iret Q))
set_option maxRecDepth 4000 in
theorem bsX2_commonDivisor_34 {p : Program} {l : Launch} {e : Env} {s : State} {m : MethodId} {args : Array Value} {below : List Frame} {meth : Method} {c : Code} {D : va_G} {ca : Nat → ClassId} {ad : Nat → Nat} {A : Nat → Prop} {Q : Option mV → mM → Prop} (hX : CX p s m args meth c 6 cX2_commonDivisor "FairBlocks$Chances" D ca ad A) (hr : meth.sig.returnType = (Option.some FieldType.int)) : ∀ lv st M, BX2_commonDivisor_34 (Gd p l e (rmD 0) s m args below meth c 6 D ca ad A 0 0 (MQ below (QC D ca ad A Q) args s 0 0 A)) Q lv st M → Gd p l e (rmD 0) s m args below meth c 6 D ca ad A 0 0 (MQ below (QC D ca ad A Q) args s 0 0 A) 34 lv st M :=
  (sd_iload_n hX dX2_commonDivisor_34 rfl (sd_iret hX hr dX2_commonDivisor_35))
set_option maxHeartbeats 400000 in
theorem pf_X2_commonDivisor (G : Nat → KT) (Q : Option mV → mM → Prop) (h0 : ∀ lv st M, BX2_commonDivisor_0 G Q lv st M → G 0 lv st M) (h7 : ∀ lv st M, BX2_commonDivisor_7 G Q lv st M → G 7 lv st M) (h34 : ∀ lv st M, BX2_commonDivisor_34 G Q lv st M → G 34 lv st M) (as : List mV) (M : mM) (ho : ∀ v ∈ as, okV v) (hp : pre_X2_commonDivisor as M) (hQ : Q (fn_X2_commonDivisor as M).1 (fn_X2_commonDivisor as M).2) : G 0 (inL as ++ List.replicate (6 - (inL as).length) none) [] M := by
  obtain ⟨a, b, rfl⟩ := hp
  simp only [fn_X2_commonDivisor] at hQ
  have loop : ∀ (n i : Nat) (g l : Int32), i + n = 100 → Q (some (.inl (cd n g l))) M → G 7 [none, none, some (.inl g), some (.inl l), some (.inl (nI i)), none] [] M := by
    intro n
    induction n with
    | zero =>
      intro i g l hi hq
      obtain rfl : i = 100 := by omega
      (apply h7; simp only [BX2_commonDivisor_7, s_mth, s_mab, s_at, s_iconst, s_lconst, s_iload, s_lload, s_aload, s_istore, s_lstore, s_astore, s_iinc, s_bin, s_binG, s_un, s_lbin, s_lbinG, s_lsh, s_lcmp, s_i2l, s_l2i, s_dup, s_dup2, s_pop, s_if, s_icmp, s_geti, s_getl, s_getr, s_puti, s_putz, s_putl, s_iald, s_zald, s_iast, s_zast, s_aaldS, s_aaldU, s_gets, s_tald, s_tsw, tsw, s_iret, s_zret, s_lret, s_aret, s_vret, s_callV, s_callS, c1, nl1, keepL, csum, pushR, inL, List.getD_cons_zero, List.getD_cons_succ, List.set_cons_zero, List.set_cons_succ, List.cons_append, List.nil_append, List.append_nil, List.replicate, List.length_cons, List.length_nil, List.take_succ_cons, List.take_zero, List.drop_succ_cons, List.drop_zero, List.reverse_cons, List.reverse_nil, true_and, and_true, forall_const, not_true_eq_false, not_false_eq_true, false_implies, true_implies, implies_true, one0, m10, Nat.reduceAdd, Nat.reduceSub, Nat.reduceLeDiff, Nat.zero_add, Nat.add_zero])
      refine ⟨fun _ => ?_, fun h => absurd (by decide) h⟩
      (apply h34; simp only [BX2_commonDivisor_34, s_mth, s_mab, s_at, s_iconst, s_lconst, s_iload, s_lload, s_aload, s_istore, s_lstore, s_astore, s_iinc, s_bin, s_binG, s_un, s_lbin, s_lbinG, s_lsh, s_lcmp, s_i2l, s_l2i, s_dup, s_dup2, s_pop, s_if, s_icmp, s_geti, s_getl, s_getr, s_puti, s_putz, s_putl, s_iald, s_zald, s_iast, s_zast, s_aaldS, s_aaldU, s_gets, s_tald, s_tsw, tsw, s_iret, s_zret, s_lret, s_aret, s_vret, s_callV, s_callS, c1, nl1, keepL, csum, pushR, inL, List.getD_cons_zero, List.getD_cons_succ, List.set_cons_zero, List.set_cons_succ, List.cons_append, List.nil_append, List.append_nil, List.replicate, List.length_cons, List.length_nil, List.take_succ_cons, List.take_zero, List.drop_succ_cons, List.drop_zero, List.reverse_cons, List.reverse_nil, true_and, and_true, forall_const, not_true_eq_false, not_false_eq_true, false_implies, true_implies, implies_true, one0, m10, Nat.reduceAdd, Nat.reduceSub, Nat.reduceLeDiff, Nat.zero_add, Nat.add_zero])
      exact hq
    | succ n ih =>
      intro i g l hi hq
      (apply h7; simp only [BX2_commonDivisor_7, s_mth, s_mab, s_at, s_iconst, s_lconst, s_iload, s_lload, s_aload, s_istore, s_lstore, s_astore, s_iinc, s_bin, s_binG, s_un, s_lbin, s_lbinG, s_lsh, s_lcmp, s_i2l, s_l2i, s_dup, s_dup2, s_pop, s_if, s_icmp, s_geti, s_getl, s_getr, s_puti, s_putz, s_putl, s_iald, s_zald, s_iast, s_zast, s_aaldS, s_aaldU, s_gets, s_tald, s_tsw, tsw, s_iret, s_zret, s_lret, s_aret, s_vret, s_callV, s_callS, c1, nl1, keepL, csum, pushR, inL, List.getD_cons_zero, List.getD_cons_succ, List.set_cons_zero, List.set_cons_succ, List.cons_append, List.nil_append, List.append_nil, List.replicate, List.length_cons, List.length_nil, List.take_succ_cons, List.take_zero, List.drop_succ_cons, List.drop_zero, List.reverse_cons, List.reverse_nil, true_and, and_true, forall_const, not_true_eq_false, not_false_eq_true, false_implies, true_implies, implies_true, one0, m10, Nat.reduceAdd, Nat.reduceSub, Nat.reduceLeDiff, Nat.zero_add, Nat.add_zero])
      refine ⟨fun h => absurd h (nI_ge (b := 100) (by omega) (by decide)), fun _ => ⟨fun h => ?_, fun h => ⟨h, ?_⟩⟩⟩
      · (apply h34; simp only [BX2_commonDivisor_34, s_mth, s_mab, s_at, s_iconst, s_lconst, s_iload, s_lload, s_aload, s_istore, s_lstore, s_astore, s_iinc, s_bin, s_binG, s_un, s_lbin, s_lbinG, s_lsh, s_lcmp, s_i2l, s_l2i, s_dup, s_dup2, s_pop, s_if, s_icmp, s_geti, s_getl, s_getr, s_puti, s_putz, s_putl, s_iald, s_zald, s_iast, s_zast, s_aaldS, s_aaldU, s_gets, s_tald, s_tsw, tsw, s_iret, s_zret, s_lret, s_aret, s_vret, s_callV, s_callS, c1, nl1, keepL, csum, pushR, inL, List.getD_cons_zero, List.getD_cons_succ, List.set_cons_zero, List.set_cons_succ, List.cons_append, List.nil_append, List.append_nil, List.replicate, List.length_cons, List.length_nil, List.take_succ_cons, List.take_zero, List.drop_succ_cons, List.drop_zero, List.reverse_cons, List.reverse_nil, true_and, and_true, forall_const, not_true_eq_false, not_false_eq_true, false_implies, true_implies, implies_true, one0, m10, Nat.reduceAdd, Nat.reduceSub, Nat.reduceLeDiff, Nat.zero_add, Nat.add_zero])
        rw [cd, if_pos h] at hq
        exact hq
      · rw [cd, if_neg h] at hq
        rw [nI_1]
        exact ih (i + 1) _ _ (by omega) hq
  (apply h0; simp only [BX2_commonDivisor_0, s_mth, s_mab, s_at, s_iconst, s_lconst, s_iload, s_lload, s_aload, s_istore, s_lstore, s_astore, s_iinc, s_bin, s_binG, s_un, s_lbin, s_lbinG, s_lsh, s_lcmp, s_i2l, s_l2i, s_dup, s_dup2, s_pop, s_if, s_icmp, s_geti, s_getl, s_getr, s_puti, s_putz, s_putl, s_iald, s_zald, s_iast, s_zast, s_aaldS, s_aaldU, s_gets, s_tald, s_tsw, tsw, s_iret, s_zret, s_lret, s_aret, s_vret, s_callV, s_callS, c1, nl1, keepL, csum, pushR, inL, List.getD_cons_zero, List.getD_cons_succ, List.set_cons_zero, List.set_cons_succ, List.cons_append, List.nil_append, List.append_nil, List.replicate, List.length_cons, List.length_nil, List.take_succ_cons, List.take_zero, List.drop_succ_cons, List.drop_zero, List.reverse_cons, List.reverse_nil, true_and, and_true, forall_const, not_true_eq_false, not_false_eq_true, false_implies, true_implies, implies_true, one0, m10, Nat.reduceAdd, Nat.reduceSub, Nat.reduceLeDiff, Nat.zero_add, Nat.add_zero])
  exact loop 100 0 a b rfl hQ
theorem ct_X2_commonDivisor (l : Launch) : Con l yX2_commonDivisor cX2_commonDivisor 6 (Option.some FieldType.int) 0 pre_X2_commonDivisor fn_X2_commonDivisor := con_of (by decide +kernel) ok_X2_commonDivisor len_X2_commonDivisor (fun p e s m args below meth c D ca ad A as M hX hr hp ho => pf_X2_commonDivisor _ _ (bsX2_commonDivisor_0 hX hr) (bsX2_commonDivisor_7 hX hr) (bsX2_commonDivisor_34 hX hr) as M ho hp ⟨rfl, rfl⟩)
def fra (a b u : Int32) : Int32 := if 0 < cd 100 (ab a) b then (if u = 0 then b / cd 100 (ab a) b else a / cd 100 (ab a) b) else 0
def pre_X2_fraction (as : List mV) (M : mM) : Prop := ∃ a b u, as = [.inl a, .inl b, .inl u]
def fn_X2_fraction : List mV → mM → Option mV × mM
  | [.inl a, .inl b, .inl u], M => (some (.inl (fra a b u)), M)
  | _, M => (none, M)
theorem ok_X2_fraction (as : List mV) (M : mM) (h : pre_X2_fraction as M) (_ : ∀ v ∈ as, okV v) : okR (fn_X2_fraction as M).1 := by
  obtain ⟨a, b, u, rfl⟩ := h
  first | trivial | exact (by decide +kernel : kof 14 = 8)
theorem len_X2_fraction (as : List mV) (M : mM) (h : pre_X2_fraction as M) : (inL as).length ≤ 4 := by
  obtain ⟨a, b, u, rfl⟩ := h
  exact Nat.le_of_ble_eq_true rfl


theorem dX2_fraction_0 : decode cX2_fraction 0 = .ok (.iload_n 0, 1) := by decide +kernel
theorem dX2_fraction_1 : decode cX2_fraction 1 = .ok (.invokestatic 98, 3) := by decide +kernel
theorem dX2_fraction_4 : decode cX2_fraction 4 = .ok (.iload_n 1, 1) := by decide +kernel
theorem dX2_fraction_5 : decode cX2_fraction 5 = .ok (.invokestatic 103, 3) := by decide +kernel
theorem dX2_fraction_8 : decode cX2_fraction 8 = .ok (.istore_n 3, 1) := by decide +kernel
theorem dX2_fraction_9 : decode cX2_fraction 9 = .ok (.iload_n 3, 1) := by decide +kernel
theorem dX2_fraction_10 : decode cX2_fraction 10 = .ok (.ifCond .gt 5, 3) := by decide +kernel
theorem dX2_fraction_13 : decode cX2_fraction 13 = .ok (.iconst 0, 1) := by decide +kernel
theorem dX2_fraction_14 : decode cX2_fraction 14 = .ok (.ireturn, 1) := by decide +kernel
theorem dX2_fraction_15 : decode cX2_fraction 15 = .ok (.iload_n 2, 1) := by decide +kernel
theorem dX2_fraction_16 : decode cX2_fraction 16 = .ok (.ifCond .eq 9, 3) := by decide +kernel
theorem dX2_fraction_19 : decode cX2_fraction 19 = .ok (.iload_n 0, 1) := by decide +kernel
theorem dX2_fraction_20 : decode cX2_fraction 20 = .ok (.iload_n 3, 1) := by decide +kernel
theorem dX2_fraction_21 : decode cX2_fraction 21 = .ok (.idiv, 1) := by decide +kernel
theorem dX2_fraction_22 : decode cX2_fraction 22 = .ok (.goto 6, 3) := by decide +kernel
theorem dX2_fraction_25 : decode cX2_fraction 25 = .ok (.iload_n 1, 1) := by decide +kernel
theorem dX2_fraction_26 : decode cX2_fraction 26 = .ok (.iload_n 3, 1) := by decide +kernel
theorem dX2_fraction_27 : decode cX2_fraction 27 = .ok (.idiv, 1) := by decide +kernel
theorem dX2_fraction_28 : decode cX2_fraction 28 = .ok (.ireturn, 1) := by decide +kernel
theorem mk_X2_fraction : MSk yX2_fraction cX2_fraction 4 (Option.some FieldType.int) 3 := ⟨w_663, w_662, w_12, by decide +kernel, by decide +kernel, by decide +kernel⟩
def BX2_fraction_0 (G : Nat → KT) (Q : Option mV → mM → Prop) : KT := (s_iload 0 (s_mab (s_iload 1 (s_callS 2 pre_X2_commonDivisor fn_X2_commonDivisor (s_istore 3 (s_iload 3 (s_if (fun x => 0 < x) (s_at G 15 [true, true, true, true]) (s_iconst (0) (s_iret Q)))))))))
set_option maxRecDepth 4000 in
theorem bsX2_fraction_0 {p : Program} {l : Launch} {e : Env} {s : State} {m : MethodId} {args : Array Value} {below : List Frame} {meth : Method} {c : Code} {D : va_G} {ca : Nat → ClassId} {ad : Nat → Nat} {A : Nat → Prop} {Q : Option mV → mM → Prop} (hX : CX p s m args meth c 4 cX2_fraction "FairBlocks$Chances" D ca ad A) (hr : meth.sig.returnType = (Option.some FieldType.int)) : ∀ lv st M, BX2_fraction_0 (Gd p l e (rmD 1) s m args below meth c 4 D ca ad A 0 0 (MQ below (QC D ca ad A Q) args s 0 0 A)) Q lv st M → Gd p l e (rmD 1) s m args below meth c 4 D ca ad A 0 0 (MQ below (QC D ca ad A Q) args s 0 0 A) 0 lv st M :=
  (sd_iload_n hX dX2_fraction_0 rfl (sd_mab hX w_664 w_665 w_14 wm_abs ⟨⟨by decide, by decide⟩, by decide, by decide⟩ dX2_fraction_1 (sd_iload_n hX dX2_fraction_4 rfl (sd_callS hX (ct_X2_commonDivisor l) mk_X2_commonDivisor w_667 ⟨⟨by decide, by decide⟩, by decide, by decide⟩ dX2_fraction_5 (sd_istore_n hX (by decide) dX2_fraction_8 rfl (sd_iload_n hX dX2_fraction_9 rfl (sd_if_gt hX dX2_fraction_10 (by decide) sd_at (sd_iconst hX dX2_fraction_13 rfl (sd_iret hX hr dX2_fraction_14)))))))))
def BX2_fraction_15 (G : Nat → KT) (Q : Option mV → mM → Prop) : KT := (s_iload 2 (s_if (fun x => x = 0) (s_at G 25 [false, true, false, true]) (s_iload 0 (s_iload 3 (s_binG (fun x y => x / y) (s_at G 28 [false, false, false, false]))))))
set_option maxRecDepth 4000 in
theorem bsX2_fraction_15 {p : Program} {l : Launch} {e : Env} {s : State} {m : MethodId} {args : Array Value} {below : List Frame} {meth : Method} {c : Code} {D : va_G} {ca : Nat → ClassId} {ad : Nat → Nat} {A : Nat → Prop} {Q : Option mV → mM → Prop} (hX : CX p s m args meth c 4 cX2_fraction "FairBlocks$Chances" D ca ad A) (hr : meth.sig.returnType = (Option.some FieldType.int)) : ∀ lv st M, BX2_fraction_15 (Gd p l e (rmD 1) s m args below meth c 4 D ca ad A 0 0 (MQ below (QC D ca ad A Q) args s 0 0 A)) Q lv st M → Gd p l e (rmD 1) s m args below meth c 4 D ca ad A 0 0 (MQ below (QC D ca ad A Q) args s 0 0 A) 15 lv st M :=
  (sd_iload_n hX dX2_fraction_15 rfl (sd_if_eq hX dX2_fraction_16 (by decide) sd_at (sd_iload_n hX dX2_fraction_19 rfl (sd_iload_n hX dX2_fraction_20 rfl (sd_idiv hX dX2_fraction_21 (sd_goto hX dX2_fraction_22 (by decide) sd_at))))))
def BX2_fraction_25 (G : Nat → KT) (Q : Option mV → mM → Prop) : KT := (s_iload 1 (s_iload 3 (s_binG (fun x y => x / y) (s_at G 28 [false, false, false, false]))))
set_option maxRecDepth 4000 in
theorem bsX2_fraction_25 {p : Program} {l : Launch} {e : Env} {s : State} {m : MethodId} {args : Array Value} {below : List Frame} {meth : Method} {c : Code} {D : va_G} {ca : Nat → ClassId} {ad : Nat → Nat} {A : Nat → Prop} {Q : Option mV → mM → Prop} (hX : CX p s m args meth c 4 cX2_fraction "FairBlocks$Chances" D ca ad A) (hr : meth.sig.returnType = (Option.some FieldType.int)) : ∀ lv st M, BX2_fraction_25 (Gd p l e (rmD 1) s m args below meth c 4 D ca ad A 0 0 (MQ below (QC D ca ad A Q) args s 0 0 A)) Q lv st M → Gd p l e (rmD 1) s m args below meth c 4 D ca ad A 0 0 (MQ below (QC D ca ad A Q) args s 0 0 A) 25 lv st M :=
  (sd_iload_n hX dX2_fraction_25 rfl (sd_iload_n hX dX2_fraction_26 rfl (sd_idiv hX dX2_fraction_27 sd_at)))
def BX2_fraction_28 (G : Nat → KT) (Q : Option mV → mM → Prop) : KT := (s_iret Q)
set_option maxRecDepth 4000 in
theorem bsX2_fraction_28 {p : Program} {l : Launch} {e : Env} {s : State} {m : MethodId} {args : Array Value} {below : List Frame} {meth : Method} {c : Code} {D : va_G} {ca : Nat → ClassId} {ad : Nat → Nat} {A : Nat → Prop} {Q : Option mV → mM → Prop} (hX : CX p s m args meth c 4 cX2_fraction "FairBlocks$Chances" D ca ad A) (hr : meth.sig.returnType = (Option.some FieldType.int)) : ∀ lv st M, BX2_fraction_28 (Gd p l e (rmD 1) s m args below meth c 4 D ca ad A 0 0 (MQ below (QC D ca ad A Q) args s 0 0 A)) Q lv st M → Gd p l e (rmD 1) s m args below meth c 4 D ca ad A 0 0 (MQ below (QC D ca ad A Q) args s 0 0 A) 28 lv st M :=
  sd_iret hX hr dX2_fraction_28
set_option maxHeartbeats 400000 in
theorem pf_X2_fraction (G : Nat → KT) (Q : Option mV → mM → Prop) (h0 : ∀ lv st M, BX2_fraction_0 G Q lv st M → G 0 lv st M) (h15 : ∀ lv st M, BX2_fraction_15 G Q lv st M → G 15 lv st M) (h25 : ∀ lv st M, BX2_fraction_25 G Q lv st M → G 25 lv st M) (h28 : ∀ lv st M, BX2_fraction_28 G Q lv st M → G 28 lv st M) (as : List mV) (M : mM) (ho : ∀ v ∈ as, okV v) (hp : pre_X2_fraction as M) (hQ : Q (fn_X2_fraction as M).1 (fn_X2_fraction as M).2) : G 0 (inL as ++ List.replicate (4 - (inL as).length) none) [] M := by
  obtain ⟨a, b, u, rfl⟩ := hp
  simp only [fn_X2_fraction, fra] at hQ
  (apply h0; simp only [BX2_fraction_0, s_mth, s_mab, s_at, s_iconst, s_lconst, s_iload, s_lload, s_aload, s_istore, s_lstore, s_astore, s_iinc, s_bin, s_binG, s_un, s_lbin, s_lbinG, s_lsh, s_lcmp, s_i2l, s_l2i, s_dup, s_dup2, s_pop, s_if, s_icmp, s_geti, s_getl, s_getr, s_puti, s_putz, s_putl, s_iald, s_zald, s_iast, s_zast, s_aaldS, s_aaldU, s_gets, s_tald, s_tsw, tsw, s_iret, s_zret, s_lret, s_aret, s_vret, s_callV, s_callS, c1, nl1, keepL, csum, pushR, inL, List.getD_cons_zero, List.getD_cons_succ, List.set_cons_zero, List.set_cons_succ, List.cons_append, List.nil_append, List.append_nil, List.replicate, List.length_cons, List.length_nil, List.take_succ_cons, List.take_zero, List.drop_succ_cons, List.drop_zero, List.reverse_cons, List.reverse_nil, true_and, and_true, forall_const, not_true_eq_false, not_false_eq_true, false_implies, true_implies, implies_true, one0, m10, Nat.reduceAdd, Nat.reduceSub, Nat.reduceLeDiff, Nat.zero_add, Nat.add_zero, fn_X2_commonDivisor])
  refine ⟨⟨_, _, rfl⟩, fun h => ?_, fun h => ?_⟩
  · rw [if_pos h] at hQ
    have hne : ¬ cd 100 (ab a) b = 0 := fun e => by rw [e] at h; exact absurd h (by decide)
    (apply h15; simp only [BX2_fraction_15, s_mth, s_mab, s_at, s_iconst, s_lconst, s_iload, s_lload, s_aload, s_istore, s_lstore, s_astore, s_iinc, s_bin, s_binG, s_un, s_lbin, s_lbinG, s_lsh, s_lcmp, s_i2l, s_l2i, s_dup, s_dup2, s_pop, s_if, s_icmp, s_geti, s_getl, s_getr, s_puti, s_putz, s_putl, s_iald, s_zald, s_iast, s_zast, s_aaldS, s_aaldU, s_gets, s_tald, s_tsw, tsw, s_iret, s_zret, s_lret, s_aret, s_vret, s_callV, s_callS, c1, nl1, keepL, csum, pushR, inL, List.getD_cons_zero, List.getD_cons_succ, List.set_cons_zero, List.set_cons_succ, List.cons_append, List.nil_append, List.append_nil, List.replicate, List.length_cons, List.length_nil, List.take_succ_cons, List.take_zero, List.drop_succ_cons, List.drop_zero, List.reverse_cons, List.reverse_nil, true_and, and_true, forall_const, not_true_eq_false, not_false_eq_true, false_implies, true_implies, implies_true, one0, m10, Nat.reduceAdd, Nat.reduceSub, Nat.reduceLeDiff, Nat.zero_add, Nat.add_zero, fn_X2_commonDivisor])
    refine ⟨fun h2 => ?_, fun h2 => ⟨hne, ?_⟩⟩
    · rw [if_pos h2] at hQ
      (apply h25; simp only [BX2_fraction_25, s_mth, s_mab, s_at, s_iconst, s_lconst, s_iload, s_lload, s_aload, s_istore, s_lstore, s_astore, s_iinc, s_bin, s_binG, s_un, s_lbin, s_lbinG, s_lsh, s_lcmp, s_i2l, s_l2i, s_dup, s_dup2, s_pop, s_if, s_icmp, s_geti, s_getl, s_getr, s_puti, s_putz, s_putl, s_iald, s_zald, s_iast, s_zast, s_aaldS, s_aaldU, s_gets, s_tald, s_tsw, tsw, s_iret, s_zret, s_lret, s_aret, s_vret, s_callV, s_callS, c1, nl1, keepL, csum, pushR, inL, List.getD_cons_zero, List.getD_cons_succ, List.set_cons_zero, List.set_cons_succ, List.cons_append, List.nil_append, List.append_nil, List.replicate, List.length_cons, List.length_nil, List.take_succ_cons, List.take_zero, List.drop_succ_cons, List.drop_zero, List.reverse_cons, List.reverse_nil, true_and, and_true, forall_const, not_true_eq_false, not_false_eq_true, false_implies, true_implies, implies_true, one0, m10, Nat.reduceAdd, Nat.reduceSub, Nat.reduceLeDiff, Nat.zero_add, Nat.add_zero, fn_X2_commonDivisor])
      refine ⟨hne, ?_⟩
      (apply h28; simp only [BX2_fraction_28, s_mth, s_mab, s_at, s_iconst, s_lconst, s_iload, s_lload, s_aload, s_istore, s_lstore, s_astore, s_iinc, s_bin, s_binG, s_un, s_lbin, s_lbinG, s_lsh, s_lcmp, s_i2l, s_l2i, s_dup, s_dup2, s_pop, s_if, s_icmp, s_geti, s_getl, s_getr, s_puti, s_putz, s_putl, s_iald, s_zald, s_iast, s_zast, s_aaldS, s_aaldU, s_gets, s_tald, s_tsw, tsw, s_iret, s_zret, s_lret, s_aret, s_vret, s_callV, s_callS, c1, nl1, keepL, csum, pushR, inL, List.getD_cons_zero, List.getD_cons_succ, List.set_cons_zero, List.set_cons_succ, List.cons_append, List.nil_append, List.append_nil, List.replicate, List.length_cons, List.length_nil, List.take_succ_cons, List.take_zero, List.drop_succ_cons, List.drop_zero, List.reverse_cons, List.reverse_nil, true_and, and_true, forall_const, not_true_eq_false, not_false_eq_true, false_implies, true_implies, implies_true, one0, m10, Nat.reduceAdd, Nat.reduceSub, Nat.reduceLeDiff, Nat.zero_add, Nat.add_zero, fn_X2_commonDivisor])
      exact hQ
    · rw [if_neg h2] at hQ
      (apply h28; simp only [BX2_fraction_28, s_mth, s_mab, s_at, s_iconst, s_lconst, s_iload, s_lload, s_aload, s_istore, s_lstore, s_astore, s_iinc, s_bin, s_binG, s_un, s_lbin, s_lbinG, s_lsh, s_lcmp, s_i2l, s_l2i, s_dup, s_dup2, s_pop, s_if, s_icmp, s_geti, s_getl, s_getr, s_puti, s_putz, s_putl, s_iald, s_zald, s_iast, s_zast, s_aaldS, s_aaldU, s_gets, s_tald, s_tsw, tsw, s_iret, s_zret, s_lret, s_aret, s_vret, s_callV, s_callS, c1, nl1, keepL, csum, pushR, inL, List.getD_cons_zero, List.getD_cons_succ, List.set_cons_zero, List.set_cons_succ, List.cons_append, List.nil_append, List.append_nil, List.replicate, List.length_cons, List.length_nil, List.take_succ_cons, List.take_zero, List.drop_succ_cons, List.drop_zero, List.reverse_cons, List.reverse_nil, true_and, and_true, forall_const, not_true_eq_false, not_false_eq_true, false_implies, true_implies, implies_true, one0, m10, Nat.reduceAdd, Nat.reduceSub, Nat.reduceLeDiff, Nat.zero_add, Nat.add_zero, fn_X2_commonDivisor])
      exact hQ
  · rw [if_neg h] at hQ
    exact hQ
theorem ct_X2_fraction (l : Launch) : Con l yX2_fraction cX2_fraction 4 (Option.some FieldType.int) 1 pre_X2_fraction fn_X2_fraction := con_of (by decide +kernel) ok_X2_fraction len_X2_fraction (fun p e s m args below meth c D ca ad A as M hX hr hp ho => pf_X2_fraction _ _ (bsX2_fraction_0 hX hr) (bsX2_fraction_15 hX hr) (bsX2_fraction_25 hX hr) (bsX2_fraction_28 hX hr) as M ho hp ⟨rfl, rfl⟩)
def gwS (t : Int32) (i : Nat) (M : mM) : mM := mset M (16 + i) 3 (if (t >>> (nI i &&& 31)) &&& 1 = 0 then 1 else 0)
def gwM (M : mM) (t : Int32) : mM := itr (gwS t) 0 (nU M) (stc M 14 7)
def gW (M : mM) (t : Int32) : Int32 × mM := ru (gwM M t) 14 20
theorem GD_gwS {M : mM} {t : Int32} {i : Nat} (hi : i < 5) (h : GD M) : GD (gwS t i M) := GD_u (k := 14) (j := i) k14 hi h (Or.inr (by split <;> simp))
theorem p4_gwS {M : mM} {t : Int32} {i : Nat} : (gwS t i M).1 4 = M.1 4 := mset_n (by omega)
theorem GD_gwM {M : mM} {t : Int32} (h : GD M) : GD (gwM M t) ∧ (gwM M t).1 4 = M.1 4 := by
  have hn := n5 h.2
  exact itr_inv (gwS t) (fun M2 => GD M2 ∧ M2.1 4 = M.1 4) (nU M) 0 _ (fun j s _ h2 h3 => ⟨GD_gwS (by omega) h3.1, p4_gwS.trans h3.2⟩) ⟨GD_stc k14 k7 h, f_stc (by unfold fr; omega)⟩
theorem GD_gW {M : mM} {t : Int32} (h : GD M) : GD (gW M t).2 ∧ (gW M t).2.1 4 = M.1 4 := by
  have h1 := GD_gwM (t := t) h
  exact ⟨GD_ru k14 h1.1, ((f_ru k14 h1.1.2 20 0 0).2 4 (by unfold fr; omega) (by unfold sc; omega)).trans h1.2⟩
def pre_X2_gotWith (as : List mV) (M : mM) : Prop := ∃ c t, as = [.inr (.inr (2, c)), .inl t] ∧ GD M
def fn_X2_gotWith : List mV → mM → Option mV × mM
  | [.inr (.inr (_, c)), .inl t], M => (some (.inl (gW M t).1), (gW M t).2)
  | _, M => (none, M)
theorem ok_X2_gotWith (as : List mV) (M : mM) (h : pre_X2_gotWith as M) (_ : ∀ v ∈ as, okV v) : okR (fn_X2_gotWith as M).1 := by
  obtain ⟨c, t, rfl, -⟩ := h
  first | trivial | exact (by decide +kernel : kof 14 = 8)
theorem len_X2_gotWith (as : List mV) (M : mM) (h : pre_X2_gotWith as M) : (inL as).length ≤ 4 := by
  obtain ⟨c, t, rfl, -⟩ := h
  exact Nat.le_of_ble_eq_true rfl

theorem fl_145 : FLk "FairBlocks$Chances" 56 8 0 19 := ⟨RX8, TX8, 3, rfl, inX8, by decide, w_145, by decide, rfl⟩
theorem fl_189 : FLk "FairBlocks$Chances" 15 1 0 8 := ⟨RX1, TX1, 4, rfl, inX1, by decide, w_189, by decide, rfl⟩
theorem fl_201 : FLk "FairBlocks$Chances" 65 1 3 9 := ⟨RX1, TX1, 4, rfl, inX1, by decide, w_201, by decide, rfl⟩
theorem fl_297 : FLk "FairBlocks$Chances" 9 2 0 4 := ⟨RX2, TX2, 1, rfl, inX2, by decide, w_297, by decide, rfl⟩
theorem fl_61 : FLk "FairBlocks$Chances" 21 5 2 0 := ⟨RX5, TX5, 5, rfl, inX5, by decide, w_61, by decide, rfl⟩
theorem fp_103 : FPk "FairBlocks$Chances" 59 10 3 1 .boolean := ⟨RX10, TX10, 10, tyX10, rfl, inX10, by decide, w_103, by decide, rfl, tyX10_ok, nmX10, rfl, rfl⟩
theorem dX2_gotWith_0 : decode cX2_gotWith 0 = .ok (.aload_n 0, 1) := by decide +kernel
theorem dX2_gotWith_1 : decode cX2_gotWith 1 = .ok (.getfield 9, 3) := by decide +kernel
theorem dX2_gotWith_4 : decode cX2_gotWith 4 = .ok (.invokevirtual 52, 3) := by decide +kernel
theorem dX2_gotWith_7 : decode cX2_gotWith 7 = .ok (.astore_n 2, 1) := by decide +kernel
theorem dX2_gotWith_8 : decode cX2_gotWith 8 = .ok (.iconst 0, 1) := by decide +kernel
theorem dX2_gotWith_9 : decode cX2_gotWith 9 = .ok (.istore_n 3, 1) := by decide +kernel
theorem dX2_gotWith_10 : decode cX2_gotWith 10 = .ok (.iload_n 3, 1) := by decide +kernel
theorem dX2_gotWith_11 : decode cX2_gotWith 11 = .ok (.aload_n 0, 1) := by decide +kernel
theorem dX2_gotWith_12 : decode cX2_gotWith 12 = .ok (.getfield 9, 3) := by decide +kernel
theorem dX2_gotWith_15 : decode cX2_gotWith 15 = .ok (.getfield 15, 3) := by decide +kernel
theorem dX2_gotWith_18 : decode cX2_gotWith 18 = .ok (.getfield 21, 3) := by decide +kernel
theorem dX2_gotWith_21 : decode cX2_gotWith 21 = .ok (.if_icmp .ge 31, 3) := by decide +kernel
theorem dX2_gotWith_24 : decode cX2_gotWith 24 = .ok (.aload_n 2, 1) := by decide +kernel
theorem dX2_gotWith_25 : decode cX2_gotWith 25 = .ok (.getfield 56, 3) := by decide +kernel
theorem dX2_gotWith_28 : decode cX2_gotWith 28 = .ok (.iload_n 3, 1) := by decide +kernel
theorem dX2_gotWith_29 : decode cX2_gotWith 29 = .ok (.aaload, 1) := by decide +kernel
theorem dX2_gotWith_30 : decode cX2_gotWith 30 = .ok (.iload_n 1, 1) := by decide +kernel
theorem dX2_gotWith_31 : decode cX2_gotWith 31 = .ok (.iload_n 3, 1) := by decide +kernel
theorem dX2_gotWith_32 : decode cX2_gotWith 32 = .ok (.ishr, 1) := by decide +kernel
theorem dX2_gotWith_33 : decode cX2_gotWith 33 = .ok (.iconst 1, 1) := by decide +kernel
theorem dX2_gotWith_34 : decode cX2_gotWith 34 = .ok (.iand, 1) := by decide +kernel
theorem dX2_gotWith_35 : decode cX2_gotWith 35 = .ok (.ifCond .ne 7, 3) := by decide +kernel
theorem dX2_gotWith_38 : decode cX2_gotWith 38 = .ok (.iconst 1, 1) := by decide +kernel
theorem dX2_gotWith_39 : decode cX2_gotWith 39 = .ok (.goto 4, 3) := by decide +kernel
theorem dX2_gotWith_42 : decode cX2_gotWith 42 = .ok (.iconst 0, 1) := by decide +kernel
theorem dX2_gotWith_43 : decode cX2_gotWith 43 = .ok (.putfield 59, 3) := by decide +kernel
theorem dX2_gotWith_46 : decode cX2_gotWith 46 = .ok (.iinc 3 1, 3) := by decide +kernel
theorem dX2_gotWith_49 : decode cX2_gotWith 49 = .ok (.goto (-39), 3) := by decide +kernel
theorem dX2_gotWith_52 : decode cX2_gotWith 52 = .ok (.aload_n 0, 1) := by decide +kernel
theorem dX2_gotWith_53 : decode cX2_gotWith 53 = .ok (.getfield 9, 3) := by decide +kernel
theorem dX2_gotWith_56 : decode cX2_gotWith 56 = .ok (.getfield 65, 3) := by decide +kernel
theorem dX2_gotWith_59 : decode cX2_gotWith 59 = .ok (.aload_n 2, 1) := by decide +kernel
theorem dX2_gotWith_60 : decode cX2_gotWith 60 = .ok (.bipush 20, 2) := by decide +kernel
theorem dX2_gotWith_62 : decode cX2_gotWith 62 = .ok (.invokevirtual 69, 3) := by decide +kernel
theorem dX2_gotWith_65 : decode cX2_gotWith 65 = .ok (.ireturn, 1) := by decide +kernel
theorem mk_X2_gotWith : MVk yX2_gotWith "FairBlocks$Chances" cX2_gotWith 4 (Option.some FieldType.int) 1 := ⟨w_658, w_657, wp_12, w_12, rfl, by decide +kernel, by decide +kernel, by decide +kernel⟩
def BX2_gotWith_0 (G : Nat → KT) (Q : Option mV → mM → Prop) : KT := (s_aload 0 (s_getr 2 1 (fun _ => 3) (s_callV 1 0 pre_X1_freshTrial fn_X1_freshTrial (s_astore 2 (s_iconst (0) (s_istore 3 (s_at G 10 [true, true, true, true])))))))
set_option maxRecDepth 4000 in
theorem bsX2_gotWith_0 {p : Program} {l : Launch} {e : Env} {s : State} {m : MethodId} {args : Array Value} {below : List Frame} {meth : Method} {c : Code} {D : va_G} {ca : Nat → ClassId} {ad : Nat → Nat} {A : Nat → Prop} {Q : Option mV → mM → Prop} (hX : CX p s m args meth c 4 cX2_gotWith "FairBlocks$Chances" D ca ad A) (hr : meth.sig.returnType = (Option.some FieldType.int)) : ∀ lv st M, BX2_gotWith_0 (Gd p l e (rmD 4) s m args below meth c 4 D ca ad A 0 0 (MQ below (QC D ca ad A Q) args s 0 0 A)) Q lv st M → Gd p l e (rmD 4) s m args below meth c 4 D ca ad A 0 0 (MQ below (QC D ca ad A Q) args s 0 0 A) 0 lv st M :=
  (sd_aload_n hX dX2_gotWith_0 rfl (sd_getr hX fl_297 (fun _ => rfl) (fun _ _ _ => by decide +kernel) dX2_gotWith_1 (sd_callV hX (kd := 1) rfl (by decide) (ct_X1_freshTrial l) mk_X1_freshTrial w_659 ⟨⟨by decide, by decide⟩, by decide, by decide⟩ dX2_gotWith_4 (sd_astore_n hX (by decide) dX2_gotWith_7 rfl (sd_iconst hX dX2_gotWith_8 rfl (sd_istore_n hX (by decide) dX2_gotWith_9 rfl sd_at))))))
def BX2_gotWith_10 (G : Nat → KT) (Q : Option mV → mM → Prop) : KT := (s_iload 3 (s_aload 0 (s_getr 2 1 (fun _ => 3) (s_getr 1 5 (fun _ => 4) (s_geti 5 2 (s_icmp (fun x y => y ≤ x) (s_at G 52 [true, false, true, false]) (s_aload 2 (s_getr 8 16 (fun k => k + 1) (s_iload 3 (s_aaldU (s_iload 1 (s_iload 3 (s_bin (fun x y => x >>> (y &&& 31)) (s_iconst (1) (s_bin (fun x y => x &&& y) (s_if (fun x => x = 0) ((s_iconst (1) (s_at G 43 [true, true, true, true]))) (s_at G 42 [true, true, true, true])))))))))))))))))
set_option maxRecDepth 4000 in
theorem bsX2_gotWith_10 {p : Program} {l : Launch} {e : Env} {s : State} {m : MethodId} {args : Array Value} {below : List Frame} {meth : Method} {c : Code} {D : va_G} {ca : Nat → ClassId} {ad : Nat → Nat} {A : Nat → Prop} {Q : Option mV → mM → Prop} (hX : CX p s m args meth c 4 cX2_gotWith "FairBlocks$Chances" D ca ad A) (hr : meth.sig.returnType = (Option.some FieldType.int)) : ∀ lv st M, BX2_gotWith_10 (Gd p l e (rmD 4) s m args below meth c 4 D ca ad A 0 0 (MQ below (QC D ca ad A Q) args s 0 0 A)) Q lv st M → Gd p l e (rmD 4) s m args below meth c 4 D ca ad A 0 0 (MQ below (QC D ca ad A Q) args s 0 0 A) 10 lv st M :=
  (sd_iload_n hX dX2_gotWith_10 rfl (sd_aload_n hX dX2_gotWith_11 rfl (sd_getr hX fl_297 (fun _ => rfl) (fun _ _ _ => by decide +kernel) dX2_gotWith_12 (sd_getr hX fl_189 (fun _ => rfl) (fun _ _ _ => by decide +kernel) dX2_gotWith_15 (sd_geti hX fl_61 (by decide) dX2_gotWith_18 (sd_icmp_ge hX dX2_gotWith_21 (by decide) sd_at (sd_aload_n hX dX2_gotWith_24 rfl (sd_getr hX fl_145 (fun _ => rfl) okA dX2_gotWith_25 (sd_iload_n hX dX2_gotWith_28 rfl (sd_aaldU hX dX2_gotWith_29 (sd_iload_n hX dX2_gotWith_30 rfl (sd_iload_n hX dX2_gotWith_31 rfl (sd_ishr hX dX2_gotWith_32 (sd_iconst hX dX2_gotWith_33 rfl (sd_iand hX dX2_gotWith_34 (sd_if_ne hX dX2_gotWith_35 (by decide) sd_at (sd_iconst hX dX2_gotWith_38 rfl (sd_goto hX dX2_gotWith_39 (by decide) sd_at))))))))))))))))))
def BX2_gotWith_42 (G : Nat → KT) (Q : Option mV → mM → Prop) : KT := (s_iconst (0) (s_at G 43 [true, true, true, true]))
set_option maxRecDepth 4000 in
theorem bsX2_gotWith_42 {p : Program} {l : Launch} {e : Env} {s : State} {m : MethodId} {args : Array Value} {below : List Frame} {meth : Method} {c : Code} {D : va_G} {ca : Nat → ClassId} {ad : Nat → Nat} {A : Nat → Prop} {Q : Option mV → mM → Prop} (hX : CX p s m args meth c 4 cX2_gotWith "FairBlocks$Chances" D ca ad A) (hr : meth.sig.returnType = (Option.some FieldType.int)) : ∀ lv st M, BX2_gotWith_42 (Gd p l e (rmD 4) s m args below meth c 4 D ca ad A 0 0 (MQ below (QC D ca ad A Q) args s 0 0 A)) Q lv st M → Gd p l e (rmD 4) s m args below meth c 4 D ca ad A 0 0 (MQ below (QC D ca ad A Q) args s 0 0 A) 42 lv st M :=
  (sd_iconst hX dX2_gotWith_42 rfl sd_at)
def BX2_gotWith_43 (G : Nat → KT) (Q : Option mV → mM → Prop) : KT := (s_putz 10 3 (s_iinc 3 (1) (s_at G 10 [true, true, true, true])))
set_option maxRecDepth 4000 in
theorem bsX2_gotWith_43 {p : Program} {l : Launch} {e : Env} {s : State} {m : MethodId} {args : Array Value} {below : List Frame} {meth : Method} {c : Code} {D : va_G} {ca : Nat → ClassId} {ad : Nat → Nat} {A : Nat → Prop} {Q : Option mV → mM → Prop} (hX : CX p s m args meth c 4 cX2_gotWith "FairBlocks$Chances" D ca ad A) (hr : meth.sig.returnType = (Option.some FieldType.int)) : ∀ lv st M, BX2_gotWith_43 (Gd p l e (rmD 4) s m args below meth c 4 D ca ad A 0 0 (MQ below (QC D ca ad A Q) args s 0 0 A)) Q lv st M → Gd p l e (rmD 4) s m args below meth c 4 D ca ad A 0 0 (MQ below (QC D ca ad A Q) args s 0 0 A) 43 lv st M :=
  (sd_putz hX fp_103 dX2_gotWith_43 (sd_iinc hX (by decide) dX2_gotWith_46 rfl (sd_goto hX dX2_gotWith_49 (by decide) sd_at)))
def BX2_gotWith_52 (G : Nat → KT) (Q : Option mV → mM → Prop) : KT := (s_aload 0 (s_getr 2 1 (fun _ => 3) (s_getr 1 6 (fun _ => 21) (s_aload 2 (s_iconst (20) (s_callV 6 2 pre_X6_run fn_X6_run (s_iret Q)))))))
set_option maxRecDepth 4000 in
theorem bsX2_gotWith_52 {p : Program} {l : Launch} {e : Env} {s : State} {m : MethodId} {args : Array Value} {below : List Frame} {meth : Method} {c : Code} {D : va_G} {ca : Nat → ClassId} {ad : Nat → Nat} {A : Nat → Prop} {Q : Option mV → mM → Prop} (hX : CX p s m args meth c 4 cX2_gotWith "FairBlocks$Chances" D ca ad A) (hr : meth.sig.returnType = (Option.some FieldType.int)) : ∀ lv st M, BX2_gotWith_52 (Gd p l e (rmD 4) s m args below meth c 4 D ca ad A 0 0 (MQ below (QC D ca ad A Q) args s 0 0 A)) Q lv st M → Gd p l e (rmD 4) s m args below meth c 4 D ca ad A 0 0 (MQ below (QC D ca ad A Q) args s 0 0 A) 52 lv st M :=
  (sd_aload_n hX dX2_gotWith_52 rfl (sd_getr hX fl_297 (fun _ => rfl) (fun _ _ _ => by decide +kernel) dX2_gotWith_53 (sd_getr hX fl_201 (fun _ => rfl) (fun _ _ _ => by decide +kernel) dX2_gotWith_56 (sd_aload_n hX dX2_gotWith_59 rfl (sd_bipush hX dX2_gotWith_60 rfl (sd_callV hX (kd := 6) rfl (by decide) (ct_X6_run l) mk_X6_run w_660 ⟨⟨by decide, by decide⟩, by decide, by decide⟩ dX2_gotWith_62 (sd_iret hX hr dX2_gotWith_65)))))))
set_option maxHeartbeats 400000 in
theorem pf_X2_gotWith (G : Nat → KT) (Q : Option mV → mM → Prop) (h0 : ∀ lv st M, BX2_gotWith_0 G Q lv st M → G 0 lv st M) (h10 : ∀ lv st M, BX2_gotWith_10 G Q lv st M → G 10 lv st M) (h42 : ∀ lv st M, BX2_gotWith_42 G Q lv st M → G 42 lv st M) (h43 : ∀ lv st M, BX2_gotWith_43 G Q lv st M → G 43 lv st M) (h52 : ∀ lv st M, BX2_gotWith_52 G Q lv st M → G 52 lv st M) (as : List mV) (M : mM) (ho : ∀ v ∈ as, okV v) (hp : pre_X2_gotWith as M) (hQ : Q (fn_X2_gotWith as M).1 (fn_X2_gotWith as M).2) : G 0 (inL as ++ List.replicate (4 - (inL as).length) none) [] M := by
  obtain ⟨c, t, rfl, hG⟩ := hp
  have hn := n5 hG.2
  have hN := uN hG.2
  simp only [fn_X2_gotWith, gW, gwM] at hQ
  generalize nU M = N at hQ hn hN
  have loop : ∀ (n i : Nat) (M : mM), i + n = N → GD M → M.1 4 2 = nI N → Q (some (.inl (ru (itr (gwS t) i n M) 14 20).1)) (ru (itr (gwS t) i n M) 14 20).2 → G 10 [some (.inr (.inr (2, c))), some (.inl t), some (.inr (.inr (8, 14))), some (.inl (nI i))] [] M := by
    intro n
    induction n with
    | zero =>
      intro i M hi hG hN hq
      obtain rfl : i = N := by omega
      (apply h10; simp only [BX2_gotWith_10, s_mth, s_mab, s_at, s_iconst, s_lconst, s_iload, s_lload, s_aload, s_istore, s_lstore, s_astore, s_iinc, s_bin, s_binG, s_un, s_lbin, s_lbinG, s_lsh, s_lcmp, s_i2l, s_l2i, s_dup, s_dup2, s_pop, s_if, s_icmp, s_geti, s_getl, s_getr, s_puti, s_putz, s_putl, s_iald, s_zald, s_iast, s_zast, s_aaldS, s_aaldU, s_gets, s_tald, s_tsw, tsw, s_iret, s_zret, s_lret, s_aret, s_vret, s_callV, s_callS, c1, nl1, keepL, csum, pushR, inL, List.getD_cons_zero, List.getD_cons_succ, List.set_cons_zero, List.set_cons_succ, List.cons_append, List.nil_append, List.append_nil, List.replicate, List.length_cons, List.length_nil, List.take_succ_cons, List.take_zero, List.drop_succ_cons, List.drop_zero, List.reverse_cons, List.reverse_nil, true_and, and_true, forall_const, not_true_eq_false, not_false_eq_true, false_implies, true_implies, implies_true, one0, m10, Nat.reduceAdd, Nat.reduceSub, Nat.reduceLeDiff, Nat.zero_add, Nat.add_zero, fn_X1_freshTrial, fn_X6_run])
      rw [hN]
      refine ⟨fun _ => ?_, fun h => absurd (nI_le (Nat.le_refl _) (by omega)) h⟩
      (apply h52; simp only [BX2_gotWith_52, s_mth, s_mab, s_at, s_iconst, s_lconst, s_iload, s_lload, s_aload, s_istore, s_lstore, s_astore, s_iinc, s_bin, s_binG, s_un, s_lbin, s_lbinG, s_lsh, s_lcmp, s_i2l, s_l2i, s_dup, s_dup2, s_pop, s_if, s_icmp, s_geti, s_getl, s_getr, s_puti, s_putz, s_putl, s_iald, s_zald, s_iast, s_zast, s_aaldS, s_aaldU, s_gets, s_tald, s_tsw, tsw, s_iret, s_zret, s_lret, s_aret, s_vret, s_callV, s_callS, c1, nl1, keepL, csum, pushR, inL, List.getD_cons_zero, List.getD_cons_succ, List.set_cons_zero, List.set_cons_succ, List.cons_append, List.nil_append, List.append_nil, List.replicate, List.length_cons, List.length_nil, List.take_succ_cons, List.take_zero, List.drop_succ_cons, List.drop_zero, List.reverse_cons, List.reverse_nil, true_and, and_true, forall_const, not_true_eq_false, not_false_eq_true, false_implies, true_implies, implies_true, one0, m10, Nat.reduceAdd, Nat.reduceSub, Nat.reduceLeDiff, Nat.zero_add, Nat.add_zero, fn_X1_freshTrial, fn_X6_run])
      exact ⟨⟨_, _, _, rfl, hG.2, 20, by decide, rfl⟩, hq⟩
    | succ n ih =>
      intro i M hi hG hN hq
      have ei : (nI i).toNatClampNeg = i := nI_clamp (by omega)
      have L : ∀ w : Int32, w = (if (t >>> (nI i &&& 31)) &&& 1 = 0 then 1 else 0) → G 43 [some (.inr (.inr (2, c))), some (.inl t), some (.inr (.inr (8, 14))), some (.inl (nI i))] [.inl w, .inr (.inr (10, 16 + i))] M := by
        intro w ew
        (apply h43; simp only [BX2_gotWith_43, s_mth, s_mab, s_at, s_iconst, s_lconst, s_iload, s_lload, s_aload, s_istore, s_lstore, s_astore, s_iinc, s_bin, s_binG, s_un, s_lbin, s_lbinG, s_lsh, s_lcmp, s_i2l, s_l2i, s_dup, s_dup2, s_pop, s_if, s_icmp, s_geti, s_getl, s_getr, s_puti, s_putz, s_putl, s_iald, s_zald, s_iast, s_zast, s_aaldS, s_aaldU, s_gets, s_tald, s_tsw, tsw, s_iret, s_zret, s_lret, s_aret, s_vret, s_callV, s_callS, c1, nl1, keepL, csum, pushR, inL, List.getD_cons_zero, List.getD_cons_succ, List.set_cons_zero, List.set_cons_succ, List.cons_append, List.nil_append, List.append_nil, List.replicate, List.length_cons, List.length_nil, List.take_succ_cons, List.take_zero, List.drop_succ_cons, List.drop_zero, List.reverse_cons, List.reverse_nil, true_and, and_true, forall_const, not_true_eq_false, not_false_eq_true, false_implies, true_implies, implies_true, one0, m10, Nat.reduceAdd, Nat.reduceSub, Nat.reduceLeDiff, Nat.zero_add, Nat.add_zero, fn_X1_freshTrial, fn_X6_run])
        refine ⟨by rw [ew]; split <;> simp, ?_⟩
        rw [nI_1]
        have e : mset M (16 + i) 3 w = gwS t i M := by rw [ew]; rfl
        rw [e]
        exact ih (i + 1) _ (by omega) (GD_gwS (by omega) hG) (by rw [p4_gwS]; exact hN) hq
      (apply h10; simp only [BX2_gotWith_10, s_mth, s_mab, s_at, s_iconst, s_lconst, s_iload, s_lload, s_aload, s_istore, s_lstore, s_astore, s_iinc, s_bin, s_binG, s_un, s_lbin, s_lbinG, s_lsh, s_lcmp, s_i2l, s_l2i, s_dup, s_dup2, s_pop, s_if, s_icmp, s_geti, s_getl, s_getr, s_puti, s_putz, s_putl, s_iald, s_zald, s_iast, s_zast, s_aaldS, s_aaldU, s_gets, s_tald, s_tsw, tsw, s_iret, s_zret, s_lret, s_aret, s_vret, s_callV, s_callS, c1, nl1, keepL, csum, pushR, inL, List.getD_cons_zero, List.getD_cons_succ, List.set_cons_zero, List.set_cons_succ, List.cons_append, List.nil_append, List.append_nil, List.replicate, List.length_cons, List.length_nil, List.take_succ_cons, List.take_zero, List.drop_succ_cons, List.drop_zero, List.reverse_cons, List.reverse_nil, true_and, and_true, forall_const, not_true_eq_false, not_false_eq_true, false_implies, true_implies, implies_true, one0, m10, Nat.reduceAdd, Nat.reduceSub, Nat.reduceLeDiff, Nat.zero_add, Nat.add_zero, fn_X1_freshTrial, fn_X6_run])
      simp only [hN, l15, ei]
      refine ⟨fun h => absurd h (nI_ge (by omega) (by omega)), fun _ => ⟨vp_in_nI (by omega) (by decide), fun h => ?_, fun h => ?_⟩⟩
      · exact L 1 (by rw [if_pos h])
      · (apply h42; simp only [BX2_gotWith_42, s_mth, s_mab, s_at, s_iconst, s_lconst, s_iload, s_lload, s_aload, s_istore, s_lstore, s_astore, s_iinc, s_bin, s_binG, s_un, s_lbin, s_lbinG, s_lsh, s_lcmp, s_i2l, s_l2i, s_dup, s_dup2, s_pop, s_if, s_icmp, s_geti, s_getl, s_getr, s_puti, s_putz, s_putl, s_iald, s_zald, s_iast, s_zast, s_aaldS, s_aaldU, s_gets, s_tald, s_tsw, tsw, s_iret, s_zret, s_lret, s_aret, s_vret, s_callV, s_callS, c1, nl1, keepL, csum, pushR, inL, List.getD_cons_zero, List.getD_cons_succ, List.set_cons_zero, List.set_cons_succ, List.cons_append, List.nil_append, List.append_nil, List.replicate, List.length_cons, List.length_nil, List.take_succ_cons, List.take_zero, List.drop_succ_cons, List.drop_zero, List.reverse_cons, List.reverse_nil, true_and, and_true, forall_const, not_true_eq_false, not_false_eq_true, false_implies, true_implies, implies_true, one0, m10, Nat.reduceAdd, Nat.reduceSub, Nat.reduceLeDiff, Nat.zero_add, Nat.add_zero, fn_X1_freshTrial, fn_X6_run])
        exact L 0 (by rw [if_neg h])
  (apply h0; simp only [BX2_gotWith_0, s_mth, s_mab, s_at, s_iconst, s_lconst, s_iload, s_lload, s_aload, s_istore, s_lstore, s_astore, s_iinc, s_bin, s_binG, s_un, s_lbin, s_lbinG, s_lsh, s_lcmp, s_i2l, s_l2i, s_dup, s_dup2, s_pop, s_if, s_icmp, s_geti, s_getl, s_getr, s_puti, s_putz, s_putl, s_iald, s_zald, s_iast, s_zast, s_aaldS, s_aaldU, s_gets, s_tald, s_tsw, tsw, s_iret, s_zret, s_lret, s_aret, s_vret, s_callV, s_callS, c1, nl1, keepL, csum, pushR, inL, List.getD_cons_zero, List.getD_cons_succ, List.set_cons_zero, List.set_cons_succ, List.cons_append, List.nil_append, List.append_nil, List.replicate, List.length_cons, List.length_nil, List.take_succ_cons, List.take_zero, List.drop_succ_cons, List.drop_zero, List.reverse_cons, List.reverse_nil, true_and, and_true, forall_const, not_true_eq_false, not_false_eq_true, false_implies, true_implies, implies_true, one0, m10, Nat.reduceAdd, Nat.reduceSub, Nat.reduceLeDiff, Nat.zero_add, Nat.add_zero, fn_X1_freshTrial, fn_X6_run])
  refine ⟨⟨_, rfl, hG.1⟩, loop N 0 _ (by omega) (GD_stc k14 k7 hG) ?_ hQ⟩
  rw [f_stc (by unfold fr; omega)]
  exact hN
theorem ct_X2_gotWith (l : Launch) : Con l yX2_gotWith cX2_gotWith 4 (Option.some FieldType.int) 4 pre_X2_gotWith fn_X2_gotWith := con_of (by decide +kernel) ok_X2_gotWith len_X2_gotWith (fun p e s m args below meth c D ca ad A as M hX hr hp ho => pf_X2_gotWith _ _ (bsX2_gotWith_0 hX hr) (bsX2_gotWith_10 hX hr) (bsX2_gotWith_42 hX hr) (bsX2_gotWith_43 hX hr) (bsX2_gotWith_52 hX hr) as M ho hp ⟨rfl, rfl⟩)
def ieS (f : Int32) (i : Nat) (M : mM) : mM := (ro M 14 (if (f >>> (nI i &&& 31)) &&& 1 = 1 then 1 else 0)).2
def ieM (M : mM) (N : Nat) (f : Int32) : mM := itr (ieS f) 0 N (stc M 14 7)
def ie (M : mM) (U N : Nat) (f : Int32) : Int32 × mM := (if (ieM M N f).1 (16 + U) 4 + (ieM M N f).1 (16 + U) 5 = 0 then 1 else 0, ieM M N f)
theorem GD_ieM {M : mM} {N : Nat} {f : Int32} (h : GD M) : GD (ieM M N f) :=
  itr_inv (ieS f) GD N 0 _ (fun j s _ _ h => GD_ro k14 h) (GD_stc k14 k7 h)
def pre_X2_isEmptyBehind (as : List mV) (M : mM) : Prop := ∃ c u x f, as = [.inr (.inr (2, c)), .inl u, .inl x, .inl f] ∧ GD M ∧ (∃ j, j < 5 ∧ u = nI j) ∧ ∃ n, n < 2 ^ 31 ∧ x = nI n
def fn_X2_isEmptyBehind : List mV → mM → Option mV × mM
  | [.inr (.inr (_, c)), .inl u, .inl x, .inl f], M => (some (.inl (ie M u.toNatClampNeg x.toNatClampNeg f).1), (ie M u.toNatClampNeg x.toNatClampNeg f).2)
  | _, M => (none, M)
theorem ok_X2_isEmptyBehind (as : List mV) (M : mM) (h : pre_X2_isEmptyBehind as M) (_ : ∀ v ∈ as, okV v) : okR (fn_X2_isEmptyBehind as M).1 := by
  obtain ⟨c, u, x, f, rfl, -⟩ := h
  first | trivial | exact (by decide +kernel : kof 14 = 8)
theorem len_X2_isEmptyBehind (as : List mV) (M : mM) (h : pre_X2_isEmptyBehind as M) : (inL as).length ≤ 6 := by
  obtain ⟨c, u, x, f, rfl, -⟩ := h
  exact Nat.le_of_ble_eq_true rfl


theorem dX2_isEmptyBehind_0 : decode cX2_isEmptyBehind 0 = .ok (.aload_n 0, 1) := by decide +kernel
theorem dX2_isEmptyBehind_1 : decode cX2_isEmptyBehind 1 = .ok (.getfield 9, 3) := by decide +kernel
theorem dX2_isEmptyBehind_4 : decode cX2_isEmptyBehind 4 = .ok (.invokevirtual 52, 3) := by decide +kernel
theorem dX2_isEmptyBehind_7 : decode cX2_isEmptyBehind 7 = .ok (.astore 4, 2) := by decide +kernel
theorem dX2_isEmptyBehind_9 : decode cX2_isEmptyBehind 9 = .ok (.iconst 0, 1) := by decide +kernel
theorem dX2_isEmptyBehind_10 : decode cX2_isEmptyBehind 10 = .ok (.istore 5, 2) := by decide +kernel
theorem dX2_isEmptyBehind_12 : decode cX2_isEmptyBehind 12 = .ok (.iload 5, 2) := by decide +kernel
theorem dX2_isEmptyBehind_14 : decode cX2_isEmptyBehind 14 = .ok (.iload_n 2, 1) := by decide +kernel
theorem dX2_isEmptyBehind_15 : decode cX2_isEmptyBehind 15 = .ok (.if_icmp .ge 37, 3) := by decide +kernel
theorem dX2_isEmptyBehind_18 : decode cX2_isEmptyBehind 18 = .ok (.aload_n 0, 1) := by decide +kernel
theorem dX2_isEmptyBehind_19 : decode cX2_isEmptyBehind 19 = .ok (.getfield 9, 3) := by decide +kernel
theorem dX2_isEmptyBehind_22 : decode cX2_isEmptyBehind 22 = .ok (.getfield 65, 3) := by decide +kernel
theorem dX2_isEmptyBehind_25 : decode cX2_isEmptyBehind 25 = .ok (.aload 4, 2) := by decide +kernel
theorem dX2_isEmptyBehind_27 : decode cX2_isEmptyBehind 27 = .ok (.iload_n 3, 1) := by decide +kernel
theorem dX2_isEmptyBehind_28 : decode cX2_isEmptyBehind 28 = .ok (.iload 5, 2) := by decide +kernel
theorem dX2_isEmptyBehind_30 : decode cX2_isEmptyBehind 30 = .ok (.ishr, 1) := by decide +kernel
theorem dX2_isEmptyBehind_31 : decode cX2_isEmptyBehind 31 = .ok (.iconst 1, 1) := by decide +kernel
theorem dX2_isEmptyBehind_32 : decode cX2_isEmptyBehind 32 = .ok (.iand, 1) := by decide +kernel
theorem dX2_isEmptyBehind_33 : decode cX2_isEmptyBehind 33 = .ok (.iconst 1, 1) := by decide +kernel
theorem dX2_isEmptyBehind_34 : decode cX2_isEmptyBehind 34 = .ok (.if_icmp .ne 7, 3) := by decide +kernel
theorem dX2_isEmptyBehind_37 : decode cX2_isEmptyBehind 37 = .ok (.iconst 1, 1) := by decide +kernel
theorem dX2_isEmptyBehind_38 : decode cX2_isEmptyBehind 38 = .ok (.goto 4, 3) := by decide +kernel
theorem dX2_isEmptyBehind_41 : decode cX2_isEmptyBehind 41 = .ok (.iconst 0, 1) := by decide +kernel
theorem dX2_isEmptyBehind_42 : decode cX2_isEmptyBehind 42 = .ok (.invokevirtual 83, 3) := by decide +kernel
theorem dX2_isEmptyBehind_45 : decode cX2_isEmptyBehind 45 = .ok (.pop, 1) := by decide +kernel
theorem dX2_isEmptyBehind_46 : decode cX2_isEmptyBehind 46 = .ok (.iinc 5 1, 3) := by decide +kernel
theorem dX2_isEmptyBehind_49 : decode cX2_isEmptyBehind 49 = .ok (.goto (-37), 3) := by decide +kernel
theorem dX2_isEmptyBehind_52 : decode cX2_isEmptyBehind 52 = .ok (.aload 4, 2) := by decide +kernel
theorem dX2_isEmptyBehind_54 : decode cX2_isEmptyBehind 54 = .ok (.getfield 56, 3) := by decide +kernel
theorem dX2_isEmptyBehind_57 : decode cX2_isEmptyBehind 57 = .ok (.iload_n 1, 1) := by decide +kernel
theorem dX2_isEmptyBehind_58 : decode cX2_isEmptyBehind 58 = .ok (.aaload, 1) := by decide +kernel
theorem dX2_isEmptyBehind_59 : decode cX2_isEmptyBehind 59 = .ok (.invokevirtual 87, 3) := by decide +kernel
theorem dX2_isEmptyBehind_62 : decode cX2_isEmptyBehind 62 = .ok (.ifCond .ne 7, 3) := by decide +kernel
theorem dX2_isEmptyBehind_65 : decode cX2_isEmptyBehind 65 = .ok (.iconst 1, 1) := by decide +kernel
theorem dX2_isEmptyBehind_66 : decode cX2_isEmptyBehind 66 = .ok (.goto 4, 3) := by decide +kernel
theorem dX2_isEmptyBehind_69 : decode cX2_isEmptyBehind 69 = .ok (.iconst 0, 1) := by decide +kernel
theorem dX2_isEmptyBehind_70 : decode cX2_isEmptyBehind 70 = .ok (.ireturn, 1) := by decide +kernel
theorem mk_X2_isEmptyBehind : MVk yX2_isEmptyBehind "FairBlocks$Chances" cX2_isEmptyBehind 6 (Option.some FieldType.boolean) 3 := ⟨w_684, w_683, wp_13, w_12, rfl, by decide +kernel, by decide +kernel, by decide +kernel⟩
def BX2_isEmptyBehind_0 (G : Nat → KT) (Q : Option mV → mM → Prop) : KT := (s_aload 0 (s_getr 2 1 (fun _ => 3) (s_callV 1 0 pre_X1_freshTrial fn_X1_freshTrial (s_astore 4 (s_iconst (0) (s_istore 5 (s_at G 12 [true, true, true, true, true, true])))))))
set_option maxRecDepth 4000 in
theorem bsX2_isEmptyBehind_0 {p : Program} {l : Launch} {e : Env} {s : State} {m : MethodId} {args : Array Value} {below : List Frame} {meth : Method} {c : Code} {D : va_G} {ca : Nat → ClassId} {ad : Nat → Nat} {A : Nat → Prop} {Q : Option mV → mM → Prop} (hX : CX p s m args meth c 6 cX2_isEmptyBehind "FairBlocks$Chances" D ca ad A) (hr : meth.sig.returnType = (Option.some FieldType.boolean)) : ∀ lv st M, BX2_isEmptyBehind_0 (Gd p l e (rmD 3) s m args below meth c 6 D ca ad A 0 0 (MQ below (QC D ca ad A Q) args s 0 0 A)) Q lv st M → Gd p l e (rmD 3) s m args below meth c 6 D ca ad A 0 0 (MQ below (QC D ca ad A Q) args s 0 0 A) 0 lv st M :=
  (sd_aload_n hX dX2_isEmptyBehind_0 rfl (sd_getr hX fl_297 (fun _ => rfl) (fun _ _ _ => by decide +kernel) dX2_isEmptyBehind_1 (sd_callV hX (kd := 1) rfl (by decide) (ct_X1_freshTrial l) mk_X1_freshTrial w_659 ⟨⟨by decide, by decide⟩, by decide, by decide⟩ dX2_isEmptyBehind_4 (sd_astore hX (by decide) dX2_isEmptyBehind_7 (sd_iconst hX dX2_isEmptyBehind_9 rfl (sd_istore hX (by decide) dX2_isEmptyBehind_10 sd_at))))))
def BX2_isEmptyBehind_12 (G : Nat → KT) (Q : Option mV → mM → Prop) : KT := (s_iload 5 (s_iload 2 (s_icmp (fun x y => y ≤ x) (s_at G 52 [false, true, false, false, true, false]) (s_aload 0 (s_getr 2 1 (fun _ => 3) (s_getr 1 6 (fun _ => 21) (s_aload 4 (s_iload 3 (s_iload 5 (s_bin (fun x y => x >>> (y &&& 31)) (s_iconst (1) (s_bin (fun x y => x &&& y) (s_iconst (1) (s_icmp (fun x y => x = y) ((s_iconst (1) (s_at G 42 [true, true, true, true, true, true]))) (s_at G 41 [true, true, true, true, true, true])))))))))))))))
set_option maxRecDepth 4000 in
theorem bsX2_isEmptyBehind_12 {p : Program} {l : Launch} {e : Env} {s : State} {m : MethodId} {args : Array Value} {below : List Frame} {meth : Method} {c : Code} {D : va_G} {ca : Nat → ClassId} {ad : Nat → Nat} {A : Nat → Prop} {Q : Option mV → mM → Prop} (hX : CX p s m args meth c 6 cX2_isEmptyBehind "FairBlocks$Chances" D ca ad A) (hr : meth.sig.returnType = (Option.some FieldType.boolean)) : ∀ lv st M, BX2_isEmptyBehind_12 (Gd p l e (rmD 3) s m args below meth c 6 D ca ad A 0 0 (MQ below (QC D ca ad A Q) args s 0 0 A)) Q lv st M → Gd p l e (rmD 3) s m args below meth c 6 D ca ad A 0 0 (MQ below (QC D ca ad A Q) args s 0 0 A) 12 lv st M :=
  (sd_iload hX dX2_isEmptyBehind_12 (sd_iload_n hX dX2_isEmptyBehind_14 rfl (sd_icmp_ge hX dX2_isEmptyBehind_15 (by decide) sd_at (sd_aload_n hX dX2_isEmptyBehind_18 rfl (sd_getr hX fl_297 (fun _ => rfl) (fun _ _ _ => by decide +kernel) dX2_isEmptyBehind_19 (sd_getr hX fl_201 (fun _ => rfl) (fun _ _ _ => by decide +kernel) dX2_isEmptyBehind_22 (sd_aload hX dX2_isEmptyBehind_25 (sd_iload_n hX dX2_isEmptyBehind_27 rfl (sd_iload hX dX2_isEmptyBehind_28 (sd_ishr hX dX2_isEmptyBehind_30 (sd_iconst hX dX2_isEmptyBehind_31 rfl (sd_iand hX dX2_isEmptyBehind_32 (sd_iconst hX dX2_isEmptyBehind_33 rfl (sd_icmp_ne hX dX2_isEmptyBehind_34 (by decide) sd_at (sd_iconst hX dX2_isEmptyBehind_37 rfl (sd_goto hX dX2_isEmptyBehind_38 (by decide) sd_at))))))))))))))))
def BX2_isEmptyBehind_41 (G : Nat → KT) (Q : Option mV → mM → Prop) : KT := (s_iconst (0) (s_at G 42 [true, true, true, true, true, true]))
set_option maxRecDepth 4000 in
theorem bsX2_isEmptyBehind_41 {p : Program} {l : Launch} {e : Env} {s : State} {m : MethodId} {args : Array Value} {below : List Frame} {meth : Method} {c : Code} {D : va_G} {ca : Nat → ClassId} {ad : Nat → Nat} {A : Nat → Prop} {Q : Option mV → mM → Prop} (hX : CX p s m args meth c 6 cX2_isEmptyBehind "FairBlocks$Chances" D ca ad A) (hr : meth.sig.returnType = (Option.some FieldType.boolean)) : ∀ lv st M, BX2_isEmptyBehind_41 (Gd p l e (rmD 3) s m args below meth c 6 D ca ad A 0 0 (MQ below (QC D ca ad A Q) args s 0 0 A)) Q lv st M → Gd p l e (rmD 3) s m args below meth c 6 D ca ad A 0 0 (MQ below (QC D ca ad A Q) args s 0 0 A) 41 lv st M :=
  (sd_iconst hX dX2_isEmptyBehind_41 rfl sd_at)
def BX2_isEmptyBehind_42 (G : Nat → KT) (Q : Option mV → mM → Prop) : KT := (s_callV 6 2 pre_X6_runOne fn_X6_runOne (s_pop (s_iinc 5 (1) (s_at G 12 [true, true, true, true, true, true]))))
set_option maxRecDepth 4000 in
theorem bsX2_isEmptyBehind_42 {p : Program} {l : Launch} {e : Env} {s : State} {m : MethodId} {args : Array Value} {below : List Frame} {meth : Method} {c : Code} {D : va_G} {ca : Nat → ClassId} {ad : Nat → Nat} {A : Nat → Prop} {Q : Option mV → mM → Prop} (hX : CX p s m args meth c 6 cX2_isEmptyBehind "FairBlocks$Chances" D ca ad A) (hr : meth.sig.returnType = (Option.some FieldType.boolean)) : ∀ lv st M, BX2_isEmptyBehind_42 (Gd p l e (rmD 3) s m args below meth c 6 D ca ad A 0 0 (MQ below (QC D ca ad A Q) args s 0 0 A)) Q lv st M → Gd p l e (rmD 3) s m args below meth c 6 D ca ad A 0 0 (MQ below (QC D ca ad A Q) args s 0 0 A) 42 lv st M :=
  (sd_callV hX (kd := 6) rfl (by decide) (ct_X6_runOne l) mk_X6_runOne w_685 ⟨⟨by decide, by decide⟩, by decide, by decide⟩ dX2_isEmptyBehind_42 (sd_pop hX dX2_isEmptyBehind_45 (sd_iinc hX (by decide) dX2_isEmptyBehind_46 rfl (sd_goto hX dX2_isEmptyBehind_49 (by decide) sd_at))))
def BX2_isEmptyBehind_52 (G : Nat → KT) (Q : Option mV → mM → Prop) : KT := (s_aload 4 (s_getr 8 16 (fun k => k + 1) (s_iload 1 (s_aaldU (s_callV 10 0 pre_X10_waiting fn_X10_waiting (s_if (fun x => x = 0) ((s_iconst (1) (s_at G 70 [false, false, false, false, false, false]))) (s_at G 69 [false, false, false, false, false, false])))))))
set_option maxRecDepth 4000 in
theorem bsX2_isEmptyBehind_52 {p : Program} {l : Launch} {e : Env} {s : State} {m : MethodId} {args : Array Value} {below : List Frame} {meth : Method} {c : Code} {D : va_G} {ca : Nat → ClassId} {ad : Nat → Nat} {A : Nat → Prop} {Q : Option mV → mM → Prop} (hX : CX p s m args meth c 6 cX2_isEmptyBehind "FairBlocks$Chances" D ca ad A) (hr : meth.sig.returnType = (Option.some FieldType.boolean)) : ∀ lv st M, BX2_isEmptyBehind_52 (Gd p l e (rmD 3) s m args below meth c 6 D ca ad A 0 0 (MQ below (QC D ca ad A Q) args s 0 0 A)) Q lv st M → Gd p l e (rmD 3) s m args below meth c 6 D ca ad A 0 0 (MQ below (QC D ca ad A Q) args s 0 0 A) 52 lv st M :=
  (sd_aload hX dX2_isEmptyBehind_52 (sd_getr hX fl_145 (fun _ => rfl) okA dX2_isEmptyBehind_54 (sd_iload_n hX dX2_isEmptyBehind_57 rfl (sd_aaldU hX dX2_isEmptyBehind_58 (sd_callV hX (kd := 10) rfl (by decide) (ct_X10_waiting l) mk_X10_waiting w_686 ⟨⟨by decide, by decide⟩, by decide, by decide⟩ dX2_isEmptyBehind_59 (sd_if_ne hX dX2_isEmptyBehind_62 (by decide) sd_at (sd_iconst hX dX2_isEmptyBehind_65 rfl (sd_goto hX dX2_isEmptyBehind_66 (by decide) sd_at))))))))
def BX2_isEmptyBehind_69 (G : Nat → KT) (Q : Option mV → mM → Prop) : KT := (s_iconst (0) (s_at G 70 [false, false, false, false, false, false]))
set_option maxRecDepth 4000 in
theorem bsX2_isEmptyBehind_69 {p : Program} {l : Launch} {e : Env} {s : State} {m : MethodId} {args : Array Value} {below : List Frame} {meth : Method} {c : Code} {D : va_G} {ca : Nat → ClassId} {ad : Nat → Nat} {A : Nat → Prop} {Q : Option mV → mM → Prop} (hX : CX p s m args meth c 6 cX2_isEmptyBehind "FairBlocks$Chances" D ca ad A) (hr : meth.sig.returnType = (Option.some FieldType.boolean)) : ∀ lv st M, BX2_isEmptyBehind_69 (Gd p l e (rmD 3) s m args below meth c 6 D ca ad A 0 0 (MQ below (QC D ca ad A Q) args s 0 0 A)) Q lv st M → Gd p l e (rmD 3) s m args below meth c 6 D ca ad A 0 0 (MQ below (QC D ca ad A Q) args s 0 0 A) 69 lv st M :=
  (sd_iconst hX dX2_isEmptyBehind_69 rfl sd_at)
def BX2_isEmptyBehind_70 (G : Nat → KT) (Q : Option mV → mM → Prop) : KT := (s_zret Q)
set_option maxRecDepth 4000 in
theorem bsX2_isEmptyBehind_70 {p : Program} {l : Launch} {e : Env} {s : State} {m : MethodId} {args : Array Value} {below : List Frame} {meth : Method} {c : Code} {D : va_G} {ca : Nat → ClassId} {ad : Nat → Nat} {A : Nat → Prop} {Q : Option mV → mM → Prop} (hX : CX p s m args meth c 6 cX2_isEmptyBehind "FairBlocks$Chances" D ca ad A) (hr : meth.sig.returnType = (Option.some FieldType.boolean)) : ∀ lv st M, BX2_isEmptyBehind_70 (Gd p l e (rmD 3) s m args below meth c 6 D ca ad A 0 0 (MQ below (QC D ca ad A Q) args s 0 0 A)) Q lv st M → Gd p l e (rmD 3) s m args below meth c 6 D ca ad A 0 0 (MQ below (QC D ca ad A Q) args s 0 0 A) 70 lv st M :=
  sd_zret hX hr dX2_isEmptyBehind_70
set_option maxHeartbeats 400000 in
theorem pf_X2_isEmptyBehind (G : Nat → KT) (Q : Option mV → mM → Prop) (h0 : ∀ lv st M, BX2_isEmptyBehind_0 G Q lv st M → G 0 lv st M) (h12 : ∀ lv st M, BX2_isEmptyBehind_12 G Q lv st M → G 12 lv st M) (h41 : ∀ lv st M, BX2_isEmptyBehind_41 G Q lv st M → G 41 lv st M) (h42 : ∀ lv st M, BX2_isEmptyBehind_42 G Q lv st M → G 42 lv st M) (h52 : ∀ lv st M, BX2_isEmptyBehind_52 G Q lv st M → G 52 lv st M) (h69 : ∀ lv st M, BX2_isEmptyBehind_69 G Q lv st M → G 69 lv st M) (h70 : ∀ lv st M, BX2_isEmptyBehind_70 G Q lv st M → G 70 lv st M) (as : List mV) (M : mM) (ho : ∀ v ∈ as, okV v) (hp : pre_X2_isEmptyBehind as M) (hQ : Q (fn_X2_isEmptyBehind as M).1 (fn_X2_isEmptyBehind as M).2) : G 0 (inL as ++ List.replicate (6 - (inL as).length) none) [] M := by
  obtain ⟨c, u, x, f, rfl, hG, ⟨U, hU, rfl⟩, N, hN, rfl⟩ := hp
  have eU : (nI U).toNatClampNeg = U := nI_clamp (by omega)
  simp only [fn_X2_isEmptyBehind, ie, ieM, eU, nI_clamp hN] at hQ
  have loop : ∀ (n i : Nat) (M : mM), i + n = N → PL M → Q (some (.inl (if (itr (ieS f) i n M).1 (16 + U) 4 + (itr (ieS f) i n M).1 (16 + U) 5 = 0 then 1 else 0))) (itr (ieS f) i n M) → G 12 [some (.inr (.inr (2, c))), some (.inl (nI U)), some (.inl (nI N)), some (.inl f), some (.inr (.inr (8, 14))), some (.inl (nI i))] [] M := by
    intro n
    induction n with
    | zero =>
      intro i M hi hPL hq
      obtain rfl : i = N := by omega
      (apply h12; simp only [BX2_isEmptyBehind_12, s_mth, s_mab, s_at, s_iconst, s_lconst, s_iload, s_lload, s_aload, s_istore, s_lstore, s_astore, s_iinc, s_bin, s_binG, s_un, s_lbin, s_lbinG, s_lsh, s_lcmp, s_i2l, s_l2i, s_dup, s_dup2, s_pop, s_if, s_icmp, s_geti, s_getl, s_getr, s_puti, s_putz, s_putl, s_iald, s_zald, s_iast, s_zast, s_aaldS, s_aaldU, s_gets, s_tald, s_tsw, tsw, s_iret, s_zret, s_lret, s_aret, s_vret, s_callV, s_callS, c1, nl1, keepL, csum, pushR, inL, List.getD_cons_zero, List.getD_cons_succ, List.set_cons_zero, List.set_cons_succ, List.cons_append, List.nil_append, List.append_nil, List.replicate, List.length_cons, List.length_nil, List.take_succ_cons, List.take_zero, List.drop_succ_cons, List.drop_zero, List.reverse_cons, List.reverse_nil, true_and, and_true, forall_const, not_true_eq_false, not_false_eq_true, false_implies, true_implies, implies_true, one0, m10, Nat.reduceAdd, Nat.reduceSub, Nat.reduceLeDiff, Nat.zero_add, Nat.add_zero, fn_X10_waiting, fn_X1_freshTrial, fn_X6_runOne])
      refine ⟨fun _ => ?_, fun h => absurd (nI_le (Nat.le_refl _) (by omega)) h⟩
      (apply h52; simp only [BX2_isEmptyBehind_52, s_mth, s_mab, s_at, s_iconst, s_lconst, s_iload, s_lload, s_aload, s_istore, s_lstore, s_astore, s_iinc, s_bin, s_binG, s_un, s_lbin, s_lbinG, s_lsh, s_lcmp, s_i2l, s_l2i, s_dup, s_dup2, s_pop, s_if, s_icmp, s_geti, s_getl, s_getr, s_puti, s_putz, s_putl, s_iald, s_zald, s_iast, s_zast, s_aaldS, s_aaldU, s_gets, s_tald, s_tsw, tsw, s_iret, s_zret, s_lret, s_aret, s_vret, s_callV, s_callS, c1, nl1, keepL, csum, pushR, inL, List.getD_cons_zero, List.getD_cons_succ, List.set_cons_zero, List.set_cons_succ, List.cons_append, List.nil_append, List.append_nil, List.replicate, List.length_cons, List.length_nil, List.take_succ_cons, List.take_zero, List.drop_succ_cons, List.drop_zero, List.reverse_cons, List.reverse_nil, true_and, and_true, forall_const, not_true_eq_false, not_false_eq_true, false_implies, true_implies, implies_true, one0, m10, Nat.reduceAdd, Nat.reduceSub, Nat.reduceLeDiff, Nat.zero_add, Nat.add_zero, fn_X10_waiting, fn_X1_freshTrial, fn_X6_runOne])
      simp only [l15, eU]
      refine ⟨vp_in_nI hU (by decide), ⟨_, rfl⟩, fun h => ?_, fun h => ?_⟩
      · (apply h70; simp only [BX2_isEmptyBehind_70, s_mth, s_mab, s_at, s_iconst, s_lconst, s_iload, s_lload, s_aload, s_istore, s_lstore, s_astore, s_iinc, s_bin, s_binG, s_un, s_lbin, s_lbinG, s_lsh, s_lcmp, s_i2l, s_l2i, s_dup, s_dup2, s_pop, s_if, s_icmp, s_geti, s_getl, s_getr, s_puti, s_putz, s_putl, s_iald, s_zald, s_iast, s_zast, s_aaldS, s_aaldU, s_gets, s_tald, s_tsw, tsw, s_iret, s_zret, s_lret, s_aret, s_vret, s_callV, s_callS, c1, nl1, keepL, csum, pushR, inL, List.getD_cons_zero, List.getD_cons_succ, List.set_cons_zero, List.set_cons_succ, List.cons_append, List.nil_append, List.append_nil, List.replicate, List.length_cons, List.length_nil, List.take_succ_cons, List.take_zero, List.drop_succ_cons, List.drop_zero, List.reverse_cons, List.reverse_nil, true_and, and_true, forall_const, not_true_eq_false, not_false_eq_true, false_implies, true_implies, implies_true, one0, m10, Nat.reduceAdd, Nat.reduceSub, Nat.reduceLeDiff, Nat.zero_add, Nat.add_zero, fn_X10_waiting, fn_X1_freshTrial, fn_X6_runOne])
        exact ⟨by simp, by rw [itr, if_pos h] at hq; exact hq⟩
      · (apply h69; simp only [BX2_isEmptyBehind_69, s_mth, s_mab, s_at, s_iconst, s_lconst, s_iload, s_lload, s_aload, s_istore, s_lstore, s_astore, s_iinc, s_bin, s_binG, s_un, s_lbin, s_lbinG, s_lsh, s_lcmp, s_i2l, s_l2i, s_dup, s_dup2, s_pop, s_if, s_icmp, s_geti, s_getl, s_getr, s_puti, s_putz, s_putl, s_iald, s_zald, s_iast, s_zast, s_aaldS, s_aaldU, s_gets, s_tald, s_tsw, tsw, s_iret, s_zret, s_lret, s_aret, s_vret, s_callV, s_callS, c1, nl1, keepL, csum, pushR, inL, List.getD_cons_zero, List.getD_cons_succ, List.set_cons_zero, List.set_cons_succ, List.cons_append, List.nil_append, List.append_nil, List.replicate, List.length_cons, List.length_nil, List.take_succ_cons, List.take_zero, List.drop_succ_cons, List.drop_zero, List.reverse_cons, List.reverse_nil, true_and, and_true, forall_const, not_true_eq_false, not_false_eq_true, false_implies, true_implies, implies_true, one0, m10, Nat.reduceAdd, Nat.reduceSub, Nat.reduceLeDiff, Nat.zero_add, Nat.add_zero, fn_X10_waiting, fn_X1_freshTrial, fn_X6_runOne])
        (apply h70; simp only [BX2_isEmptyBehind_70, s_mth, s_mab, s_at, s_iconst, s_lconst, s_iload, s_lload, s_aload, s_istore, s_lstore, s_astore, s_iinc, s_bin, s_binG, s_un, s_lbin, s_lbinG, s_lsh, s_lcmp, s_i2l, s_l2i, s_dup, s_dup2, s_pop, s_if, s_icmp, s_geti, s_getl, s_getr, s_puti, s_putz, s_putl, s_iald, s_zald, s_iast, s_zast, s_aaldS, s_aaldU, s_gets, s_tald, s_tsw, tsw, s_iret, s_zret, s_lret, s_aret, s_vret, s_callV, s_callS, c1, nl1, keepL, csum, pushR, inL, List.getD_cons_zero, List.getD_cons_succ, List.set_cons_zero, List.set_cons_succ, List.cons_append, List.nil_append, List.append_nil, List.replicate, List.length_cons, List.length_nil, List.take_succ_cons, List.take_zero, List.drop_succ_cons, List.drop_zero, List.reverse_cons, List.reverse_nil, true_and, and_true, forall_const, not_true_eq_false, not_false_eq_true, false_implies, true_implies, implies_true, one0, m10, Nat.reduceAdd, Nat.reduceSub, Nat.reduceLeDiff, Nat.zero_add, Nat.add_zero, fn_X10_waiting, fn_X1_freshTrial, fn_X6_runOne])
        exact ⟨by simp, by rw [itr, if_neg h] at hq; exact hq⟩
    | succ n ih =>
      intro i M hi hPL hq
      have L : ∀ w : Int32, w = (if (f >>> (nI i &&& 31)) &&& 1 = 1 then 1 else 0) → G 42 [some (.inr (.inr (2, c))), some (.inl (nI U)), some (.inl (nI N)), some (.inl f), some (.inr (.inr (8, 14))), some (.inl (nI i))] [.inl w, .inr (.inr (8, 14)), .inr (.inr (6, 21))] M := by
        intro w ew
        (apply h42; simp only [BX2_isEmptyBehind_42, s_mth, s_mab, s_at, s_iconst, s_lconst, s_iload, s_lload, s_aload, s_istore, s_lstore, s_astore, s_iinc, s_bin, s_binG, s_un, s_lbin, s_lbinG, s_lsh, s_lcmp, s_i2l, s_l2i, s_dup, s_dup2, s_pop, s_if, s_icmp, s_geti, s_getl, s_getr, s_puti, s_putz, s_putl, s_iald, s_zald, s_iast, s_zast, s_aaldS, s_aaldU, s_gets, s_tald, s_tsw, tsw, s_iret, s_zret, s_lret, s_aret, s_vret, s_callV, s_callS, c1, nl1, keepL, csum, pushR, inL, List.getD_cons_zero, List.getD_cons_succ, List.set_cons_zero, List.set_cons_succ, List.cons_append, List.nil_append, List.append_nil, List.replicate, List.length_cons, List.length_nil, List.take_succ_cons, List.take_zero, List.drop_succ_cons, List.drop_zero, List.reverse_cons, List.reverse_nil, true_and, and_true, forall_const, not_true_eq_false, not_false_eq_true, false_implies, true_implies, implies_true, one0, m10, Nat.reduceAdd, Nat.reduceSub, Nat.reduceLeDiff, Nat.zero_add, Nat.add_zero, fn_X10_waiting, fn_X1_freshTrial, fn_X6_runOne])
        refine ⟨⟨_, _, _, rfl, hPL⟩, ?_⟩
        rw [nI_1]
        have e : (ro M 14 w).2 = ieS f i M := by rw [ew]; rfl
        rw [e]
        exact ih (i + 1) _ (by omega) (PL_ro k14 hPL) hq
      (apply h12; simp only [BX2_isEmptyBehind_12, s_mth, s_mab, s_at, s_iconst, s_lconst, s_iload, s_lload, s_aload, s_istore, s_lstore, s_astore, s_iinc, s_bin, s_binG, s_un, s_lbin, s_lbinG, s_lsh, s_lcmp, s_i2l, s_l2i, s_dup, s_dup2, s_pop, s_if, s_icmp, s_geti, s_getl, s_getr, s_puti, s_putz, s_putl, s_iald, s_zald, s_iast, s_zast, s_aaldS, s_aaldU, s_gets, s_tald, s_tsw, tsw, s_iret, s_zret, s_lret, s_aret, s_vret, s_callV, s_callS, c1, nl1, keepL, csum, pushR, inL, List.getD_cons_zero, List.getD_cons_succ, List.set_cons_zero, List.set_cons_succ, List.cons_append, List.nil_append, List.append_nil, List.replicate, List.length_cons, List.length_nil, List.take_succ_cons, List.take_zero, List.drop_succ_cons, List.drop_zero, List.reverse_cons, List.reverse_nil, true_and, and_true, forall_const, not_true_eq_false, not_false_eq_true, false_implies, true_implies, implies_true, one0, m10, Nat.reduceAdd, Nat.reduceSub, Nat.reduceLeDiff, Nat.zero_add, Nat.add_zero, fn_X10_waiting, fn_X1_freshTrial, fn_X6_runOne])
      refine ⟨fun h => absurd h (nI_ge (by omega) (by omega)), fun _ => ⟨fun h => ?_, fun h => ?_⟩⟩
      · exact L 1 (by rw [if_pos h])
      · (apply h41; simp only [BX2_isEmptyBehind_41, s_mth, s_mab, s_at, s_iconst, s_lconst, s_iload, s_lload, s_aload, s_istore, s_lstore, s_astore, s_iinc, s_bin, s_binG, s_un, s_lbin, s_lbinG, s_lsh, s_lcmp, s_i2l, s_l2i, s_dup, s_dup2, s_pop, s_if, s_icmp, s_geti, s_getl, s_getr, s_puti, s_putz, s_putl, s_iald, s_zald, s_iast, s_zast, s_aaldS, s_aaldU, s_gets, s_tald, s_tsw, tsw, s_iret, s_zret, s_lret, s_aret, s_vret, s_callV, s_callS, c1, nl1, keepL, csum, pushR, inL, List.getD_cons_zero, List.getD_cons_succ, List.set_cons_zero, List.set_cons_succ, List.cons_append, List.nil_append, List.append_nil, List.replicate, List.length_cons, List.length_nil, List.take_succ_cons, List.take_zero, List.drop_succ_cons, List.drop_zero, List.reverse_cons, List.reverse_nil, true_and, and_true, forall_const, not_true_eq_false, not_false_eq_true, false_implies, true_implies, implies_true, one0, m10, Nat.reduceAdd, Nat.reduceSub, Nat.reduceLeDiff, Nat.zero_add, Nat.add_zero, fn_X10_waiting, fn_X1_freshTrial, fn_X6_runOne])
        exact L 0 (by rw [if_neg h])
  (apply h0; simp only [BX2_isEmptyBehind_0, s_mth, s_mab, s_at, s_iconst, s_lconst, s_iload, s_lload, s_aload, s_istore, s_lstore, s_astore, s_iinc, s_bin, s_binG, s_un, s_lbin, s_lbinG, s_lsh, s_lcmp, s_i2l, s_l2i, s_dup, s_dup2, s_pop, s_if, s_icmp, s_geti, s_getl, s_getr, s_puti, s_putz, s_putl, s_iald, s_zald, s_iast, s_zast, s_aaldS, s_aaldU, s_gets, s_tald, s_tsw, tsw, s_iret, s_zret, s_lret, s_aret, s_vret, s_callV, s_callS, c1, nl1, keepL, csum, pushR, inL, List.getD_cons_zero, List.getD_cons_succ, List.set_cons_zero, List.set_cons_succ, List.cons_append, List.nil_append, List.append_nil, List.replicate, List.length_cons, List.length_nil, List.take_succ_cons, List.take_zero, List.drop_succ_cons, List.drop_zero, List.reverse_cons, List.reverse_nil, true_and, and_true, forall_const, not_true_eq_false, not_false_eq_true, false_implies, true_implies, implies_true, one0, m10, Nat.reduceAdd, Nat.reduceSub, Nat.reduceLeDiff, Nat.zero_add, Nat.add_zero, fn_X10_waiting, fn_X1_freshTrial, fn_X6_runOne])
  exact ⟨⟨_, rfl, hG.1⟩, loop N 0 _ (by omega) (PL_stc hG.2 k14) hQ⟩
theorem ct_X2_isEmptyBehind (l : Launch) : Con l yX2_isEmptyBehind cX2_isEmptyBehind 6 (Option.some FieldType.boolean) 3 pre_X2_isEmptyBehind fn_X2_isEmptyBehind := con_of (by decide +kernel) ok_X2_isEmptyBehind len_X2_isEmptyBehind (fun p e s m args below meth c D ca ad A as M hX hr hp ho => pf_X2_isEmptyBehind _ _ (bsX2_isEmptyBehind_0 hX hr) (bsX2_isEmptyBehind_12 hX hr) (bsX2_isEmptyBehind_41 hX hr) (bsX2_isEmptyBehind_42 hX hr) (bsX2_isEmptyBehind_52 hX hr) (bsX2_isEmptyBehind_69 hX hr) (bsX2_isEmptyBehind_70 hX hr) as M ho hp ⟨rfl, rfl⟩)
theorem shl1 : ∀ N, N ≤ 6 → (1 : Int32) <<< (nI N &&& 31) = nI (2 ^ N) := by decide +kernel
def lk (N : Nat) (x : Int32) (i : Nat) : Int32 := pw x (bc (nI i)).toNatClampNeg * pw (10 - x) (nI N - bc (nI i)).toNatClampNeg
def ebS (U N : Nat) (x : Int32) (i : Nat) (q : Int32 × mM) : Int32 × mM := if lk N x i ≤ 0 then q else if (ie q.2 U N (nI i)).1 = 0 then (q.1, (ie q.2 U N (nI i)).2) else (q.1 + lk N x i, (ie q.2 U N (nI i)).2)
def eb (M : mM) (U N : Nat) (x : Int32) : Int32 × mM := itr (ebS U N x) 0 (2 ^ N) (0, M)
def pre_X2_emptyBehind (as : List mV) (M : mM) : Prop := ∃ c u y x w, as = [.inr (.inr (2, c)), .inl u, .inl y, .inl x, .inl w] ∧ GD M ∧ (∃ j, j < 5 ∧ u = nI j) ∧ ∃ n, n ≤ 6 ∧ y = nI n
def fn_X2_emptyBehind : List mV → mM → Option mV × mM
  | [.inr (.inr (_, c)), .inl u, .inl y, .inl x, .inl w], M => (some (.inl (fra (eb M u.toNatClampNeg y.toNatClampNeg x).1 (pw 10 y.toNatClampNeg) w)), (eb M u.toNatClampNeg y.toNatClampNeg x).2)
  | _, M => (none, M)
theorem ok_X2_emptyBehind (as : List mV) (M : mM) (h : pre_X2_emptyBehind as M) (_ : ∀ v ∈ as, okV v) : okR (fn_X2_emptyBehind as M).1 := by
  obtain ⟨c, u, y, x, w, rfl, -⟩ := h
  first | trivial | exact (by decide +kernel : kof 14 = 8)
theorem len_X2_emptyBehind (as : List mV) (M : mM) (h : pre_X2_emptyBehind as M) : (inL as).length ≤ 9 := by
  obtain ⟨c, u, y, x, w, rfl, -⟩ := h
  exact Nat.le_of_ble_eq_true rfl


theorem dX2_emptyBehind_0 : decode cX2_emptyBehind 0 = .ok (.iconst 0, 1) := by decide +kernel
theorem dX2_emptyBehind_1 : decode cX2_emptyBehind 1 = .ok (.istore 5, 2) := by decide +kernel
theorem dX2_emptyBehind_3 : decode cX2_emptyBehind 3 = .ok (.iconst 0, 1) := by decide +kernel
theorem dX2_emptyBehind_4 : decode cX2_emptyBehind 4 = .ok (.istore 6, 2) := by decide +kernel
theorem dX2_emptyBehind_6 : decode cX2_emptyBehind 6 = .ok (.iload 6, 2) := by decide +kernel
theorem dX2_emptyBehind_8 : decode cX2_emptyBehind 8 = .ok (.iconst 1, 1) := by decide +kernel
theorem dX2_emptyBehind_9 : decode cX2_emptyBehind 9 = .ok (.iload_n 2, 1) := by decide +kernel
theorem dX2_emptyBehind_10 : decode cX2_emptyBehind 10 = .ok (.ishl, 1) := by decide +kernel
theorem dX2_emptyBehind_11 : decode cX2_emptyBehind 11 = .ok (.if_icmp .ge 59, 3) := by decide +kernel
theorem dX2_emptyBehind_14 : decode cX2_emptyBehind 14 = .ok (.iload 6, 2) := by decide +kernel
theorem dX2_emptyBehind_16 : decode cX2_emptyBehind 16 = .ok (.invokestatic 37, 3) := by decide +kernel
theorem dX2_emptyBehind_19 : decode cX2_emptyBehind 19 = .ok (.istore 7, 2) := by decide +kernel
theorem dX2_emptyBehind_21 : decode cX2_emptyBehind 21 = .ok (.iload_n 3, 1) := by decide +kernel
theorem dX2_emptyBehind_22 : decode cX2_emptyBehind 22 = .ok (.iload 7, 2) := by decide +kernel
theorem dX2_emptyBehind_24 : decode cX2_emptyBehind 24 = .ok (.invokestatic 75, 3) := by decide +kernel
theorem dX2_emptyBehind_27 : decode cX2_emptyBehind 27 = .ok (.bipush 10, 2) := by decide +kernel
theorem dX2_emptyBehind_29 : decode cX2_emptyBehind 29 = .ok (.iload_n 3, 1) := by decide +kernel
theorem dX2_emptyBehind_30 : decode cX2_emptyBehind 30 = .ok (.isub, 1) := by decide +kernel
theorem dX2_emptyBehind_31 : decode cX2_emptyBehind 31 = .ok (.iload_n 2, 1) := by decide +kernel
theorem dX2_emptyBehind_32 : decode cX2_emptyBehind 32 = .ok (.iload 7, 2) := by decide +kernel
theorem dX2_emptyBehind_34 : decode cX2_emptyBehind 34 = .ok (.isub, 1) := by decide +kernel
theorem dX2_emptyBehind_35 : decode cX2_emptyBehind 35 = .ok (.invokestatic 75, 3) := by decide +kernel
theorem dX2_emptyBehind_38 : decode cX2_emptyBehind 38 = .ok (.imul, 1) := by decide +kernel
theorem dX2_emptyBehind_39 : decode cX2_emptyBehind 39 = .ok (.istore 8, 2) := by decide +kernel
theorem dX2_emptyBehind_41 : decode cX2_emptyBehind 41 = .ok (.iload 8, 2) := by decide +kernel
theorem dX2_emptyBehind_43 : decode cX2_emptyBehind 43 = .ok (.ifCond .le 21, 3) := by decide +kernel
theorem dX2_emptyBehind_46 : decode cX2_emptyBehind 46 = .ok (.aload_n 0, 1) := by decide +kernel
theorem dX2_emptyBehind_47 : decode cX2_emptyBehind 47 = .ok (.iload_n 1, 1) := by decide +kernel
theorem dX2_emptyBehind_48 : decode cX2_emptyBehind 48 = .ok (.iload_n 2, 1) := by decide +kernel
theorem dX2_emptyBehind_49 : decode cX2_emptyBehind 49 = .ok (.iload 6, 2) := by decide +kernel
theorem dX2_emptyBehind_51 : decode cX2_emptyBehind 51 = .ok (.invokevirtual 79, 3) := by decide +kernel
theorem dX2_emptyBehind_54 : decode cX2_emptyBehind 54 = .ok (.ifCond .eq 10, 3) := by decide +kernel
theorem dX2_emptyBehind_57 : decode cX2_emptyBehind 57 = .ok (.iload 5, 2) := by decide +kernel
theorem dX2_emptyBehind_59 : decode cX2_emptyBehind 59 = .ok (.iload 8, 2) := by decide +kernel
theorem dX2_emptyBehind_61 : decode cX2_emptyBehind 61 = .ok (.iadd, 1) := by decide +kernel
theorem dX2_emptyBehind_62 : decode cX2_emptyBehind 62 = .ok (.istore 5, 2) := by decide +kernel
theorem dX2_emptyBehind_64 : decode cX2_emptyBehind 64 = .ok (.iinc 6 1, 3) := by decide +kernel
theorem dX2_emptyBehind_67 : decode cX2_emptyBehind 67 = .ok (.goto (-61), 3) := by decide +kernel
theorem dX2_emptyBehind_70 : decode cX2_emptyBehind 70 = .ok (.iload 5, 2) := by decide +kernel
theorem dX2_emptyBehind_72 : decode cX2_emptyBehind 72 = .ok (.bipush 10, 2) := by decide +kernel
theorem dX2_emptyBehind_74 : decode cX2_emptyBehind 74 = .ok (.iload_n 2, 1) := by decide +kernel
theorem dX2_emptyBehind_75 : decode cX2_emptyBehind 75 = .ok (.invokestatic 75, 3) := by decide +kernel
theorem dX2_emptyBehind_78 : decode cX2_emptyBehind 78 = .ok (.iload 4, 2) := by decide +kernel
theorem dX2_emptyBehind_80 : decode cX2_emptyBehind 80 = .ok (.invokestatic 48, 3) := by decide +kernel
theorem dX2_emptyBehind_83 : decode cX2_emptyBehind 83 = .ok (.ireturn, 1) := by decide +kernel
theorem mk_X2_emptyBehind : MVk yX2_emptyBehind "FairBlocks$Chances" cX2_emptyBehind 9 (Option.some FieldType.int) 4 := ⟨w_677, w_675, w_676, w_12, rfl, by decide +kernel, by decide +kernel, by decide +kernel⟩
def BX2_emptyBehind_0 (G : Nat → KT) (Q : Option mV → mM → Prop) : KT := (s_iconst (0) (s_istore 5 (s_iconst (0) (s_istore 6 (s_at G 6 [true, true, true, true, true, true, true, false, false])))))
set_option maxRecDepth 4000 in
theorem bsX2_emptyBehind_0 {p : Program} {l : Launch} {e : Env} {s : State} {m : MethodId} {args : Array Value} {below : List Frame} {meth : Method} {c : Code} {D : va_G} {ca : Nat → ClassId} {ad : Nat → Nat} {A : Nat → Prop} {Q : Option mV → mM → Prop} (hX : CX p s m args meth c 9 cX2_emptyBehind "FairBlocks$Chances" D ca ad A) (hr : meth.sig.returnType = (Option.some FieldType.int)) : ∀ lv st M, BX2_emptyBehind_0 (Gd p l e (rmD 4) s m args below meth c 9 D ca ad A 0 0 (MQ below (QC D ca ad A Q) args s 0 0 A)) Q lv st M → Gd p l e (rmD 4) s m args below meth c 9 D ca ad A 0 0 (MQ below (QC D ca ad A Q) args s 0 0 A) 0 lv st M :=
  (sd_iconst hX dX2_emptyBehind_0 rfl (sd_istore hX (by decide) dX2_emptyBehind_1 (sd_iconst hX dX2_emptyBehind_3 rfl (sd_istore hX (by decide) dX2_emptyBehind_4 sd_at))))
def BX2_emptyBehind_6 (G : Nat → KT) (Q : Option mV → mM → Prop) : KT := (s_iload 6 (s_iconst (1) (s_iload 2 (s_bin (fun x y => x <<< (y &&& 31)) (s_icmp (fun x y => y ≤ x) (s_at G 70 [false, false, true, false, true, true, false, false, false]) (s_iload 6 (s_callS 1 pre_J6_bitCount_0f7a4 fn_J6_bitCount_0f7a4 (s_istore 7 (s_iload 3 (s_iload 7 (s_callS 2 pre_X2_power fn_X2_power (s_iconst (10) (s_iload 3 (s_bin (fun x y => x - y) (s_iload 2 (s_iload 7 (s_bin (fun x y => x - y) (s_callS 2 pre_X2_power fn_X2_power (s_bin (fun x y => x * y) (s_istore 8 (s_iload 8 (s_if (fun x => x ≤ 0) (s_at G 64 [true, true, true, true, true, true, true, false, false]) (s_aload 0 (s_iload 1 (s_iload 2 (s_iload 6 (s_callV 2 3 pre_X2_isEmptyBehind fn_X2_isEmptyBehind (s_if (fun x => x = 0) (s_at G 64 [true, true, true, true, true, true, true, false, false]) (s_iload 5 (s_iload 8 (s_bin (fun x y => x + y) (s_istore 5 (s_at G 64 [true, true, true, true, true, true, true, false, false])))))))))))))))))))))))))))))))))
set_option maxRecDepth 4000 in
theorem bsX2_emptyBehind_6 {p : Program} {l : Launch} {e : Env} {s : State} {m : MethodId} {args : Array Value} {below : List Frame} {meth : Method} {c : Code} {D : va_G} {ca : Nat → ClassId} {ad : Nat → Nat} {A : Nat → Prop} {Q : Option mV → mM → Prop} (hX : CX p s m args meth c 9 cX2_emptyBehind "FairBlocks$Chances" D ca ad A) (hr : meth.sig.returnType = (Option.some FieldType.int)) : ∀ lv st M, BX2_emptyBehind_6 (Gd p l e (rmD 4) s m args below meth c 9 D ca ad A 0 0 (MQ below (QC D ca ad A Q) args s 0 0 A)) Q lv st M → Gd p l e (rmD 4) s m args below meth c 9 D ca ad A 0 0 (MQ below (QC D ca ad A Q) args s 0 0 A) 6 lv st M :=
  (sd_iload hX dX2_emptyBehind_6 (sd_iconst hX dX2_emptyBehind_8 rfl (sd_iload_n hX dX2_emptyBehind_9 rfl (sd_ishl hX dX2_emptyBehind_10 (sd_icmp_ge hX dX2_emptyBehind_11 (by decide) sd_at (sd_iload hX dX2_emptyBehind_14 (sd_callS hX (ct_J6_bitCount_0f7a4 l) mk_J6_bitCount_0f7a4 w_643 ⟨⟨by decide, by decide⟩, by decide, by decide⟩ dX2_emptyBehind_16 (sd_istore hX (by decide) dX2_emptyBehind_19 (sd_iload_n hX dX2_emptyBehind_21 rfl (sd_iload hX dX2_emptyBehind_22 (sd_callS hX (ct_X2_power l) mk_X2_power w_678 ⟨⟨by decide, by decide⟩, by decide, by decide⟩ dX2_emptyBehind_24 (sd_bipush hX dX2_emptyBehind_27 rfl (sd_iload_n hX dX2_emptyBehind_29 rfl (sd_isub hX dX2_emptyBehind_30 (sd_iload_n hX dX2_emptyBehind_31 rfl (sd_iload hX dX2_emptyBehind_32 (sd_isub hX dX2_emptyBehind_34 (sd_callS hX (ct_X2_power l) mk_X2_power w_678 ⟨⟨by decide, by decide⟩, by decide, by decide⟩ dX2_emptyBehind_35 (sd_imul hX dX2_emptyBehind_38 (sd_istore hX (by decide) dX2_emptyBehind_39 (sd_iload hX dX2_emptyBehind_41 (sd_if_le hX dX2_emptyBehind_43 (by decide) sd_at (sd_aload_n hX dX2_emptyBehind_46 rfl (sd_iload_n hX dX2_emptyBehind_47 rfl (sd_iload_n hX dX2_emptyBehind_48 rfl (sd_iload hX dX2_emptyBehind_49 (sd_callV hX (kd := 2) rfl (by decide) (ct_X2_isEmptyBehind l) mk_X2_isEmptyBehind w_681 ⟨⟨by decide, by decide⟩, by decide, by decide⟩ dX2_emptyBehind_51 (sd_if_eq hX dX2_emptyBehind_54 (by decide) sd_at (sd_iload hX dX2_emptyBehind_57 (sd_iload hX dX2_emptyBehind_59 (sd_iadd hX dX2_emptyBehind_61 (sd_istore hX (by decide) dX2_emptyBehind_62 sd_at))))))))))))))))))))))))))))))))
def BX2_emptyBehind_64 (G : Nat → KT) (Q : Option mV → mM → Prop) : KT := (s_iinc 6 (1) (s_at G 6 [true, true, true, true, true, true, true, false, false]))
set_option maxRecDepth 4000 in
theorem bsX2_emptyBehind_64 {p : Program} {l : Launch} {e : Env} {s : State} {m : MethodId} {args : Array Value} {below : List Frame} {meth : Method} {c : Code} {D : va_G} {ca : Nat → ClassId} {ad : Nat → Nat} {A : Nat → Prop} {Q : Option mV → mM → Prop} (hX : CX p s m args meth c 9 cX2_emptyBehind "FairBlocks$Chances" D ca ad A) (hr : meth.sig.returnType = (Option.some FieldType.int)) : ∀ lv st M, BX2_emptyBehind_64 (Gd p l e (rmD 4) s m args below meth c 9 D ca ad A 0 0 (MQ below (QC D ca ad A Q) args s 0 0 A)) Q lv st M → Gd p l e (rmD 4) s m args below meth c 9 D ca ad A 0 0 (MQ below (QC D ca ad A Q) args s 0 0 A) 64 lv st M :=
  (sd_iinc hX (by decide) dX2_emptyBehind_64 rfl (sd_goto hX dX2_emptyBehind_67 (by decide) sd_at))
def BX2_emptyBehind_70 (G : Nat → KT) (Q : Option mV → mM → Prop) : KT := (s_iload 5 (s_iconst (10) (s_iload 2 (s_callS 2 pre_X2_power fn_X2_power (s_iload 4 (s_callS 3 pre_X2_fraction fn_X2_fraction (s_iret Q)))))))
set_option maxRecDepth 4000 in
theorem bsX2_emptyBehind_70 {p : Program} {l : Launch} {e : Env} {s : State} {m : MethodId} {args : Array Value} {below : List Frame} {meth : Method} {c : Code} {D : va_G} {ca : Nat → ClassId} {ad : Nat → Nat} {A : Nat → Prop} {Q : Option mV → mM → Prop} (hX : CX p s m args meth c 9 cX2_emptyBehind "FairBlocks$Chances" D ca ad A) (hr : meth.sig.returnType = (Option.some FieldType.int)) : ∀ lv st M, BX2_emptyBehind_70 (Gd p l e (rmD 4) s m args below meth c 9 D ca ad A 0 0 (MQ below (QC D ca ad A Q) args s 0 0 A)) Q lv st M → Gd p l e (rmD 4) s m args below meth c 9 D ca ad A 0 0 (MQ below (QC D ca ad A Q) args s 0 0 A) 70 lv st M :=
  (sd_iload hX dX2_emptyBehind_70 (sd_bipush hX dX2_emptyBehind_72 rfl (sd_iload_n hX dX2_emptyBehind_74 rfl (sd_callS hX (ct_X2_power l) mk_X2_power w_678 ⟨⟨by decide, by decide⟩, by decide, by decide⟩ dX2_emptyBehind_75 (sd_iload hX dX2_emptyBehind_78 (sd_callS hX (ct_X2_fraction l) mk_X2_fraction w_661 ⟨⟨by decide, by decide⟩, by decide, by decide⟩ dX2_emptyBehind_80 (sd_iret hX hr dX2_emptyBehind_83)))))))
set_option maxHeartbeats 400000 in
theorem pf_X2_emptyBehind (G : Nat → KT) (Q : Option mV → mM → Prop) (h0 : ∀ lv st M, BX2_emptyBehind_0 G Q lv st M → G 0 lv st M) (h6 : ∀ lv st M, BX2_emptyBehind_6 G Q lv st M → G 6 lv st M) (h64 : ∀ lv st M, BX2_emptyBehind_64 G Q lv st M → G 64 lv st M) (h70 : ∀ lv st M, BX2_emptyBehind_70 G Q lv st M → G 70 lv st M) (as : List mV) (M : mM) (ho : ∀ v ∈ as, okV v) (hp : pre_X2_emptyBehind as M) (hQ : Q (fn_X2_emptyBehind as M).1 (fn_X2_emptyBehind as M).2) : G 0 (inL as ++ List.replicate (9 - (inL as).length) none) [] M := by
  obtain ⟨c, u, y, x, w, rfl, hG, ⟨U, hU, rfl⟩, N, hN, rfl⟩ := hp
  have eU : (nI U).toNatClampNeg = U := nI_clamp (by omega)
  have eN : (nI N).toNatClampNeg = N := nI_clamp (by omega)
  have hp64 : 2 ^ N ≤ 64 := by
    have := Nat.pow_le_pow_right (show 0 < 2 by decide) hN
    omega
  simp only [fn_X2_emptyBehind, eb, eU, eN] at hQ
  have loop : ∀ (n i : Nat) (a : Int32) (M : mM), i + n = 2 ^ N → GD M → Q (some (.inl (fra (itr (ebS U N x) i n (a, M)).1 (pw 10 N) w))) (itr (ebS U N x) i n (a, M)).2 → G 6 [some (.inr (.inr (2, c))), some (.inl (nI U)), some (.inl (nI N)), some (.inl x), some (.inl w), some (.inl a), some (.inl (nI i)), none, none] [] M := by
    intro n
    induction n with
    | zero =>
      intro i a M hi hG hq
      obtain rfl : i = 2 ^ N := by omega
      (apply h6; simp only [BX2_emptyBehind_6, s_mth, s_mab, s_at, s_iconst, s_lconst, s_iload, s_lload, s_aload, s_istore, s_lstore, s_astore, s_iinc, s_bin, s_binG, s_un, s_lbin, s_lbinG, s_lsh, s_lcmp, s_i2l, s_l2i, s_dup, s_dup2, s_pop, s_if, s_icmp, s_geti, s_getl, s_getr, s_puti, s_putz, s_putl, s_iald, s_zald, s_iast, s_zast, s_aaldS, s_aaldU, s_gets, s_tald, s_tsw, tsw, s_iret, s_zret, s_lret, s_aret, s_vret, s_callV, s_callS, c1, nl1, keepL, csum, pushR, inL, List.getD_cons_zero, List.getD_cons_succ, List.set_cons_zero, List.set_cons_succ, List.cons_append, List.nil_append, List.append_nil, List.replicate, List.length_cons, List.length_nil, List.take_succ_cons, List.take_zero, List.drop_succ_cons, List.drop_zero, List.reverse_cons, List.reverse_nil, true_and, and_true, forall_const, not_true_eq_false, not_false_eq_true, false_implies, true_implies, implies_true, one0, m10, Nat.reduceAdd, Nat.reduceSub, Nat.reduceLeDiff, Nat.zero_add, Nat.add_zero, fn_J6_bitCount_0f7a4, fn_X2_fraction, fn_X2_isEmptyBehind, fn_X2_power])
      rw [shl1 N hN]
      refine ⟨fun _ => ?_, fun h => absurd (nI_le (Nat.le_refl _) (by omega)) h⟩
      (apply h70; simp only [BX2_emptyBehind_70, s_mth, s_mab, s_at, s_iconst, s_lconst, s_iload, s_lload, s_aload, s_istore, s_lstore, s_astore, s_iinc, s_bin, s_binG, s_un, s_lbin, s_lbinG, s_lsh, s_lcmp, s_i2l, s_l2i, s_dup, s_dup2, s_pop, s_if, s_icmp, s_geti, s_getl, s_getr, s_puti, s_putz, s_putl, s_iald, s_zald, s_iast, s_zast, s_aaldS, s_aaldU, s_gets, s_tald, s_tsw, tsw, s_iret, s_zret, s_lret, s_aret, s_vret, s_callV, s_callS, c1, nl1, keepL, csum, pushR, inL, List.getD_cons_zero, List.getD_cons_succ, List.set_cons_zero, List.set_cons_succ, List.cons_append, List.nil_append, List.append_nil, List.replicate, List.length_cons, List.length_nil, List.take_succ_cons, List.take_zero, List.drop_succ_cons, List.drop_zero, List.reverse_cons, List.reverse_nil, true_and, and_true, forall_const, not_true_eq_false, not_false_eq_true, false_implies, true_implies, implies_true, one0, m10, Nat.reduceAdd, Nat.reduceSub, Nat.reduceLeDiff, Nat.zero_add, Nat.add_zero, fn_J6_bitCount_0f7a4, fn_X2_fraction, fn_X2_isEmptyBehind, fn_X2_power])
      simp only [eN]
      exact ⟨⟨_, _, rfl⟩, ⟨_, _, _, rfl⟩, hq⟩
    | succ n ih =>
      intro i a M hi hG hq
      have L : ∀ a2 M2, (a2, M2) = ebS U N x i (a, M) → GD M2 → G 64 [some (.inr (.inr (2, c))), some (.inl (nI U)), some (.inl (nI N)), some (.inl x), some (.inl w), some (.inl a2), some (.inl (nI i)), none, none] [] M2 := by
        intro a2 M2 e h
        (apply h64; simp only [BX2_emptyBehind_64, s_mth, s_mab, s_at, s_iconst, s_lconst, s_iload, s_lload, s_aload, s_istore, s_lstore, s_astore, s_iinc, s_bin, s_binG, s_un, s_lbin, s_lbinG, s_lsh, s_lcmp, s_i2l, s_l2i, s_dup, s_dup2, s_pop, s_if, s_icmp, s_geti, s_getl, s_getr, s_puti, s_putz, s_putl, s_iald, s_zald, s_iast, s_zast, s_aaldS, s_aaldU, s_gets, s_tald, s_tsw, tsw, s_iret, s_zret, s_lret, s_aret, s_vret, s_callV, s_callS, c1, nl1, keepL, csum, pushR, inL, List.getD_cons_zero, List.getD_cons_succ, List.set_cons_zero, List.set_cons_succ, List.cons_append, List.nil_append, List.append_nil, List.replicate, List.length_cons, List.length_nil, List.take_succ_cons, List.take_zero, List.drop_succ_cons, List.drop_zero, List.reverse_cons, List.reverse_nil, true_and, and_true, forall_const, not_true_eq_false, not_false_eq_true, false_implies, true_implies, implies_true, one0, m10, Nat.reduceAdd, Nat.reduceSub, Nat.reduceLeDiff, Nat.zero_add, Nat.add_zero, fn_J6_bitCount_0f7a4, fn_X2_fraction, fn_X2_isEmptyBehind, fn_X2_power])
        rw [nI_1]
        refine ih (i + 1) _ _ (by omega) h ?_
        rw [e]
        exact hq
      have hg : GD (ie M U N (nI i)).2 := GD_ieM hG
      (apply h6; simp only [BX2_emptyBehind_6, s_mth, s_mab, s_at, s_iconst, s_lconst, s_iload, s_lload, s_aload, s_istore, s_lstore, s_astore, s_iinc, s_bin, s_binG, s_un, s_lbin, s_lbinG, s_lsh, s_lcmp, s_i2l, s_l2i, s_dup, s_dup2, s_pop, s_if, s_icmp, s_geti, s_getl, s_getr, s_puti, s_putz, s_putl, s_iald, s_zald, s_iast, s_zast, s_aaldS, s_aaldU, s_gets, s_tald, s_tsw, tsw, s_iret, s_zret, s_lret, s_aret, s_vret, s_callV, s_callS, c1, nl1, keepL, csum, pushR, inL, List.getD_cons_zero, List.getD_cons_succ, List.set_cons_zero, List.set_cons_succ, List.cons_append, List.nil_append, List.append_nil, List.replicate, List.length_cons, List.length_nil, List.take_succ_cons, List.take_zero, List.drop_succ_cons, List.drop_zero, List.reverse_cons, List.reverse_nil, true_and, and_true, forall_const, not_true_eq_false, not_false_eq_true, false_implies, true_implies, implies_true, one0, m10, Nat.reduceAdd, Nat.reduceSub, Nat.reduceLeDiff, Nat.zero_add, Nat.add_zero, fn_J6_bitCount_0f7a4, fn_X2_fraction, fn_X2_isEmptyBehind, fn_X2_power])
      simp only [shl1 N hN, eU, eN]
      refine ⟨fun h => absurd h (nI_ge (by omega) (by omega)), fun _ => ⟨⟨_, rfl⟩, ⟨_, _, rfl⟩, ⟨_, _, rfl⟩, fun h => ?_, fun h => ⟨⟨_, _, _, _, rfl, hG, ⟨U, hU, rfl⟩, N, by omega, rfl⟩, fun h2 => ?_, fun h2 => ?_⟩⟩⟩
      · have h' : lk N x i ≤ 0 := h
        exact L _ _ (by rw [ebS, if_pos h']) hG
      · have h' : ¬ lk N x i ≤ 0 := h
        exact L _ _ (by rw [ebS, if_neg h', if_pos h2]) hg
      · have h' : ¬ lk N x i ≤ 0 := h
        exact L _ _ (by rw [ebS, if_neg h', if_neg h2]; rfl) hg
  (apply h0; simp only [BX2_emptyBehind_0, s_mth, s_mab, s_at, s_iconst, s_lconst, s_iload, s_lload, s_aload, s_istore, s_lstore, s_astore, s_iinc, s_bin, s_binG, s_un, s_lbin, s_lbinG, s_lsh, s_lcmp, s_i2l, s_l2i, s_dup, s_dup2, s_pop, s_if, s_icmp, s_geti, s_getl, s_getr, s_puti, s_putz, s_putl, s_iald, s_zald, s_iast, s_zast, s_aaldS, s_aaldU, s_gets, s_tald, s_tsw, tsw, s_iret, s_zret, s_lret, s_aret, s_vret, s_callV, s_callS, c1, nl1, keepL, csum, pushR, inL, List.getD_cons_zero, List.getD_cons_succ, List.set_cons_zero, List.set_cons_succ, List.cons_append, List.nil_append, List.append_nil, List.replicate, List.length_cons, List.length_nil, List.take_succ_cons, List.take_zero, List.drop_succ_cons, List.drop_zero, List.reverse_cons, List.reverse_nil, true_and, and_true, forall_const, not_true_eq_false, not_false_eq_true, false_implies, true_implies, implies_true, one0, m10, Nat.reduceAdd, Nat.reduceSub, Nat.reduceLeDiff, Nat.zero_add, Nat.add_zero, fn_J6_bitCount_0f7a4, fn_X2_fraction, fn_X2_isEmptyBehind, fn_X2_power])
  exact loop (2 ^ N) 0 0 M (by omega) hG hQ
theorem ct_X2_emptyBehind (l : Launch) : Con l yX2_emptyBehind cX2_emptyBehind 9 (Option.some FieldType.int) 4 pre_X2_emptyBehind fn_X2_emptyBehind := con_of (by decide +kernel) ok_X2_emptyBehind len_X2_emptyBehind (fun p e s m args below meth c D ca ad A as M hX hr hp ho => pf_X2_emptyBehind _ _ (bsX2_emptyBehind_0 hX hr) (bsX2_emptyBehind_6 hX hr) (bsX2_emptyBehind_64 hX hr) (bsX2_emptyBehind_70 hX hr) as M ho hp ⟨rfl, rfl⟩)
def alB (M : mM) : Int32 := ((1 : Int32) <<< (M.1 4 2 &&& 31) - 1) &&& (itr (offS M 7) 0 (nU M) 0 ^^^ -1)
def shO (m : Int32) (i : Nat) : Int32 := fac (bc (nI i)) * fac (m - 1 - bc (nI i))
def shS (al mi m : Int32) (i : Nat) (q : Int32 × mM) : Int32 × mM := if nI i &&& (al ^^^ -1) = 0 then (if nI i &&& mi = 0 then (q.1 + shO m i * ((gW q.2 (nI i ||| mi)).1 - (gW (gW q.2 (nI i ||| mi)).2 (nI i)).1), (gW (gW q.2 (nI i ||| mi)).2 (nI i)).2) else q) else q
def shF (M : mM) (u : Int32) : Int32 × mM := itr (shS (alB M) ((1 : Int32) <<< (u &&& 31)) (bc (alB M))) 0 ((alB M).toNatClampNeg + 1) (0, M)
theorem alB_v {M : mM} (h : PL M) : ∃ a, a < 32 ∧ alB M = nI a := by
  have hn := n5 h
  unfold alB
  rw [uN h, shl1 _ (by omega)]
  have h2 : 2 ^ nU M ≤ 32 := by
    have := Nat.pow_le_pow_right (show 0 < 2 by decide) hn
    omega
  have h1 : 0 < 2 ^ nU M := Nat.pow_pos (by decide)
  rw [show (1 : Int32) = nI 1 from rfl, pk_sub (by omega), Int32.and_comm]
  have e := pk_and (itr (offS M 7) 0 (nU M) 0 ^^^ -1) (m := nI (2 ^ nU M - 1)) (nU M) (pk_tn (by omega))
  refine ⟨_, ?_, e⟩
  have := Nat.mod_lt ((itr (offS M 7) 0 (nU M) 0 ^^^ -1).toBitVec.toNat) h1
  omega
def pre_X2_shareOf (as : List mV) (M : mM) : Prop := ∃ c u w, as = [.inr (.inr (2, c)), .inl u, .inl w] ∧ GD M
def fn_X2_shareOf : List mV → mM → Option mV × mM
  | [.inr (.inr (_, c)), .inl u, .inl w], M => (some (.inl (fra (shF M u).1 (fac (bc (alB M))) w)), (shF M u).2)
  | _, M => (none, M)
theorem ok_X2_shareOf (as : List mV) (M : mM) (h : pre_X2_shareOf as M) (_ : ∀ v ∈ as, okV v) : okR (fn_X2_shareOf as M).1 := by
  obtain ⟨c, u, w, rfl, -⟩ := h
  first | trivial | exact (by decide +kernel : kof 14 = 8)
theorem len_X2_shareOf (as : List mV) (M : mM) (h : pre_X2_shareOf as M) : (inL as).length ≤ 10 := by
  obtain ⟨c, u, w, rfl, -⟩ := h
  exact Nat.le_of_ble_eq_true rfl

theorem fl_195 : FLk "FairBlocks$Chances" 27 1 1 11 := ⟨RX1, TX1, 4, rfl, inX1, by decide, w_195, by decide, rfl⟩
theorem dX2_shareOf_0 : decode cX2_shareOf 0 = .ok (.iconst 1, 1) := by decide +kernel
theorem dX2_shareOf_1 : decode cX2_shareOf 1 = .ok (.aload_n 0, 1) := by decide +kernel
theorem dX2_shareOf_2 : decode cX2_shareOf 2 = .ok (.getfield 9, 3) := by decide +kernel
theorem dX2_shareOf_5 : decode cX2_shareOf 5 = .ok (.getfield 15, 3) := by decide +kernel
theorem dX2_shareOf_8 : decode cX2_shareOf 8 = .ok (.getfield 21, 3) := by decide +kernel
theorem dX2_shareOf_11 : decode cX2_shareOf 11 = .ok (.ishl, 1) := by decide +kernel
theorem dX2_shareOf_12 : decode cX2_shareOf 12 = .ok (.iconst 1, 1) := by decide +kernel
theorem dX2_shareOf_13 : decode cX2_shareOf 13 = .ok (.isub, 1) := by decide +kernel
theorem dX2_shareOf_14 : decode cX2_shareOf 14 = .ok (.aload_n 0, 1) := by decide +kernel
theorem dX2_shareOf_15 : decode cX2_shareOf 15 = .ok (.getfield 9, 3) := by decide +kernel
theorem dX2_shareOf_18 : decode cX2_shareOf 18 = .ok (.getfield 27, 3) := by decide +kernel
theorem dX2_shareOf_21 : decode cX2_shareOf 21 = .ok (.aload_n 0, 1) := by decide +kernel
theorem dX2_shareOf_22 : decode cX2_shareOf 22 = .ok (.getfield 9, 3) := by decide +kernel
theorem dX2_shareOf_25 : decode cX2_shareOf 25 = .ok (.getfield 15, 3) := by decide +kernel
theorem dX2_shareOf_28 : decode cX2_shareOf 28 = .ok (.getfield 21, 3) := by decide +kernel
theorem dX2_shareOf_31 : decode cX2_shareOf 31 = .ok (.invokevirtual 31, 3) := by decide +kernel
theorem dX2_shareOf_34 : decode cX2_shareOf 34 = .ok (.iconst (-1), 1) := by decide +kernel
theorem dX2_shareOf_35 : decode cX2_shareOf 35 = .ok (.ixor, 1) := by decide +kernel
theorem dX2_shareOf_36 : decode cX2_shareOf 36 = .ok (.iand, 1) := by decide +kernel
theorem dX2_shareOf_37 : decode cX2_shareOf 37 = .ok (.istore_n 3, 1) := by decide +kernel
theorem dX2_shareOf_38 : decode cX2_shareOf 38 = .ok (.iload_n 3, 1) := by decide +kernel
theorem dX2_shareOf_39 : decode cX2_shareOf 39 = .ok (.invokestatic 37, 3) := by decide +kernel
theorem dX2_shareOf_42 : decode cX2_shareOf 42 = .ok (.istore 4, 2) := by decide +kernel
theorem dX2_shareOf_44 : decode cX2_shareOf 44 = .ok (.iconst 1, 1) := by decide +kernel
theorem dX2_shareOf_45 : decode cX2_shareOf 45 = .ok (.iload_n 1, 1) := by decide +kernel
theorem dX2_shareOf_46 : decode cX2_shareOf 46 = .ok (.ishl, 1) := by decide +kernel
theorem dX2_shareOf_47 : decode cX2_shareOf 47 = .ok (.istore 5, 2) := by decide +kernel
theorem dX2_shareOf_49 : decode cX2_shareOf 49 = .ok (.iconst 0, 1) := by decide +kernel
theorem dX2_shareOf_50 : decode cX2_shareOf 50 = .ok (.istore 6, 2) := by decide +kernel
theorem dX2_shareOf_52 : decode cX2_shareOf 52 = .ok (.iconst 0, 1) := by decide +kernel
theorem dX2_shareOf_53 : decode cX2_shareOf 53 = .ok (.istore 7, 2) := by decide +kernel
theorem dX2_shareOf_55 : decode cX2_shareOf 55 = .ok (.iload 7, 2) := by decide +kernel
theorem dX2_shareOf_57 : decode cX2_shareOf 57 = .ok (.iload_n 3, 1) := by decide +kernel
theorem dX2_shareOf_58 : decode cX2_shareOf 58 = .ok (.if_icmp .gt 75, 3) := by decide +kernel
theorem dX2_shareOf_61 : decode cX2_shareOf 61 = .ok (.iload 7, 2) := by decide +kernel
theorem dX2_shareOf_63 : decode cX2_shareOf 63 = .ok (.iload_n 3, 1) := by decide +kernel
theorem dX2_shareOf_64 : decode cX2_shareOf 64 = .ok (.iconst (-1), 1) := by decide +kernel
theorem dX2_shareOf_65 : decode cX2_shareOf 65 = .ok (.ixor, 1) := by decide +kernel
theorem dX2_shareOf_66 : decode cX2_shareOf 66 = .ok (.iand, 1) := by decide +kernel
theorem dX2_shareOf_67 : decode cX2_shareOf 67 = .ok (.ifCond .ne 60, 3) := by decide +kernel
theorem dX2_shareOf_70 : decode cX2_shareOf 70 = .ok (.iload 7, 2) := by decide +kernel
theorem dX2_shareOf_72 : decode cX2_shareOf 72 = .ok (.iload 5, 2) := by decide +kernel
theorem dX2_shareOf_74 : decode cX2_shareOf 74 = .ok (.iand, 1) := by decide +kernel
theorem dX2_shareOf_75 : decode cX2_shareOf 75 = .ok (.ifCond .ne 52, 3) := by decide +kernel
theorem dX2_shareOf_78 : decode cX2_shareOf 78 = .ok (.iload 7, 2) := by decide +kernel
theorem dX2_shareOf_80 : decode cX2_shareOf 80 = .ok (.invokestatic 37, 3) := by decide +kernel
theorem dX2_shareOf_83 : decode cX2_shareOf 83 = .ok (.istore 8, 2) := by decide +kernel
theorem dX2_shareOf_85 : decode cX2_shareOf 85 = .ok (.iload 8, 2) := by decide +kernel
theorem dX2_shareOf_87 : decode cX2_shareOf 87 = .ok (.invokestatic 42, 3) := by decide +kernel
theorem dX2_shareOf_90 : decode cX2_shareOf 90 = .ok (.iload 4, 2) := by decide +kernel
theorem dX2_shareOf_92 : decode cX2_shareOf 92 = .ok (.iconst 1, 1) := by decide +kernel
theorem dX2_shareOf_93 : decode cX2_shareOf 93 = .ok (.isub, 1) := by decide +kernel
theorem dX2_shareOf_94 : decode cX2_shareOf 94 = .ok (.iload 8, 2) := by decide +kernel
theorem dX2_shareOf_96 : decode cX2_shareOf 96 = .ok (.isub, 1) := by decide +kernel
theorem dX2_shareOf_97 : decode cX2_shareOf 97 = .ok (.invokestatic 42, 3) := by decide +kernel
theorem dX2_shareOf_100 : decode cX2_shareOf 100 = .ok (.imul, 1) := by decide +kernel
theorem dX2_shareOf_101 : decode cX2_shareOf 101 = .ok (.istore 9, 2) := by decide +kernel
theorem dX2_shareOf_103 : decode cX2_shareOf 103 = .ok (.iload 6, 2) := by decide +kernel
theorem dX2_shareOf_105 : decode cX2_shareOf 105 = .ok (.iload 9, 2) := by decide +kernel
theorem dX2_shareOf_107 : decode cX2_shareOf 107 = .ok (.aload_n 0, 1) := by decide +kernel
theorem dX2_shareOf_108 : decode cX2_shareOf 108 = .ok (.iload 7, 2) := by decide +kernel
theorem dX2_shareOf_110 : decode cX2_shareOf 110 = .ok (.iload 5, 2) := by decide +kernel
theorem dX2_shareOf_112 : decode cX2_shareOf 112 = .ok (.ior, 1) := by decide +kernel
theorem dX2_shareOf_113 : decode cX2_shareOf 113 = .ok (.invokevirtual 45, 3) := by decide +kernel
theorem dX2_shareOf_116 : decode cX2_shareOf 116 = .ok (.aload_n 0, 1) := by decide +kernel
theorem dX2_shareOf_117 : decode cX2_shareOf 117 = .ok (.iload 7, 2) := by decide +kernel
theorem dX2_shareOf_119 : decode cX2_shareOf 119 = .ok (.invokevirtual 45, 3) := by decide +kernel
theorem dX2_shareOf_122 : decode cX2_shareOf 122 = .ok (.isub, 1) := by decide +kernel
theorem dX2_shareOf_123 : decode cX2_shareOf 123 = .ok (.imul, 1) := by decide +kernel
theorem dX2_shareOf_124 : decode cX2_shareOf 124 = .ok (.iadd, 1) := by decide +kernel
theorem dX2_shareOf_125 : decode cX2_shareOf 125 = .ok (.istore 6, 2) := by decide +kernel
theorem dX2_shareOf_127 : decode cX2_shareOf 127 = .ok (.iinc 7 1, 3) := by decide +kernel
theorem dX2_shareOf_130 : decode cX2_shareOf 130 = .ok (.goto (-75), 3) := by decide +kernel
theorem dX2_shareOf_133 : decode cX2_shareOf 133 = .ok (.iload 6, 2) := by decide +kernel
theorem dX2_shareOf_135 : decode cX2_shareOf 135 = .ok (.iload 4, 2) := by decide +kernel
theorem dX2_shareOf_137 : decode cX2_shareOf 137 = .ok (.invokestatic 42, 3) := by decide +kernel
theorem dX2_shareOf_140 : decode cX2_shareOf 140 = .ok (.iload_n 2, 1) := by decide +kernel
theorem dX2_shareOf_141 : decode cX2_shareOf 141 = .ok (.invokestatic 48, 3) := by decide +kernel
theorem dX2_shareOf_144 : decode cX2_shareOf 144 = .ok (.ireturn, 1) := by decide +kernel
theorem mk_X2_shareOf : MVk yX2_shareOf "FairBlocks$Chances" cX2_shareOf 10 (Option.some FieldType.int) 2 := ⟨w_638, w_636, w_637, w_12, rfl, by decide +kernel, by decide +kernel, by decide +kernel⟩
def BX2_shareOf_0 (G : Nat → KT) (Q : Option mV → mM → Prop) : KT := (s_iconst (1) (s_aload 0 (s_getr 2 1 (fun _ => 3) (s_getr 1 5 (fun _ => 4) (s_geti 5 2 (s_bin (fun x y => x <<< (y &&& 31)) (s_iconst (1) (s_bin (fun x y => x - y) (s_aload 0 (s_getr 2 1 (fun _ => 3) (s_getr 1 8 (fun _ => 7) (s_aload 0 (s_getr 2 1 (fun _ => 3) (s_getr 1 5 (fun _ => 4) (s_geti 5 2 (s_callV 8 1 pre_X8_offBits fn_X8_offBits (s_iconst (-1) (s_bin (fun x y => x ^^^ y) (s_bin (fun x y => x &&& y) (s_istore 3 (s_iload 3 (s_callS 1 pre_J6_bitCount_0f7a4 fn_J6_bitCount_0f7a4 (s_istore 4 (s_iconst (1) (s_iload 1 (s_bin (fun x y => x <<< (y &&& 31)) (s_istore 5 (s_iconst (0) (s_istore 6 (s_iconst (0) (s_istore 7 (s_at G 55 [true, false, true, true, true, true, true, true, false, false]))))))))))))))))))))))))))))))))
set_option maxRecDepth 4000 in
theorem bsX2_shareOf_0 {p : Program} {l : Launch} {e : Env} {s : State} {m : MethodId} {args : Array Value} {below : List Frame} {meth : Method} {c : Code} {D : va_G} {ca : Nat → ClassId} {ad : Nat → Nat} {A : Nat → Prop} {Q : Option mV → mM → Prop} (hX : CX p s m args meth c 10 cX2_shareOf "FairBlocks$Chances" D ca ad A) (hr : meth.sig.returnType = (Option.some FieldType.int)) : ∀ lv st M, BX2_shareOf_0 (Gd p l e (rmD 5) s m args below meth c 10 D ca ad A 0 0 (MQ below (QC D ca ad A Q) args s 0 0 A)) Q lv st M → Gd p l e (rmD 5) s m args below meth c 10 D ca ad A 0 0 (MQ below (QC D ca ad A Q) args s 0 0 A) 0 lv st M :=
  (sd_iconst hX dX2_shareOf_0 rfl (sd_aload_n hX dX2_shareOf_1 rfl (sd_getr hX fl_297 (fun _ => rfl) (fun _ _ _ => by decide +kernel) dX2_shareOf_2 (sd_getr hX fl_189 (fun _ => rfl) (fun _ _ _ => by decide +kernel) dX2_shareOf_5 (sd_geti hX fl_61 (by decide) dX2_shareOf_8 (sd_ishl hX dX2_shareOf_11 (sd_iconst hX dX2_shareOf_12 rfl (sd_isub hX dX2_shareOf_13 (sd_aload_n hX dX2_shareOf_14 rfl (sd_getr hX fl_297 (fun _ => rfl) (fun _ _ _ => by decide +kernel) dX2_shareOf_15 (sd_getr hX fl_195 (fun _ => rfl) (fun _ _ _ => by decide +kernel) dX2_shareOf_18 (sd_aload_n hX dX2_shareOf_21 rfl (sd_getr hX fl_297 (fun _ => rfl) (fun _ _ _ => by decide +kernel) dX2_shareOf_22 (sd_getr hX fl_189 (fun _ => rfl) (fun _ _ _ => by decide +kernel) dX2_shareOf_25 (sd_geti hX fl_61 (by decide) dX2_shareOf_28 (sd_callV hX (kd := 8) rfl (by decide) (ct_X8_offBits l) mk_X8_offBits w_639 ⟨⟨by decide, by decide⟩, by decide, by decide⟩ dX2_shareOf_31 (sd_iconst hX dX2_shareOf_34 rfl (sd_ixor hX dX2_shareOf_35 (sd_iand hX dX2_shareOf_36 (sd_istore_n hX (by decide) dX2_shareOf_37 rfl (sd_iload_n hX dX2_shareOf_38 rfl (sd_callS hX (ct_J6_bitCount_0f7a4 l) mk_J6_bitCount_0f7a4 w_643 ⟨⟨by decide, by decide⟩, by decide, by decide⟩ dX2_shareOf_39 (sd_istore hX (by decide) dX2_shareOf_42 (sd_iconst hX dX2_shareOf_44 rfl (sd_iload_n hX dX2_shareOf_45 rfl (sd_ishl hX dX2_shareOf_46 (sd_istore hX (by decide) dX2_shareOf_47 (sd_iconst hX dX2_shareOf_49 rfl (sd_istore hX (by decide) dX2_shareOf_50 (sd_iconst hX dX2_shareOf_52 rfl (sd_istore hX (by decide) dX2_shareOf_53 sd_at)))))))))))))))))))))))))))))))
def BX2_shareOf_55 (G : Nat → KT) (Q : Option mV → mM → Prop) : KT := (s_iload 7 (s_iload 3 (s_icmp (fun x y => y < x) (s_at G 133 [false, false, true, false, true, false, true, false, false, false]) (s_iload 7 (s_iload 3 (s_iconst (-1) (s_bin (fun x y => x ^^^ y) (s_bin (fun x y => x &&& y) (s_if (fun x => x = 0) ((s_iload 7 (s_iload 5 (s_bin (fun x y => x &&& y) (s_if (fun x => x = 0) ((s_iload 7 (s_callS 1 pre_J6_bitCount_0f7a4 fn_J6_bitCount_0f7a4 (s_istore 8 (s_iload 8 (s_callS 1 pre_X2_factorial fn_X2_factorial (s_iload 4 (s_iconst (1) (s_bin (fun x y => x - y) (s_iload 8 (s_bin (fun x y => x - y) (s_callS 1 pre_X2_factorial fn_X2_factorial (s_bin (fun x y => x * y) (s_istore 9 (s_iload 6 (s_iload 9 (s_aload 0 (s_iload 7 (s_iload 5 (s_bin (fun x y => x ||| y) (s_callV 2 1 pre_X2_gotWith fn_X2_gotWith (s_aload 0 (s_iload 7 (s_callV 2 1 pre_X2_gotWith fn_X2_gotWith (s_bin (fun x y => x - y) (s_bin (fun x y => x * y) (s_bin (fun x y => x + y) (s_istore 6 (s_at G 127 [true, false, true, true, true, true, true, true, false, false]))))))))))))))))))))))))))))) (s_at G 127 [true, false, true, true, true, true, true, true, false, false])))))) (s_at G 127 [true, false, true, true, true, true, true, true, false, false]))))))))))
set_option maxRecDepth 4000 in
theorem bsX2_shareOf_55 {p : Program} {l : Launch} {e : Env} {s : State} {m : MethodId} {args : Array Value} {below : List Frame} {meth : Method} {c : Code} {D : va_G} {ca : Nat → ClassId} {ad : Nat → Nat} {A : Nat → Prop} {Q : Option mV → mM → Prop} (hX : CX p s m args meth c 10 cX2_shareOf "FairBlocks$Chances" D ca ad A) (hr : meth.sig.returnType = (Option.some FieldType.int)) : ∀ lv st M, BX2_shareOf_55 (Gd p l e (rmD 5) s m args below meth c 10 D ca ad A 0 0 (MQ below (QC D ca ad A Q) args s 0 0 A)) Q lv st M → Gd p l e (rmD 5) s m args below meth c 10 D ca ad A 0 0 (MQ below (QC D ca ad A Q) args s 0 0 A) 55 lv st M :=
  (sd_iload hX dX2_shareOf_55 (sd_iload_n hX dX2_shareOf_57 rfl (sd_icmp_gt hX dX2_shareOf_58 (by decide) sd_at (sd_iload hX dX2_shareOf_61 (sd_iload_n hX dX2_shareOf_63 rfl (sd_iconst hX dX2_shareOf_64 rfl (sd_ixor hX dX2_shareOf_65 (sd_iand hX dX2_shareOf_66 (sd_if_ne hX dX2_shareOf_67 (by decide) sd_at (sd_iload hX dX2_shareOf_70 (sd_iload hX dX2_shareOf_72 (sd_iand hX dX2_shareOf_74 (sd_if_ne hX dX2_shareOf_75 (by decide) sd_at (sd_iload hX dX2_shareOf_78 (sd_callS hX (ct_J6_bitCount_0f7a4 l) mk_J6_bitCount_0f7a4 w_643 ⟨⟨by decide, by decide⟩, by decide, by decide⟩ dX2_shareOf_80 (sd_istore hX (by decide) dX2_shareOf_83 (sd_iload hX dX2_shareOf_85 (sd_callS hX (ct_X2_factorial l) mk_X2_factorial w_649 ⟨⟨by decide, by decide⟩, by decide, by decide⟩ dX2_shareOf_87 (sd_iload hX dX2_shareOf_90 (sd_iconst hX dX2_shareOf_92 rfl (sd_isub hX dX2_shareOf_93 (sd_iload hX dX2_shareOf_94 (sd_isub hX dX2_shareOf_96 (sd_callS hX (ct_X2_factorial l) mk_X2_factorial w_649 ⟨⟨by decide, by decide⟩, by decide, by decide⟩ dX2_shareOf_97 (sd_imul hX dX2_shareOf_100 (sd_istore hX (by decide) dX2_shareOf_101 (sd_iload hX dX2_shareOf_103 (sd_iload hX dX2_shareOf_105 (sd_aload_n hX dX2_shareOf_107 rfl (sd_iload hX dX2_shareOf_108 (sd_iload hX dX2_shareOf_110 (sd_ior hX dX2_shareOf_112 (sd_callV hX (kd := 2) rfl (by decide) (ct_X2_gotWith l) mk_X2_gotWith w_655 ⟨⟨by decide, by decide⟩, by decide, by decide⟩ dX2_shareOf_113 (sd_aload_n hX dX2_shareOf_116 rfl (sd_iload hX dX2_shareOf_117 (sd_callV hX (kd := 2) rfl (by decide) (ct_X2_gotWith l) mk_X2_gotWith w_655 ⟨⟨by decide, by decide⟩, by decide, by decide⟩ dX2_shareOf_119 (sd_isub hX dX2_shareOf_122 (sd_imul hX dX2_shareOf_123 (sd_iadd hX dX2_shareOf_124 (sd_istore hX (by decide) dX2_shareOf_125 sd_at))))))))))))))))))))))))))))))))))))))))
def BX2_shareOf_127 (G : Nat → KT) (Q : Option mV → mM → Prop) : KT := (s_iinc 7 (1) (s_at G 55 [true, false, true, true, true, true, true, true, false, false]))
set_option maxRecDepth 4000 in
theorem bsX2_shareOf_127 {p : Program} {l : Launch} {e : Env} {s : State} {m : MethodId} {args : Array Value} {below : List Frame} {meth : Method} {c : Code} {D : va_G} {ca : Nat → ClassId} {ad : Nat → Nat} {A : Nat → Prop} {Q : Option mV → mM → Prop} (hX : CX p s m args meth c 10 cX2_shareOf "FairBlocks$Chances" D ca ad A) (hr : meth.sig.returnType = (Option.some FieldType.int)) : ∀ lv st M, BX2_shareOf_127 (Gd p l e (rmD 5) s m args below meth c 10 D ca ad A 0 0 (MQ below (QC D ca ad A Q) args s 0 0 A)) Q lv st M → Gd p l e (rmD 5) s m args below meth c 10 D ca ad A 0 0 (MQ below (QC D ca ad A Q) args s 0 0 A) 127 lv st M :=
  (sd_iinc hX (by decide) dX2_shareOf_127 rfl (sd_goto hX dX2_shareOf_130 (by decide) sd_at))
def BX2_shareOf_133 (G : Nat → KT) (Q : Option mV → mM → Prop) : KT := (s_iload 6 (s_iload 4 (s_callS 1 pre_X2_factorial fn_X2_factorial (s_iload 2 (s_callS 3 pre_X2_fraction fn_X2_fraction (s_iret Q))))))
set_option maxRecDepth 4000 in
theorem bsX2_shareOf_133 {p : Program} {l : Launch} {e : Env} {s : State} {m : MethodId} {args : Array Value} {below : List Frame} {meth : Method} {c : Code} {D : va_G} {ca : Nat → ClassId} {ad : Nat → Nat} {A : Nat → Prop} {Q : Option mV → mM → Prop} (hX : CX p s m args meth c 10 cX2_shareOf "FairBlocks$Chances" D ca ad A) (hr : meth.sig.returnType = (Option.some FieldType.int)) : ∀ lv st M, BX2_shareOf_133 (Gd p l e (rmD 5) s m args below meth c 10 D ca ad A 0 0 (MQ below (QC D ca ad A Q) args s 0 0 A)) Q lv st M → Gd p l e (rmD 5) s m args below meth c 10 D ca ad A 0 0 (MQ below (QC D ca ad A Q) args s 0 0 A) 133 lv st M :=
  (sd_iload hX dX2_shareOf_133 (sd_iload hX dX2_shareOf_135 (sd_callS hX (ct_X2_factorial l) mk_X2_factorial w_649 ⟨⟨by decide, by decide⟩, by decide, by decide⟩ dX2_shareOf_137 (sd_iload_n hX dX2_shareOf_140 rfl (sd_callS hX (ct_X2_fraction l) mk_X2_fraction w_661 ⟨⟨by decide, by decide⟩, by decide, by decide⟩ dX2_shareOf_141 (sd_iret hX hr dX2_shareOf_144))))))
set_option maxHeartbeats 400000 in
theorem pf_X2_shareOf (G : Nat → KT) (Q : Option mV → mM → Prop) (h0 : ∀ lv st M, BX2_shareOf_0 G Q lv st M → G 0 lv st M) (h55 : ∀ lv st M, BX2_shareOf_55 G Q lv st M → G 55 lv st M) (h127 : ∀ lv st M, BX2_shareOf_127 G Q lv st M → G 127 lv st M) (h133 : ∀ lv st M, BX2_shareOf_133 G Q lv st M → G 133 lv st M) (as : List mV) (M : mM) (ho : ∀ v ∈ as, okV v) (hp : pre_X2_shareOf as M) (hQ : Q (fn_X2_shareOf as M).1 (fn_X2_shareOf as M).2) : G 0 (inL as ++ List.replicate (10 - (inL as).length) none) [] M := by
  obtain ⟨c, u, w, rfl, hG⟩ := hp
  obtain ⟨A, hA, eA⟩ := alB_v hG.2
  have hn := n5 hG.2
  have hN := uN hG.2
  have eN : (nI (nU M)).toNatClampNeg = nU M := nI_clamp (by omega)
  simp only [fn_X2_shareOf, shF, eA, nI_clamp (show A < 2 ^ 31 by omega)] at hQ
  have loop : ∀ (n i : Nat) (t : Int32) (M : mM), i + n = A + 1 → GD M → Q (some (.inl (fra (itr (shS (nI A) ((1 : Int32) <<< (u &&& 31)) (bc (nI A))) i n (t, M)).1 (fac (bc (nI A))) w))) (itr (shS (nI A) ((1 : Int32) <<< (u &&& 31)) (bc (nI A))) i n (t, M)).2 → G 55 [some (.inr (.inr (2, c))), none, some (.inl w), some (.inl (nI A)), some (.inl (bc (nI A))), some (.inl ((1 : Int32) <<< (u &&& 31))), some (.inl t), some (.inl (nI i)), none, none] [] M := by
    intro n
    induction n with
    | zero =>
      intro i t M hi hG hq
      obtain rfl : i = A + 1 := by omega
      (apply h55; simp only [BX2_shareOf_55, s_mth, s_mab, s_at, s_iconst, s_lconst, s_iload, s_lload, s_aload, s_istore, s_lstore, s_astore, s_iinc, s_bin, s_binG, s_un, s_lbin, s_lbinG, s_lsh, s_lcmp, s_i2l, s_l2i, s_dup, s_dup2, s_pop, s_if, s_icmp, s_geti, s_getl, s_getr, s_puti, s_putz, s_putl, s_iald, s_zald, s_iast, s_zast, s_aaldS, s_aaldU, s_gets, s_tald, s_tsw, tsw, s_iret, s_zret, s_lret, s_aret, s_vret, s_callV, s_callS, c1, nl1, keepL, csum, pushR, inL, List.getD_cons_zero, List.getD_cons_succ, List.set_cons_zero, List.set_cons_succ, List.cons_append, List.nil_append, List.append_nil, List.replicate, List.length_cons, List.length_nil, List.take_succ_cons, List.take_zero, List.drop_succ_cons, List.drop_zero, List.reverse_cons, List.reverse_nil, true_and, and_true, forall_const, not_true_eq_false, not_false_eq_true, false_implies, true_implies, implies_true, one0, m10, Nat.reduceAdd, Nat.reduceSub, Nat.reduceLeDiff, Nat.zero_add, Nat.add_zero, fn_J6_bitCount_0f7a4, fn_X2_factorial, fn_X2_fraction, fn_X2_gotWith, fn_X8_offBits])
      refine ⟨fun _ => ?_, fun h => absurd (nI_lt (Nat.lt_succ_self A) (by omega)) h⟩
      (apply h133; simp only [BX2_shareOf_133, s_mth, s_mab, s_at, s_iconst, s_lconst, s_iload, s_lload, s_aload, s_istore, s_lstore, s_astore, s_iinc, s_bin, s_binG, s_un, s_lbin, s_lbinG, s_lsh, s_lcmp, s_i2l, s_l2i, s_dup, s_dup2, s_pop, s_if, s_icmp, s_geti, s_getl, s_getr, s_puti, s_putz, s_putl, s_iald, s_zald, s_iast, s_zast, s_aaldS, s_aaldU, s_gets, s_tald, s_tsw, tsw, s_iret, s_zret, s_lret, s_aret, s_vret, s_callV, s_callS, c1, nl1, keepL, csum, pushR, inL, List.getD_cons_zero, List.getD_cons_succ, List.set_cons_zero, List.set_cons_succ, List.cons_append, List.nil_append, List.append_nil, List.replicate, List.length_cons, List.length_nil, List.take_succ_cons, List.take_zero, List.drop_succ_cons, List.drop_zero, List.reverse_cons, List.reverse_nil, true_and, and_true, forall_const, not_true_eq_false, not_false_eq_true, false_implies, true_implies, implies_true, one0, m10, Nat.reduceAdd, Nat.reduceSub, Nat.reduceLeDiff, Nat.zero_add, Nat.add_zero, fn_J6_bitCount_0f7a4, fn_X2_factorial, fn_X2_fraction, fn_X2_gotWith, fn_X8_offBits])
      exact ⟨⟨_, rfl⟩, ⟨_, _, _, rfl⟩, hq⟩
    | succ n ih =>
      intro i t M hi hG hq
      have L : ∀ a2 M2, (a2, M2) = shS (nI A) ((1 : Int32) <<< (u &&& 31)) (bc (nI A)) i (t, M) → GD M2 → G 127 [some (.inr (.inr (2, c))), none, some (.inl w), some (.inl (nI A)), some (.inl (bc (nI A))), some (.inl ((1 : Int32) <<< (u &&& 31))), some (.inl a2), some (.inl (nI i)), none, none] [] M2 := by
        intro a2 M2 e h
        (apply h127; simp only [BX2_shareOf_127, s_mth, s_mab, s_at, s_iconst, s_lconst, s_iload, s_lload, s_aload, s_istore, s_lstore, s_astore, s_iinc, s_bin, s_binG, s_un, s_lbin, s_lbinG, s_lsh, s_lcmp, s_i2l, s_l2i, s_dup, s_dup2, s_pop, s_if, s_icmp, s_geti, s_getl, s_getr, s_puti, s_putz, s_putl, s_iald, s_zald, s_iast, s_zast, s_aaldS, s_aaldU, s_gets, s_tald, s_tsw, tsw, s_iret, s_zret, s_lret, s_aret, s_vret, s_callV, s_callS, c1, nl1, keepL, csum, pushR, inL, List.getD_cons_zero, List.getD_cons_succ, List.set_cons_zero, List.set_cons_succ, List.cons_append, List.nil_append, List.append_nil, List.replicate, List.length_cons, List.length_nil, List.take_succ_cons, List.take_zero, List.drop_succ_cons, List.drop_zero, List.reverse_cons, List.reverse_nil, true_and, and_true, forall_const, not_true_eq_false, not_false_eq_true, false_implies, true_implies, implies_true, one0, m10, Nat.reduceAdd, Nat.reduceSub, Nat.reduceLeDiff, Nat.zero_add, Nat.add_zero, fn_J6_bitCount_0f7a4, fn_X2_factorial, fn_X2_fraction, fn_X2_gotWith, fn_X8_offBits])
        rw [nI_1]
        refine ih (i + 1) _ _ (by omega) h ?_
        rw [e]
        exact hq
      have g1 := GD_gW (t := nI i ||| ((1 : Int32) <<< (u &&& 31))) hG
      have g2 := GD_gW (t := nI i) g1.1
      (apply h55; simp only [BX2_shareOf_55, s_mth, s_mab, s_at, s_iconst, s_lconst, s_iload, s_lload, s_aload, s_istore, s_lstore, s_astore, s_iinc, s_bin, s_binG, s_un, s_lbin, s_lbinG, s_lsh, s_lcmp, s_i2l, s_l2i, s_dup, s_dup2, s_pop, s_if, s_icmp, s_geti, s_getl, s_getr, s_puti, s_putz, s_putl, s_iald, s_zald, s_iast, s_zast, s_aaldS, s_aaldU, s_gets, s_tald, s_tsw, tsw, s_iret, s_zret, s_lret, s_aret, s_vret, s_callV, s_callS, c1, nl1, keepL, csum, pushR, inL, List.getD_cons_zero, List.getD_cons_succ, List.set_cons_zero, List.set_cons_succ, List.cons_append, List.nil_append, List.append_nil, List.replicate, List.length_cons, List.length_nil, List.take_succ_cons, List.take_zero, List.drop_succ_cons, List.drop_zero, List.reverse_cons, List.reverse_nil, true_and, and_true, forall_const, not_true_eq_false, not_false_eq_true, false_implies, true_implies, implies_true, one0, m10, Nat.reduceAdd, Nat.reduceSub, Nat.reduceLeDiff, Nat.zero_add, Nat.add_zero, fn_J6_bitCount_0f7a4, fn_X2_factorial, fn_X2_fraction, fn_X2_gotWith, fn_X8_offBits])
      refine ⟨fun h => absurd h (nI_nlt (by omega) (by omega)), fun _ => ⟨fun h => ⟨fun h2 => ⟨⟨_, rfl⟩, ⟨_, rfl⟩, ⟨_, rfl⟩, ⟨_, _, rfl, hG⟩, ⟨_, _, rfl, g1.1⟩, ?_⟩, fun h2 => ?_⟩, fun h => ?_⟩⟩
      · exact L _ _ (by rw [shS, if_pos h, if_pos h2]; rfl) g2.1
      · exact L _ _ (by rw [shS, if_pos h, if_neg h2]) hG
      · exact L _ _ (by rw [shS, if_neg h]) hG
  have e1 : ((1 : Int32) <<< (M.1 4 2 &&& 31) - 1) &&& (itr (offS M 7) 0 (nU M) 0 ^^^ -1) = nI A := eA
  (apply h0; simp only [BX2_shareOf_0, s_mth, s_mab, s_at, s_iconst, s_lconst, s_iload, s_lload, s_aload, s_istore, s_lstore, s_astore, s_iinc, s_bin, s_binG, s_un, s_lbin, s_lbinG, s_lsh, s_lcmp, s_i2l, s_l2i, s_dup, s_dup2, s_pop, s_if, s_icmp, s_geti, s_getl, s_getr, s_puti, s_putz, s_putl, s_iald, s_zald, s_iast, s_zast, s_aaldS, s_aaldU, s_gets, s_tald, s_tsw, tsw, s_iret, s_zret, s_lret, s_aret, s_vret, s_callV, s_callS, c1, nl1, keepL, csum, pushR, inL, List.getD_cons_zero, List.getD_cons_succ, List.set_cons_zero, List.set_cons_succ, List.cons_append, List.nil_append, List.append_nil, List.replicate, List.length_cons, List.length_nil, List.take_succ_cons, List.take_zero, List.drop_succ_cons, List.drop_zero, List.reverse_cons, List.reverse_nil, true_and, and_true, forall_const, not_true_eq_false, not_false_eq_true, false_implies, true_implies, implies_true, one0, m10, Nat.reduceAdd, Nat.reduceSub, Nat.reduceLeDiff, Nat.zero_add, Nat.add_zero, fn_J6_bitCount_0f7a4, fn_X2_factorial, fn_X2_fraction, fn_X2_gotWith, fn_X8_offBits])
  refine ⟨⟨_, _, rfl, nU M, hn, hN⟩, ?_⟩
  rw [hN] at e1 ⊢
  rw [eN, e1]
  exact ⟨⟨_, rfl⟩, loop (A + 1) 0 0 M (by omega) hG hQ⟩
theorem ct_X2_shareOf (l : Launch) : Con l yX2_shareOf cX2_shareOf 10 (Option.some FieldType.int) 5 pre_X2_shareOf fn_X2_shareOf := con_of (by decide +kernel) ok_X2_shareOf len_X2_shareOf (fun p e s m args below meth c D ca ad A as M hX hr hp ho => pf_X2_shareOf _ _ (bsX2_shareOf_0 hX hr) (bsX2_shareOf_55 hX hr) (bsX2_shareOf_127 hX hr) (bsX2_shareOf_133 hX hr) as M ho hp ⟨rfl, rfl⟩)
