/-! FairBlocks -/
def CI (M : mM) : Prop := (GD M ∧ SEE M) ∧ TL M ∧ AC M
theorem k11 {k : Nat} (h : kof k = 11) : k = 0 := by
  have g : ∀ k, k < 178 → kof k = 11 → k = 0 := by decide +kernel
  exact g k (kof_lt (by omega)) h
theorem wi_g {x y z : Int32} {c d : Nat} (hy : y = nI d) (hz : z = nI c) (hd : d < 2 ^ 31) (hc : c < 2 ^ 31) (h : ¬ wi x y z = 0) : ∃ j, d ≤ j ∧ j ≤ c ∧ x = nI j := by
  obtain ⟨h1, h2⟩ := wi_1 h
  subst hy
  subst hz
  have h0 : ¬ x < 0 := by
    intro h0
    apply h1
    rw [Int32.lt_iff_toInt_lt] at h0 ⊢
    rw [nI_toInt hd]
    simp only [Int32.toInt_zero] at h0
    omega
  obtain ⟨j, hj, rfl⟩ := nI_of h0
  refine ⟨j, ?_, ?_, rfl⟩
  · rcases Nat.lt_or_ge j d with g | g
    · exact absurd (nI_lt g hd) h1
    · exact g
  · rcases Nat.lt_or_ge c j with g | g
    · exact absurd (nI_lt g hj) h2
    · exact g
def rem (M : mM) : mM := remC (remB (remA M) 7)
def c_write (M : mM) (x : Int32) : Int32 × mM := if wi x 0 255 = 0 then (-2, M) else if M.1 1 1 < 80 then ((adT M x).1 1 1, adT M x) else (-4, M)
def pre_X11_write (as : List mV) (M : mM) : Prop := ∃ c x, as = [.inr (.inr (11, c)), .inl x] ∧ CI M
def fn_X11_write : List mV → mM → Option mV × mM
  | [.inr (.inr (_, c)), .inl x], M => (some (.inl (c_write M x).1), (c_write M x).2)
  | _, M => (none, M)
theorem ok_X11_write (as : List mV) (M : mM) (h : pre_X11_write as M) (_ : ∀ v ∈ as, okV v) : okR (fn_X11_write as M).1 := by
  obtain ⟨c, x, rfl, -⟩ := h
  first | trivial | exact (by decide +kernel : kof 14 = 8)
theorem len_X11_write (as : List mV) (M : mM) (h : pre_X11_write as M) : (inL as).length ≤ 2 := by
  obtain ⟨c, x, rfl, -⟩ := h
  exact Nat.le_of_ble_eq_true rfl

theorem fl_301 : FLk "FairBlocks" 10 11 0 12 := ⟨RX11, TX11, 12, rfl, inX11, by decide, w_301, by decide, rfl⟩
theorem fl_32 : FLk "FairBlocks" 89 9 1 0 := ⟨RX9, TX9, 2, rfl, inX9, by decide, w_32, by decide, rfl⟩
theorem dX11_write_0 : decode cX11_write 0 = .ok (.iload_n 1, 1) := by decide +kernel
theorem dX11_write_1 : decode cX11_write 1 = .ok (.iconst 0, 1) := by decide +kernel
theorem dX11_write_2 : decode cX11_write 2 = .ok (.sipush 255, 3) := by decide +kernel
theorem dX11_write_5 : decode cX11_write 5 = .ok (.invokestatic 85, 3) := by decide +kernel
theorem dX11_write_8 : decode cX11_write 8 = .ok (.ifCond .ne 6, 3) := by decide +kernel
theorem dX11_write_11 : decode cX11_write 11 = .ok (.bipush (-2), 2) := by decide +kernel
theorem dX11_write_13 : decode cX11_write 13 = .ok (.ireturn, 1) := by decide +kernel
theorem dX11_write_14 : decode cX11_write 14 = .ok (.aload_n 0, 1) := by decide +kernel
theorem dX11_write_15 : decode cX11_write 15 = .ok (.getfield 10, 3) := by decide +kernel
theorem dX11_write_18 : decode cX11_write 18 = .ok (.getfield 89, 3) := by decide +kernel
theorem dX11_write_21 : decode cX11_write 21 = .ok (.bipush 80, 2) := by decide +kernel
theorem dX11_write_23 : decode cX11_write 23 = .ok (.if_icmp .lt 6, 3) := by decide +kernel
theorem dX11_write_26 : decode cX11_write 26 = .ok (.bipush (-4), 2) := by decide +kernel
theorem dX11_write_28 : decode cX11_write 28 = .ok (.ireturn, 1) := by decide +kernel
theorem dX11_write_29 : decode cX11_write 29 = .ok (.aload_n 0, 1) := by decide +kernel
theorem dX11_write_30 : decode cX11_write 30 = .ok (.getfield 10, 3) := by decide +kernel
theorem dX11_write_33 : decode cX11_write 33 = .ok (.iload_n 1, 1) := by decide +kernel
theorem dX11_write_34 : decode cX11_write 34 = .ok (.invokevirtual 93, 3) := by decide +kernel
theorem dX11_write_37 : decode cX11_write 37 = .ok (.aload_n 0, 1) := by decide +kernel
theorem dX11_write_38 : decode cX11_write 38 = .ok (.getfield 10, 3) := by decide +kernel
theorem dX11_write_41 : decode cX11_write 41 = .ok (.getfield 89, 3) := by decide +kernel
theorem dX11_write_44 : decode cX11_write 44 = .ok (.ireturn, 1) := by decide +kernel
theorem mk_X11_write : MVk yX11_write "FairBlocks" cX11_write 2 (Option.some FieldType.int) 1 := ⟨w_341, w_339, w_340, w_1, rfl, by decide +kernel, by decide +kernel, by decide +kernel⟩
def BX11_write_0 (G : Nat → KT) (Q : Option mV → mM → Prop) : KT := (s_iload 1 (s_iconst (0) (s_iconst (255) (s_callS 3 pre_X11_within fn_X11_within (s_if (fun x => x = 0) ((s_iconst (-2) (s_iret Q))) (s_at G 14 [true, true]))))))
set_option maxRecDepth 4000 in
theorem bsX11_write_0 {p : Program} {l : Launch} {e : Env} {s : State} {m : MethodId} {args : Array Value} {below : List Frame} {meth : Method} {c : Code} {D : va_G} {ca : Nat → ClassId} {ad : Nat → Nat} {A : Nat → Prop} {Q : Option mV → mM → Prop} (hX : CX p s m args meth c 2 cX11_write "FairBlocks" D ca ad A) (hr : meth.sig.returnType = (Option.some FieldType.int)) : ∀ lv st M, BX11_write_0 (Gd p l e (rmD 1) s m args below meth c 2 D ca ad A 0 0 (MQ below (QC D ca ad A Q) args s 0 0 A)) Q lv st M → Gd p l e (rmD 1) s m args below meth c 2 D ca ad A 0 0 (MQ below (QC D ca ad A Q) args s 0 0 A) 0 lv st M :=
  (sd_iload_n hX dX11_write_0 rfl (sd_iconst hX dX11_write_1 rfl (sd_sipush hX dX11_write_2 rfl (sd_callS hX (ct_X11_within l) mk_X11_within w_342 ⟨⟨by decide, by decide⟩, by decide, by decide⟩ dX11_write_5 (sd_if_ne hX dX11_write_8 (by decide) sd_at (sd_bipush hX dX11_write_11 rfl (sd_iret hX hr dX11_write_13)))))))
def BX11_write_14 (G : Nat → KT) (Q : Option mV → mM → Prop) : KT := (s_aload 0 (s_getr 11 9 (fun _ => 1) (s_geti 9 1 (s_iconst (80) (s_icmp (fun x y => x < y) (s_at G 29 [true, true]) (s_iconst (-4) (s_iret Q)))))))
set_option maxRecDepth 4000 in
theorem bsX11_write_14 {p : Program} {l : Launch} {e : Env} {s : State} {m : MethodId} {args : Array Value} {below : List Frame} {meth : Method} {c : Code} {D : va_G} {ca : Nat → ClassId} {ad : Nat → Nat} {A : Nat → Prop} {Q : Option mV → mM → Prop} (hX : CX p s m args meth c 2 cX11_write "FairBlocks" D ca ad A) (hr : meth.sig.returnType = (Option.some FieldType.int)) : ∀ lv st M, BX11_write_14 (Gd p l e (rmD 1) s m args below meth c 2 D ca ad A 0 0 (MQ below (QC D ca ad A Q) args s 0 0 A)) Q lv st M → Gd p l e (rmD 1) s m args below meth c 2 D ca ad A 0 0 (MQ below (QC D ca ad A Q) args s 0 0 A) 14 lv st M :=
  (sd_aload_n hX dX11_write_14 rfl (sd_getr hX fl_301 (fun _ => rfl) (fun _ _ _ => by decide +kernel) dX11_write_15 (sd_geti hX fl_32 (by decide) dX11_write_18 (sd_bipush hX dX11_write_21 rfl (sd_icmp_lt hX dX11_write_23 (by decide) sd_at (sd_bipush hX dX11_write_26 rfl (sd_iret hX hr dX11_write_28)))))))
def BX11_write_29 (G : Nat → KT) (Q : Option mV → mM → Prop) : KT := (s_aload 0 (s_getr 11 9 (fun _ => 1) (s_iload 1 (s_callV 9 1 pre_X9_add fn_X9_add (s_aload 0 (s_getr 11 9 (fun _ => 1) (s_geti 9 1 (s_iret Q))))))))
set_option maxRecDepth 4000 in
theorem bsX11_write_29 {p : Program} {l : Launch} {e : Env} {s : State} {m : MethodId} {args : Array Value} {below : List Frame} {meth : Method} {c : Code} {D : va_G} {ca : Nat → ClassId} {ad : Nat → Nat} {A : Nat → Prop} {Q : Option mV → mM → Prop} (hX : CX p s m args meth c 2 cX11_write "FairBlocks" D ca ad A) (hr : meth.sig.returnType = (Option.some FieldType.int)) : ∀ lv st M, BX11_write_29 (Gd p l e (rmD 1) s m args below meth c 2 D ca ad A 0 0 (MQ below (QC D ca ad A Q) args s 0 0 A)) Q lv st M → Gd p l e (rmD 1) s m args below meth c 2 D ca ad A 0 0 (MQ below (QC D ca ad A Q) args s 0 0 A) 29 lv st M :=
  (sd_aload_n hX dX11_write_29 rfl (sd_getr hX fl_301 (fun _ => rfl) (fun _ _ _ => by decide +kernel) dX11_write_30 (sd_iload_n hX dX11_write_33 rfl (sd_callV hX (kd := 9) rfl (by decide) (ct_X9_add l) mk_X9_add w_345 ⟨⟨by decide, by decide⟩, by decide, by decide⟩ dX11_write_34 (sd_aload_n hX dX11_write_37 rfl (sd_getr hX fl_301 (fun _ => rfl) (fun _ _ _ => by decide +kernel) dX11_write_38 (sd_geti hX fl_32 (by decide) dX11_write_41 (sd_iret hX hr dX11_write_44))))))))
set_option maxHeartbeats 400000 in
theorem pf_X11_write (G : Nat → KT) (Q : Option mV → mM → Prop) (h0 : ∀ lv st M, BX11_write_0 G Q lv st M → G 0 lv st M) (h14 : ∀ lv st M, BX11_write_14 G Q lv st M → G 14 lv st M) (h29 : ∀ lv st M, BX11_write_29 G Q lv st M → G 29 lv st M) (as : List mV) (M : mM) (ho : ∀ v ∈ as, okV v) (hp : pre_X11_write as M) (hQ : Q (fn_X11_write as M).1 (fn_X11_write as M).2) : G 0 (inL as ++ List.replicate (2 - (inL as).length) none) [] M := by
  obtain ⟨c, x, rfl, hC⟩ := hp
  simp only [fn_X11_write, c_write] at hQ
  (apply h0; simp only [BX11_write_0, s_mth, s_mab, s_at, s_iconst, s_lconst, s_iload, s_lload, s_aload, s_istore, s_lstore, s_astore, s_iinc, s_bin, s_binG, s_un, s_lbin, s_lbinG, s_lsh, s_lcmp, s_i2l, s_l2i, s_dup, s_dup2, s_pop, s_if, s_icmp, s_geti, s_getl, s_getr, s_puti, s_putz, s_putl, s_iald, s_zald, s_iast, s_zast, s_aaldS, s_aaldU, s_gets, s_tald, s_tsw, tsw, s_iret, s_zret, s_lret, s_aret, s_vret, s_callV, s_callS, c1, nl1, keepL, csum, pushR, inL, List.getD_cons_zero, List.getD_cons_succ, List.set_cons_zero, List.set_cons_succ, List.cons_append, List.nil_append, List.append_nil, List.replicate, List.length_cons, List.length_nil, List.take_succ_cons, List.take_zero, List.drop_succ_cons, List.drop_zero, List.reverse_cons, List.reverse_nil, true_and, and_true, forall_const, not_true_eq_false, not_false_eq_true, false_implies, true_implies, implies_true, one0, m10, Nat.reduceAdd, Nat.reduceSub, Nat.reduceLeDiff, Nat.zero_add, Nat.add_zero, fn_X11_within, fn_X9_add])
  refine ⟨⟨_, _, _, rfl⟩, fun h => ?_, fun h => ?_⟩
  · rw [if_pos h] at hQ; exact hQ
  · (apply h14; simp only [BX11_write_14, s_mth, s_mab, s_at, s_iconst, s_lconst, s_iload, s_lload, s_aload, s_istore, s_lstore, s_astore, s_iinc, s_bin, s_binG, s_un, s_lbin, s_lbinG, s_lsh, s_lcmp, s_i2l, s_l2i, s_dup, s_dup2, s_pop, s_if, s_icmp, s_geti, s_getl, s_getr, s_puti, s_putz, s_putl, s_iald, s_zald, s_iast, s_zast, s_aaldS, s_aaldU, s_gets, s_tald, s_tsw, tsw, s_iret, s_zret, s_lret, s_aret, s_vret, s_callV, s_callS, c1, nl1, keepL, csum, pushR, inL, List.getD_cons_zero, List.getD_cons_succ, List.set_cons_zero, List.set_cons_succ, List.cons_append, List.nil_append, List.append_nil, List.replicate, List.length_cons, List.length_nil, List.take_succ_cons, List.take_zero, List.drop_succ_cons, List.drop_zero, List.reverse_cons, List.reverse_nil, true_and, and_true, forall_const, not_true_eq_false, not_false_eq_true, false_implies, true_implies, implies_true, one0, m10, Nat.reduceAdd, Nat.reduceSub, Nat.reduceLeDiff, Nat.zero_add, Nat.add_zero, fn_X11_within, fn_X9_add])
    refine ⟨fun h2 => ?_, fun h2 => ?_⟩
    · (apply h29; simp only [BX11_write_29, s_mth, s_mab, s_at, s_iconst, s_lconst, s_iload, s_lload, s_aload, s_istore, s_lstore, s_astore, s_iinc, s_bin, s_binG, s_un, s_lbin, s_lbinG, s_lsh, s_lcmp, s_i2l, s_l2i, s_dup, s_dup2, s_pop, s_if, s_icmp, s_geti, s_getl, s_getr, s_puti, s_putz, s_putl, s_iald, s_zald, s_iast, s_zast, s_aaldS, s_aaldU, s_gets, s_tald, s_tsw, tsw, s_iret, s_zret, s_lret, s_aret, s_vret, s_callV, s_callS, c1, nl1, keepL, csum, pushR, inL, List.getD_cons_zero, List.getD_cons_succ, List.set_cons_zero, List.set_cons_succ, List.cons_append, List.nil_append, List.append_nil, List.replicate, List.length_cons, List.length_nil, List.take_succ_cons, List.take_zero, List.drop_succ_cons, List.drop_zero, List.reverse_cons, List.reverse_nil, true_and, and_true, forall_const, not_true_eq_false, not_false_eq_true, false_implies, true_implies, implies_true, one0, m10, Nat.reduceAdd, Nat.reduceSub, Nat.reduceLeDiff, Nat.zero_add, Nat.add_zero, fn_X11_within, fn_X9_add])
      rw [if_neg h, if_pos h2] at hQ
      exact ⟨⟨_, _, rfl, hC.2.1⟩, hQ⟩
    · rw [if_neg h, if_neg h2] at hQ; exact hQ
theorem ct_X11_write (l : Launch) : Con l yX11_write cX11_write 2 (Option.some FieldType.int) 1 pre_X11_write fn_X11_write := con_of (by decide +kernel) ok_X11_write len_X11_write (fun p e s m args below meth c D ca ad A as M hX hr hp ho => pf_X11_write _ _ (bsX11_write_0 hX hr) (bsX11_write_14 hX hr) (bsX11_write_29 hX hr) as M ho hp ⟨rfl, rfl⟩)
def pre_X11_wipe (as : List mV) (M : mM) : Prop := ∃ c, as = [.inr (.inr (11, c))]
def fn_X11_wipe : List mV → mM → Option mV × mM
  | [.inr (.inr (_, c))], M => (some (.inl (M.1 1 1)), mset M 1 1 0)
  | _, M => (none, M)
theorem ok_X11_wipe (as : List mV) (M : mM) (h : pre_X11_wipe as M) (_ : ∀ v ∈ as, okV v) : okR (fn_X11_wipe as M).1 := by
  obtain ⟨c, rfl⟩ := h
  first | trivial | exact (by decide +kernel : kof 14 = 8)
theorem len_X11_wipe (as : List mV) (M : mM) (h : pre_X11_wipe as M) : (inL as).length ≤ 2 := by
  obtain ⟨c, rfl⟩ := h
  exact Nat.le_of_ble_eq_true rfl

theorem fp_32 : FPk "FairBlocks" 89 9 1 0 .int := ⟨RX9, TX9, 2, tyX9, rfl, inX9, by decide, w_32, by decide, rfl, tyX9_ok, nmX9, rfl, rfl⟩
theorem dX11_wipe_0 : decode cX11_wipe 0 = .ok (.aload_n 0, 1) := by decide +kernel
theorem dX11_wipe_1 : decode cX11_wipe 1 = .ok (.getfield 10, 3) := by decide +kernel
theorem dX11_wipe_4 : decode cX11_wipe 4 = .ok (.getfield 89, 3) := by decide +kernel
theorem dX11_wipe_7 : decode cX11_wipe 7 = .ok (.istore_n 1, 1) := by decide +kernel
theorem dX11_wipe_8 : decode cX11_wipe 8 = .ok (.aload_n 0, 1) := by decide +kernel
theorem dX11_wipe_9 : decode cX11_wipe 9 = .ok (.getfield 10, 3) := by decide +kernel
theorem dX11_wipe_12 : decode cX11_wipe 12 = .ok (.iconst 0, 1) := by decide +kernel
theorem dX11_wipe_13 : decode cX11_wipe 13 = .ok (.putfield 89, 3) := by decide +kernel
theorem dX11_wipe_16 : decode cX11_wipe 16 = .ok (.iload_n 1, 1) := by decide +kernel
theorem dX11_wipe_17 : decode cX11_wipe 17 = .ok (.ireturn, 1) := by decide +kernel
theorem mk_X11_wipe : MVk yX11_wipe "FairBlocks" cX11_wipe 2 (Option.some FieldType.int) 0 := ⟨w_352, w_350, w_351, w_1, rfl, by decide +kernel, by decide +kernel, by decide +kernel⟩
def BX11_wipe_0 (G : Nat → KT) (Q : Option mV → mM → Prop) : KT := (s_aload 0 (s_getr 11 9 (fun _ => 1) (s_geti 9 1 (s_istore 1 (s_aload 0 (s_getr 11 9 (fun _ => 1) (s_iconst (0) (s_puti 9 1 (s_iload 1 (s_iret Q))))))))))
set_option maxRecDepth 4000 in
theorem bsX11_wipe_0 {p : Program} {l : Launch} {e : Env} {s : State} {m : MethodId} {args : Array Value} {below : List Frame} {meth : Method} {c : Code} {D : va_G} {ca : Nat → ClassId} {ad : Nat → Nat} {A : Nat → Prop} {Q : Option mV → mM → Prop} (hX : CX p s m args meth c 2 cX11_wipe "FairBlocks" D ca ad A) (hr : meth.sig.returnType = (Option.some FieldType.int)) : ∀ lv st M, BX11_wipe_0 (Gd p l e (rmD 0) s m args below meth c 2 D ca ad A 0 0 (MQ below (QC D ca ad A Q) args s 0 0 A)) Q lv st M → Gd p l e (rmD 0) s m args below meth c 2 D ca ad A 0 0 (MQ below (QC D ca ad A Q) args s 0 0 A) 0 lv st M :=
  (sd_aload_n hX dX11_wipe_0 rfl (sd_getr hX fl_301 (fun _ => rfl) (fun _ _ _ => by decide +kernel) dX11_wipe_1 (sd_geti hX fl_32 (by decide) dX11_wipe_4 (sd_istore_n hX (by decide) dX11_wipe_7 rfl (sd_aload_n hX dX11_wipe_8 rfl (sd_getr hX fl_301 (fun _ => rfl) (fun _ _ _ => by decide +kernel) dX11_wipe_9 (sd_iconst hX dX11_wipe_12 rfl (sd_puti hX fp_32 dX11_wipe_13 (sd_iload_n hX dX11_wipe_16 rfl (sd_iret hX hr dX11_wipe_17))))))))))
set_option maxHeartbeats 400000 in
theorem pf_X11_wipe (G : Nat → KT) (Q : Option mV → mM → Prop) (h0 : ∀ lv st M, BX11_wipe_0 G Q lv st M → G 0 lv st M) (as : List mV) (M : mM) (ho : ∀ v ∈ as, okV v) (hp : pre_X11_wipe as M) (hQ : Q (fn_X11_wipe as M).1 (fn_X11_wipe as M).2) : G 0 (inL as ++ List.replicate (2 - (inL as).length) none) [] M := by
  obtain ⟨c, rfl⟩ := hp
  (apply h0; simp only [BX11_wipe_0, s_mth, s_mab, s_at, s_iconst, s_lconst, s_iload, s_lload, s_aload, s_istore, s_lstore, s_astore, s_iinc, s_bin, s_binG, s_un, s_lbin, s_lbinG, s_lsh, s_lcmp, s_i2l, s_l2i, s_dup, s_dup2, s_pop, s_if, s_icmp, s_geti, s_getl, s_getr, s_puti, s_putz, s_putl, s_iald, s_zald, s_iast, s_zast, s_aaldS, s_aaldU, s_gets, s_tald, s_tsw, tsw, s_iret, s_zret, s_lret, s_aret, s_vret, s_callV, s_callS, c1, nl1, keepL, csum, pushR, inL, List.getD_cons_zero, List.getD_cons_succ, List.set_cons_zero, List.set_cons_succ, List.cons_append, List.nil_append, List.append_nil, List.replicate, List.length_cons, List.length_nil, List.take_succ_cons, List.take_zero, List.drop_succ_cons, List.drop_zero, List.reverse_cons, List.reverse_nil, true_and, and_true, forall_const, not_true_eq_false, not_false_eq_true, false_implies, true_implies, implies_true, one0, m10, Nat.reduceAdd, Nat.reduceSub, Nat.reduceLeDiff, Nat.zero_add, Nat.add_zero])
  exact hQ
theorem ct_X11_wipe (l : Launch) : Con l yX11_wipe cX11_wipe 2 (Option.some FieldType.int) 0 pre_X11_wipe fn_X11_wipe := con_of (by decide +kernel) ok_X11_wipe len_X11_wipe (fun p e s m args below meth c D ca ad A as M hX hr hp ho => pf_X11_wipe _ _ (bsX11_wipe_0 hX hr) as M ho hp ⟨rfl, rfl⟩)
def c_fault (M : mM) : Int32 := ff M (nT M) 0 0 0
def pre_X11_fault (as : List mV) (M : mM) : Prop := ∃ c, as = [.inr (.inr (11, c))] ∧ CI M
def fn_X11_fault : List mV → mM → Option mV × mM
  | [.inr (.inr (_, c))], M => (some (.inl (c_fault M)), M)
  | _, M => (none, M)
theorem ok_X11_fault (as : List mV) (M : mM) (h : pre_X11_fault as M) (_ : ∀ v ∈ as, okV v) : okR (fn_X11_fault as M).1 := by
  obtain ⟨c, rfl, -⟩ := h
  first | trivial | exact (by decide +kernel : kof 14 = 8)
theorem len_X11_fault (as : List mV) (M : mM) (h : pre_X11_fault as M) : (inL as).length ≤ 1 := by
  obtain ⟨c, rfl, -⟩ := h
  exact Nat.le_of_ble_eq_true rfl


theorem dX11_fault_0 : decode cX11_fault 0 = .ok (.aload_n 0, 1) := by decide +kernel
theorem dX11_fault_1 : decode cX11_fault 1 = .ok (.getfield 10, 3) := by decide +kernel
theorem dX11_fault_4 : decode cX11_fault 4 = .ok (.invokevirtual 97, 3) := by decide +kernel
theorem dX11_fault_7 : decode cX11_fault 7 = .ok (.ireturn, 1) := by decide +kernel
theorem mk_X11_fault : MVk yX11_fault "FairBlocks" cX11_fault 1 (Option.some FieldType.int) 0 := ⟨w_356, w_354, w_355, w_1, rfl, by decide +kernel, by decide +kernel, by decide +kernel⟩
def BX11_fault_0 (G : Nat → KT) (Q : Option mV → mM → Prop) : KT := (s_aload 0 (s_getr 11 9 (fun _ => 1) (s_callV 9 0 pre_X9_firstFault fn_X9_firstFault (s_iret Q))))
set_option maxRecDepth 4000 in
theorem bsX11_fault_0 {p : Program} {l : Launch} {e : Env} {s : State} {m : MethodId} {args : Array Value} {below : List Frame} {meth : Method} {c : Code} {D : va_G} {ca : Nat → ClassId} {ad : Nat → Nat} {A : Nat → Prop} {Q : Option mV → mM → Prop} (hX : CX p s m args meth c 1 cX11_fault "FairBlocks" D ca ad A) (hr : meth.sig.returnType = (Option.some FieldType.int)) : ∀ lv st M, BX11_fault_0 (Gd p l e (rmD 4) s m args below meth c 1 D ca ad A 0 0 (MQ below (QC D ca ad A Q) args s 0 0 A)) Q lv st M → Gd p l e (rmD 4) s m args below meth c 1 D ca ad A 0 0 (MQ below (QC D ca ad A Q) args s 0 0 A) 0 lv st M :=
  (sd_aload_n hX dX11_fault_0 rfl (sd_getr hX fl_301 (fun _ => rfl) (fun _ _ _ => by decide +kernel) dX11_fault_1 (sd_callV hX (kd := 9) rfl (by decide) (ct_X9_firstFault l) mk_X9_firstFault w_357 ⟨⟨by decide, by decide⟩, by decide, by decide⟩ dX11_fault_4 (sd_iret hX hr dX11_fault_7))))
set_option maxHeartbeats 400000 in
theorem pf_X11_fault (G : Nat → KT) (Q : Option mV → mM → Prop) (h0 : ∀ lv st M, BX11_fault_0 G Q lv st M → G 0 lv st M) (as : List mV) (M : mM) (ho : ∀ v ∈ as, okV v) (hp : pre_X11_fault as M) (hQ : Q (fn_X11_fault as M).1 (fn_X11_fault as M).2) : G 0 (inL as ++ List.replicate (1 - (inL as).length) none) [] M := by
  obtain ⟨c, rfl, hC⟩ := hp
  (apply h0; simp only [BX11_fault_0, s_mth, s_mab, s_at, s_iconst, s_lconst, s_iload, s_lload, s_aload, s_istore, s_lstore, s_astore, s_iinc, s_bin, s_binG, s_un, s_lbin, s_lbinG, s_lsh, s_lcmp, s_i2l, s_l2i, s_dup, s_dup2, s_pop, s_if, s_icmp, s_geti, s_getl, s_getr, s_puti, s_putz, s_putl, s_iald, s_zald, s_iast, s_zast, s_aaldS, s_aaldU, s_gets, s_tald, s_tsw, tsw, s_iret, s_zret, s_lret, s_aret, s_vret, s_callV, s_callS, c1, nl1, keepL, csum, pushR, inL, List.getD_cons_zero, List.getD_cons_succ, List.set_cons_zero, List.set_cons_succ, List.cons_append, List.nil_append, List.append_nil, List.replicate, List.length_cons, List.length_nil, List.take_succ_cons, List.take_zero, List.drop_succ_cons, List.drop_zero, List.reverse_cons, List.reverse_nil, true_and, and_true, forall_const, not_true_eq_false, not_false_eq_true, false_implies, true_implies, implies_true, one0, m10, Nat.reduceAdd, Nat.reduceSub, Nat.reduceLeDiff, Nat.zero_add, Nat.add_zero, fn_X9_firstFault])
  exact ⟨⟨_, rfl, hC.2.1⟩, hQ⟩
theorem ct_X11_fault (l : Launch) : Con l yX11_fault cX11_fault 1 (Option.some FieldType.int) 4 pre_X11_fault fn_X11_fault := con_of (by decide +kernel) ok_X11_fault len_X11_fault (fun p e s m args below meth c D ca ad A as M hX hr hp ho => pf_X11_fault _ _ (bsX11_fault_0 hX hr) as M ho hp ⟨rfl, rfl⟩)
theorem z00 : (0 : Int32) &&& 1 = 0 := by decide
theorem z11 : (1 : Int32) &&& 1 = 1 := by decide
theorem l141 : ln 141 = 2 := by decide +kernel
def cel (M : mM) : mM := mset (mset (mset (rd M) 26 2 0) 141 0 0) 141 1 0
def c_cell (M : mM) : Int32 × mM := if ff M (nT M) 0 0 0 = -9 then ((cel M).1 4 2, cel M) else (-3, M)
def pre_X11_cell (as : List mV) (M : mM) : Prop := ∃ c, as = [.inr (.inr (11, c))] ∧ CI M
def fn_X11_cell : List mV → mM → Option mV × mM
  | [.inr (.inr (_, c))], M => (some (.inl (c_cell M).1), (c_cell M).2)
  | _, M => (none, M)
theorem ok_X11_cell (as : List mV) (M : mM) (h : pre_X11_cell as M) (_ : ∀ v ∈ as, okV v) : okR (fn_X11_cell as M).1 := by
  obtain ⟨c, rfl, -⟩ := h
  first | trivial | exact (by decide +kernel : kof 14 = 8)
theorem len_X11_cell (as : List mV) (M : mM) (h : pre_X11_cell as M) : (inL as).length ≤ 2 := by
  obtain ⟨c, rfl, -⟩ := h
  exact Nat.le_of_ble_eq_true rfl

theorem fl_303 : FLk "FairBlocks" 27 11 2 8 := ⟨RX11, TX11, 12, rfl, inX11, by decide, w_303, by decide, rfl⟩
theorem fl_304 : FLk "FairBlocks" 32 11 3 11 := ⟨RX11, TX11, 12, rfl, inX11, by decide, w_304, by decide, rfl⟩
theorem fl_305 : FLk "FairBlocks" 36 11 4 3 := ⟨RX11, TX11, 12, rfl, inX11, by decide, w_305, by decide, rfl⟩
theorem fl_307 : FLk "FairBlocks" 47 11 6 17 := ⟨RX11, TX11, 12, rfl, inX11, by decide, w_307, by decide, rfl⟩
theorem fl_65 : FLk "FairBlocks" 108 5 2 0 := ⟨RX5, TX5, 5, rfl, inX5, by decide, w_65, by decide, rfl⟩
theorem dX11_cell_0 : decode cX11_cell 0 = .ok (.aload_n 0, 1) := by decide +kernel
theorem dX11_cell_1 : decode cX11_cell 1 = .ok (.getfield 10, 3) := by decide +kernel
theorem dX11_cell_4 : decode cX11_cell 4 = .ok (.invokevirtual 97, 3) := by decide +kernel
theorem dX11_cell_7 : decode cX11_cell 7 = .ok (.bipush (-9), 2) := by decide +kernel
theorem dX11_cell_9 : decode cX11_cell 9 = .ok (.if_icmp .eq 6, 3) := by decide +kernel
theorem dX11_cell_12 : decode cX11_cell 12 = .ok (.bipush (-3), 2) := by decide +kernel
theorem dX11_cell_14 : decode cX11_cell 14 = .ok (.ireturn, 1) := by decide +kernel
theorem dX11_cell_15 : decode cX11_cell 15 = .ok (.aload_n 0, 1) := by decide +kernel
theorem dX11_cell_16 : decode cX11_cell 16 = .ok (.getfield 10, 3) := by decide +kernel
theorem dX11_cell_19 : decode cX11_cell 19 = .ok (.aload_n 0, 1) := by decide +kernel
theorem dX11_cell_20 : decode cX11_cell 20 = .ok (.getfield 27, 3) := by decide +kernel
theorem dX11_cell_23 : decode cX11_cell 23 = .ok (.aload_n 0, 1) := by decide +kernel
theorem dX11_cell_24 : decode cX11_cell 24 = .ok (.getfield 32, 3) := by decide +kernel
theorem dX11_cell_27 : decode cX11_cell 27 = .ok (.invokevirtual 101, 3) := by decide +kernel
theorem dX11_cell_30 : decode cX11_cell 30 = .ok (.aload_n 0, 1) := by decide +kernel
theorem dX11_cell_31 : decode cX11_cell 31 = .ok (.getfield 36, 3) := by decide +kernel
theorem dX11_cell_34 : decode cX11_cell 34 = .ok (.invokevirtual 105, 3) := by decide +kernel
theorem dX11_cell_37 : decode cX11_cell 37 = .ok (.iconst 0, 1) := by decide +kernel
theorem dX11_cell_38 : decode cX11_cell 38 = .ok (.istore_n 1, 1) := by decide +kernel
theorem dX11_cell_39 : decode cX11_cell 39 = .ok (.iload_n 1, 1) := by decide +kernel
theorem dX11_cell_40 : decode cX11_cell 40 = .ok (.iconst 2, 1) := by decide +kernel
theorem dX11_cell_41 : decode cX11_cell 41 = .ok (.if_icmp .ge 16, 3) := by decide +kernel
theorem dX11_cell_44 : decode cX11_cell 44 = .ok (.aload_n 0, 1) := by decide +kernel
theorem dX11_cell_45 : decode cX11_cell 45 = .ok (.getfield 47, 3) := by decide +kernel
theorem dX11_cell_48 : decode cX11_cell 48 = .ok (.iload_n 1, 1) := by decide +kernel
theorem dX11_cell_49 : decode cX11_cell 49 = .ok (.iconst 0, 1) := by decide +kernel
theorem dX11_cell_50 : decode cX11_cell 50 = .ok (.bastore, 1) := by decide +kernel
theorem dX11_cell_51 : decode cX11_cell 51 = .ok (.iinc 1 1, 3) := by decide +kernel
theorem dX11_cell_54 : decode cX11_cell 54 = .ok (.goto (-15), 3) := by decide +kernel
theorem dX11_cell_57 : decode cX11_cell 57 = .ok (.aload_n 0, 1) := by decide +kernel
theorem dX11_cell_58 : decode cX11_cell 58 = .ok (.getfield 27, 3) := by decide +kernel
theorem dX11_cell_61 : decode cX11_cell 61 = .ok (.getfield 108, 3) := by decide +kernel
theorem dX11_cell_64 : decode cX11_cell 64 = .ok (.ireturn, 1) := by decide +kernel
theorem mk_X11_cell : MVk yX11_cell "FairBlocks" cX11_cell 2 (Option.some FieldType.int) 0 := ⟨w_371, w_369, w_370, w_1, rfl, by decide +kernel, by decide +kernel, by decide +kernel⟩
def BX11_cell_0 (G : Nat → KT) (Q : Option mV → mM → Prop) : KT := (s_aload 0 (s_getr 11 9 (fun _ => 1) (s_callV 9 0 pre_X9_firstFault fn_X9_firstFault (s_iconst (-9) (s_icmp (fun x y => x = y) (s_at G 15 [true, false]) (s_iconst (-3) (s_iret Q)))))))
set_option maxRecDepth 4000 in
theorem bsX11_cell_0 {p : Program} {l : Launch} {e : Env} {s : State} {m : MethodId} {args : Array Value} {below : List Frame} {meth : Method} {c : Code} {D : va_G} {ca : Nat → ClassId} {ad : Nat → Nat} {A : Nat → Prop} {Q : Option mV → mM → Prop} (hX : CX p s m args meth c 2 cX11_cell "FairBlocks" D ca ad A) (hr : meth.sig.returnType = (Option.some FieldType.int)) : ∀ lv st M, BX11_cell_0 (Gd p l e (rmD 4) s m args below meth c 2 D ca ad A 0 0 (MQ below (QC D ca ad A Q) args s 0 0 A)) Q lv st M → Gd p l e (rmD 4) s m args below meth c 2 D ca ad A 0 0 (MQ below (QC D ca ad A Q) args s 0 0 A) 0 lv st M :=
  (sd_aload_n hX dX11_cell_0 rfl (sd_getr hX fl_301 (fun _ => rfl) (fun _ _ _ => by decide +kernel) dX11_cell_1 (sd_callV hX (kd := 9) rfl (by decide) (ct_X9_firstFault l) mk_X9_firstFault w_357 ⟨⟨by decide, by decide⟩, by decide, by decide⟩ dX11_cell_4 (sd_bipush hX dX11_cell_7 rfl (sd_icmp_eq hX dX11_cell_9 (by decide) sd_at (sd_bipush hX dX11_cell_12 rfl (sd_iret hX hr dX11_cell_14)))))))
def BX11_cell_15 (G : Nat → KT) (Q : Option mV → mM → Prop) : KT := (s_aload 0 (s_getr 11 9 (fun _ => 1) (s_aload 0 (s_getr 11 5 (fun _ => 4) (s_aload 0 (s_getr 11 8 (fun _ => 7) (s_callV 9 2 pre_X9_readInto fn_X9_readInto (s_aload 0 (s_getr 11 0 (fun _ => 26) (s_callV 0 0 pre_X0_forgetAll fn_X0_forgetAll (s_iconst (0) (s_istore 1 (s_at G 39 [true, true])))))))))))))
set_option maxRecDepth 4000 in
theorem bsX11_cell_15 {p : Program} {l : Launch} {e : Env} {s : State} {m : MethodId} {args : Array Value} {below : List Frame} {meth : Method} {c : Code} {D : va_G} {ca : Nat → ClassId} {ad : Nat → Nat} {A : Nat → Prop} {Q : Option mV → mM → Prop} (hX : CX p s m args meth c 2 cX11_cell "FairBlocks" D ca ad A) (hr : meth.sig.returnType = (Option.some FieldType.int)) : ∀ lv st M, BX11_cell_15 (Gd p l e (rmD 4) s m args below meth c 2 D ca ad A 0 0 (MQ below (QC D ca ad A Q) args s 0 0 A)) Q lv st M → Gd p l e (rmD 4) s m args below meth c 2 D ca ad A 0 0 (MQ below (QC D ca ad A Q) args s 0 0 A) 15 lv st M :=
  (sd_aload_n hX dX11_cell_15 rfl (sd_getr hX fl_301 (fun _ => rfl) (fun _ _ _ => by decide +kernel) dX11_cell_16 (sd_aload_n hX dX11_cell_19 rfl (sd_getr hX fl_303 (fun _ => rfl) (fun _ _ _ => by decide +kernel) dX11_cell_20 (sd_aload_n hX dX11_cell_23 rfl (sd_getr hX fl_304 (fun _ => rfl) (fun _ _ _ => by decide +kernel) dX11_cell_24 (sd_callV hX (kd := 9) rfl (by decide) (ct_X9_readInto l) mk_X9_readInto w_372 ⟨⟨by decide, by decide⟩, by decide, by decide⟩ dX11_cell_27 (sd_aload_n hX dX11_cell_30 rfl (sd_getr hX fl_305 (fun _ => rfl) (fun _ _ _ => by decide +kernel) dX11_cell_31 (sd_callV hX (kd := 0) rfl (by decide) (ct_X0_forgetAll l) mk_X0_forgetAll w_389 ⟨⟨by decide, by decide⟩, by decide, by decide⟩ dX11_cell_34 (sd_iconst hX dX11_cell_37 rfl (sd_istore_n hX (by decide) dX11_cell_38 rfl sd_at))))))))))))
def BX11_cell_39 (G : Nat → KT) (Q : Option mV → mM → Prop) : KT := (s_iload 1 (s_iconst (2) (s_icmp (fun x y => y ≤ x) (s_at G 57 [true, false]) (s_aload 0 (s_getr 11 14 (fun _ => 141) (s_iload 1 (s_iconst (0) (s_zast (s_iinc 1 (1) (s_at G 39 [true, true]))))))))))
set_option maxRecDepth 4000 in
theorem bsX11_cell_39 {p : Program} {l : Launch} {e : Env} {s : State} {m : MethodId} {args : Array Value} {below : List Frame} {meth : Method} {c : Code} {D : va_G} {ca : Nat → ClassId} {ad : Nat → Nat} {A : Nat → Prop} {Q : Option mV → mM → Prop} (hX : CX p s m args meth c 2 cX11_cell "FairBlocks" D ca ad A) (hr : meth.sig.returnType = (Option.some FieldType.int)) : ∀ lv st M, BX11_cell_39 (Gd p l e (rmD 4) s m args below meth c 2 D ca ad A 0 0 (MQ below (QC D ca ad A Q) args s 0 0 A)) Q lv st M → Gd p l e (rmD 4) s m args below meth c 2 D ca ad A 0 0 (MQ below (QC D ca ad A Q) args s 0 0 A) 39 lv st M :=
  (sd_iload_n hX dX11_cell_39 rfl (sd_iconst hX dX11_cell_40 rfl (sd_icmp_ge hX dX11_cell_41 (by decide) sd_at (sd_aload_n hX dX11_cell_44 rfl (sd_getr hX fl_307 (fun _ => rfl) (fun _ _ _ => by decide +kernel) dX11_cell_45 (sd_iload_n hX dX11_cell_48 rfl (sd_iconst hX dX11_cell_49 rfl (sd_zast hX dX11_cell_50 (sd_iinc hX (by decide) dX11_cell_51 rfl (sd_goto hX dX11_cell_54 (by decide) sd_at))))))))))
def BX11_cell_57 (G : Nat → KT) (Q : Option mV → mM → Prop) : KT := (s_aload 0 (s_getr 11 5 (fun _ => 4) (s_geti 5 2 (s_iret Q))))
set_option maxRecDepth 4000 in
theorem bsX11_cell_57 {p : Program} {l : Launch} {e : Env} {s : State} {m : MethodId} {args : Array Value} {below : List Frame} {meth : Method} {c : Code} {D : va_G} {ca : Nat → ClassId} {ad : Nat → Nat} {A : Nat → Prop} {Q : Option mV → mM → Prop} (hX : CX p s m args meth c 2 cX11_cell "FairBlocks" D ca ad A) (hr : meth.sig.returnType = (Option.some FieldType.int)) : ∀ lv st M, BX11_cell_57 (Gd p l e (rmD 4) s m args below meth c 2 D ca ad A 0 0 (MQ below (QC D ca ad A Q) args s 0 0 A)) Q lv st M → Gd p l e (rmD 4) s m args below meth c 2 D ca ad A 0 0 (MQ below (QC D ca ad A Q) args s 0 0 A) 57 lv st M :=
  (sd_aload_n hX dX11_cell_57 rfl (sd_getr hX fl_303 (fun _ => rfl) (fun _ _ _ => by decide +kernel) dX11_cell_58 (sd_geti hX fl_65 (by decide) dX11_cell_61 (sd_iret hX hr dX11_cell_64))))
set_option maxHeartbeats 400000 in
theorem pf_X11_cell (G : Nat → KT) (Q : Option mV → mM → Prop) (h0 : ∀ lv st M, BX11_cell_0 G Q lv st M → G 0 lv st M) (h15 : ∀ lv st M, BX11_cell_15 G Q lv st M → G 15 lv st M) (h39 : ∀ lv st M, BX11_cell_39 G Q lv st M → G 39 lv st M) (h57 : ∀ lv st M, BX11_cell_57 G Q lv st M → G 57 lv st M) (as : List mV) (M : mM) (ho : ∀ v ∈ as, okV v) (hp : pre_X11_cell as M) (hQ : Q (fn_X11_cell as M).1 (fn_X11_cell as M).2) : G 0 (inL as ++ List.replicate (2 - (inL as).length) none) [] M := by
  obtain ⟨c, rfl, hC⟩ := hp
  simp only [fn_X11_cell, c_cell] at hQ
  (apply h0; simp only [BX11_cell_0, s_mth, s_mab, s_at, s_iconst, s_lconst, s_iload, s_lload, s_aload, s_istore, s_lstore, s_astore, s_iinc, s_bin, s_binG, s_un, s_lbin, s_lbinG, s_lsh, s_lcmp, s_i2l, s_l2i, s_dup, s_dup2, s_pop, s_if, s_icmp, s_geti, s_getl, s_getr, s_puti, s_putz, s_putl, s_iald, s_zald, s_iast, s_zast, s_aaldS, s_aaldU, s_gets, s_tald, s_tsw, tsw, s_iret, s_zret, s_lret, s_aret, s_vret, s_callV, s_callS, c1, nl1, keepL, csum, pushR, inL, List.getD_cons_zero, List.getD_cons_succ, List.set_cons_zero, List.set_cons_succ, List.cons_append, List.nil_append, List.append_nil, List.replicate, List.length_cons, List.length_nil, List.take_succ_cons, List.take_zero, List.drop_succ_cons, List.drop_zero, List.reverse_cons, List.reverse_nil, true_and, and_true, forall_const, not_true_eq_false, not_false_eq_true, false_implies, true_implies, implies_true, one0, m10, Nat.reduceAdd, Nat.reduceSub, Nat.reduceLeDiff, Nat.zero_add, Nat.add_zero, fn_X0_forgetAll, fn_X9_firstFault, fn_X9_readInto])
  refine ⟨⟨_, rfl, hC.2.1⟩, fun h => ?_, fun h => ?_⟩
  · rw [if_pos h] at hQ
    have L : ∀ (M : mM), Q (some (.inl ((mset (mset M 141 0 0) 141 1 0).1 4 2))) (mset (mset M 141 0 0) 141 1 0) → G 39 [some (.inr (.inr (11, c))), some (.inl (nI 0))] [] M := by
      intro M hq
      (apply h39; simp only [BX11_cell_39, s_mth, s_mab, s_at, s_iconst, s_lconst, s_iload, s_lload, s_aload, s_istore, s_lstore, s_astore, s_iinc, s_bin, s_binG, s_un, s_lbin, s_lbinG, s_lsh, s_lcmp, s_i2l, s_l2i, s_dup, s_dup2, s_pop, s_if, s_icmp, s_geti, s_getl, s_getr, s_puti, s_putz, s_putl, s_iald, s_zald, s_iast, s_zast, s_aaldS, s_aaldU, s_gets, s_tald, s_tsw, tsw, s_iret, s_zret, s_lret, s_aret, s_vret, s_callV, s_callS, c1, nl1, keepL, csum, pushR, inL, List.getD_cons_zero, List.getD_cons_succ, List.set_cons_zero, List.set_cons_succ, List.cons_append, List.nil_append, List.append_nil, List.replicate, List.length_cons, List.length_nil, List.take_succ_cons, List.take_zero, List.drop_succ_cons, List.drop_zero, List.reverse_cons, List.reverse_nil, true_and, and_true, forall_const, not_true_eq_false, not_false_eq_true, false_implies, true_implies, implies_true, one0, m10, Nat.reduceAdd, Nat.reduceSub, Nat.reduceLeDiff, Nat.zero_add, Nat.add_zero, fn_X0_forgetAll, fn_X9_firstFault, fn_X9_readInto])
      simp only [l141, z00]
      refine ⟨fun h => absurd h (nI_ge (b := 2) (by decide) (by decide)), fun _ => ⟨vp_in_nI (by decide) (by decide), ?_⟩⟩
      rw [nI_1]
      (apply h39; simp only [BX11_cell_39, s_mth, s_mab, s_at, s_iconst, s_lconst, s_iload, s_lload, s_aload, s_istore, s_lstore, s_astore, s_iinc, s_bin, s_binG, s_un, s_lbin, s_lbinG, s_lsh, s_lcmp, s_i2l, s_l2i, s_dup, s_dup2, s_pop, s_if, s_icmp, s_geti, s_getl, s_getr, s_puti, s_putz, s_putl, s_iald, s_zald, s_iast, s_zast, s_aaldS, s_aaldU, s_gets, s_tald, s_tsw, tsw, s_iret, s_zret, s_lret, s_aret, s_vret, s_callV, s_callS, c1, nl1, keepL, csum, pushR, inL, List.getD_cons_zero, List.getD_cons_succ, List.set_cons_zero, List.set_cons_succ, List.cons_append, List.nil_append, List.append_nil, List.replicate, List.length_cons, List.length_nil, List.take_succ_cons, List.take_zero, List.drop_succ_cons, List.drop_zero, List.reverse_cons, List.reverse_nil, true_and, and_true, forall_const, not_true_eq_false, not_false_eq_true, false_implies, true_implies, implies_true, one0, m10, Nat.reduceAdd, Nat.reduceSub, Nat.reduceLeDiff, Nat.zero_add, Nat.add_zero, fn_X0_forgetAll, fn_X9_firstFault, fn_X9_readInto])
      simp only [l141, z00]
      refine ⟨fun h => absurd h (nI_ge (b := 2) (by decide) (by decide)), fun _ => ⟨vp_in_nI (by decide) (by decide), ?_⟩⟩
      rw [nI_1]
      (apply h39; simp only [BX11_cell_39, s_mth, s_mab, s_at, s_iconst, s_lconst, s_iload, s_lload, s_aload, s_istore, s_lstore, s_astore, s_iinc, s_bin, s_binG, s_un, s_lbin, s_lbinG, s_lsh, s_lcmp, s_i2l, s_l2i, s_dup, s_dup2, s_pop, s_if, s_icmp, s_geti, s_getl, s_getr, s_puti, s_putz, s_putl, s_iald, s_zald, s_iast, s_zast, s_aaldS, s_aaldU, s_gets, s_tald, s_tsw, tsw, s_iret, s_zret, s_lret, s_aret, s_vret, s_callV, s_callS, c1, nl1, keepL, csum, pushR, inL, List.getD_cons_zero, List.getD_cons_succ, List.set_cons_zero, List.set_cons_succ, List.cons_append, List.nil_append, List.append_nil, List.replicate, List.length_cons, List.length_nil, List.take_succ_cons, List.take_zero, List.drop_succ_cons, List.drop_zero, List.reverse_cons, List.reverse_nil, true_and, and_true, forall_const, not_true_eq_false, not_false_eq_true, false_implies, true_implies, implies_true, one0, m10, Nat.reduceAdd, Nat.reduceSub, Nat.reduceLeDiff, Nat.zero_add, Nat.add_zero, fn_X0_forgetAll, fn_X9_firstFault, fn_X9_readInto])
      refine ⟨fun _ => ?_, fun h => absurd (nI_le (a := 2) (by decide) (by decide)) h⟩
      (apply h57; simp only [BX11_cell_57, s_mth, s_mab, s_at, s_iconst, s_lconst, s_iload, s_lload, s_aload, s_istore, s_lstore, s_astore, s_iinc, s_bin, s_binG, s_un, s_lbin, s_lbinG, s_lsh, s_lcmp, s_i2l, s_l2i, s_dup, s_dup2, s_pop, s_if, s_icmp, s_geti, s_getl, s_getr, s_puti, s_putz, s_putl, s_iald, s_zald, s_iast, s_zast, s_aaldS, s_aaldU, s_gets, s_tald, s_tsw, tsw, s_iret, s_zret, s_lret, s_aret, s_vret, s_callV, s_callS, c1, nl1, keepL, csum, pushR, inL, List.getD_cons_zero, List.getD_cons_succ, List.set_cons_zero, List.set_cons_succ, List.cons_append, List.nil_append, List.append_nil, List.replicate, List.length_cons, List.length_nil, List.take_succ_cons, List.take_zero, List.drop_succ_cons, List.drop_zero, List.reverse_cons, List.reverse_nil, true_and, and_true, forall_const, not_true_eq_false, not_false_eq_true, false_implies, true_implies, implies_true, one0, m10, Nat.reduceAdd, Nat.reduceSub, Nat.reduceLeDiff, Nat.zero_add, Nat.add_zero, fn_X0_forgetAll, fn_X9_firstFault, fn_X9_readInto])
      exact hq
    (apply h15; simp only [BX11_cell_15, s_mth, s_mab, s_at, s_iconst, s_lconst, s_iload, s_lload, s_aload, s_istore, s_lstore, s_astore, s_iinc, s_bin, s_binG, s_un, s_lbin, s_lbinG, s_lsh, s_lcmp, s_i2l, s_l2i, s_dup, s_dup2, s_pop, s_if, s_icmp, s_geti, s_getl, s_getr, s_puti, s_putz, s_putl, s_iald, s_zald, s_iast, s_zast, s_aaldS, s_aaldU, s_gets, s_tald, s_tsw, tsw, s_iret, s_zret, s_lret, s_aret, s_vret, s_callV, s_callS, c1, nl1, keepL, csum, pushR, inL, List.getD_cons_zero, List.getD_cons_succ, List.set_cons_zero, List.set_cons_succ, List.cons_append, List.nil_append, List.append_nil, List.replicate, List.length_cons, List.length_nil, List.take_succ_cons, List.take_zero, List.drop_succ_cons, List.drop_zero, List.reverse_cons, List.reverse_nil, true_and, and_true, forall_const, not_true_eq_false, not_false_eq_true, false_implies, true_implies, implies_true, one0, m10, Nat.reduceAdd, Nat.reduceSub, Nat.reduceLeDiff, Nat.zero_add, Nat.add_zero, fn_X0_forgetAll, fn_X9_firstFault, fn_X9_readInto])
    exact ⟨⟨_, _, _, rfl, hC.2.1, rfl⟩, ⟨_, rfl⟩, L _ hQ⟩
  · rw [if_neg h] at hQ; exact hQ
theorem ct_X11_cell (l : Launch) : Con l yX11_cell cX11_cell 2 (Option.some FieldType.int) 4 pre_X11_cell fn_X11_cell := con_of (by decide +kernel) ok_X11_cell len_X11_cell (fun p e s m args below meth c D ca ad A as M hX hr hp ho => pf_X11_cell _ _ (bsX11_cell_0 hX hr) (bsX11_cell_15 hX hr) (bsX11_cell_39 hX hr) (bsX11_cell_57 hX hr) as M ho hp ⟨rfl, rfl⟩)
def c_user (M : mM) (u w : Int32) : Int32 := if hasI M u = 0 then -1 else if wi w 0 10 = 0 then -2 else if w = 0 then rt M u (M.1 7 2) else told M (9 + u.toNatClampNeg) w
def pre_X11_user (as : List mV) (M : mM) : Prop := ∃ c u w, as = [.inr (.inr (11, c)), .inl u, .inl w] ∧ CI M
def fn_X11_user : List mV → mM → Option mV × mM
  | [.inr (.inr (_, c)), .inl u, .inl w], M => (some (.inl (c_user M u w)), M)
  | _, M => (none, M)
theorem ok_X11_user (as : List mV) (M : mM) (h : pre_X11_user as M) (_ : ∀ v ∈ as, okV v) : okR (fn_X11_user as M).1 := by
  obtain ⟨c, u, w, rfl, -⟩ := h
  first | trivial | exact (by decide +kernel : kof 14 = 8)
theorem len_X11_user (as : List mV) (M : mM) (h : pre_X11_user as M) : (inL as).length ≤ 3 := by
  obtain ⟨c, u, w, rfl, -⟩ := h
  exact Nat.le_of_ble_eq_true rfl

theorem fl_148 : FLk "FairBlocks" 124 8 0 19 := ⟨RX8, TX8, 3, rfl, inX8, by decide, w_148, by decide, rfl⟩
theorem fl_157 : FLk "FairBlocks" 117 8 2 0 := ⟨RX8, TX8, 3, rfl, inX8, by decide, w_157, by decide, rfl⟩
theorem dX11_user_0 : decode cX11_user 0 = .ok (.aload_n 0, 1) := by decide +kernel
theorem dX11_user_1 : decode cX11_user 1 = .ok (.getfield 27, 3) := by decide +kernel
theorem dX11_user_4 : decode cX11_user 4 = .ok (.iload_n 1, 1) := by decide +kernel
theorem dX11_user_5 : decode cX11_user 5 = .ok (.invokevirtual 113, 3) := by decide +kernel
theorem dX11_user_8 : decode cX11_user 8 = .ok (.ifCond .ne 5, 3) := by decide +kernel
theorem dX11_user_11 : decode cX11_user 11 = .ok (.iconst (-1), 1) := by decide +kernel
theorem dX11_user_12 : decode cX11_user 12 = .ok (.ireturn, 1) := by decide +kernel
theorem dX11_user_13 : decode cX11_user 13 = .ok (.iload_n 2, 1) := by decide +kernel
theorem dX11_user_14 : decode cX11_user 14 = .ok (.iconst 0, 1) := by decide +kernel
theorem dX11_user_15 : decode cX11_user 15 = .ok (.bipush 10, 2) := by decide +kernel
theorem dX11_user_17 : decode cX11_user 17 = .ok (.invokestatic 85, 3) := by decide +kernel
theorem dX11_user_20 : decode cX11_user 20 = .ok (.ifCond .ne 6, 3) := by decide +kernel
theorem dX11_user_23 : decode cX11_user 23 = .ok (.bipush (-2), 2) := by decide +kernel
theorem dX11_user_25 : decode cX11_user 25 = .ok (.ireturn, 1) := by decide +kernel
theorem dX11_user_26 : decode cX11_user 26 = .ok (.iload_n 2, 1) := by decide +kernel
theorem dX11_user_27 : decode cX11_user 27 = .ok (.ifCond .ne 19, 3) := by decide +kernel
theorem dX11_user_30 : decode cX11_user 30 = .ok (.aload_n 0, 1) := by decide +kernel
theorem dX11_user_31 : decode cX11_user 31 = .ok (.getfield 27, 3) := by decide +kernel
theorem dX11_user_34 : decode cX11_user 34 = .ok (.iload_n 1, 1) := by decide +kernel
theorem dX11_user_35 : decode cX11_user 35 = .ok (.aload_n 0, 1) := by decide +kernel
theorem dX11_user_36 : decode cX11_user 36 = .ok (.getfield 32, 3) := by decide +kernel
theorem dX11_user_39 : decode cX11_user 39 = .ok (.getfield 117, 3) := by decide +kernel
theorem dX11_user_42 : decode cX11_user 42 = .ok (.invokevirtual 120, 3) := by decide +kernel
theorem dX11_user_45 : decode cX11_user 45 = .ok (.ireturn, 1) := by decide +kernel
theorem dX11_user_46 : decode cX11_user 46 = .ok (.aload_n 0, 1) := by decide +kernel
theorem dX11_user_47 : decode cX11_user 47 = .ok (.getfield 32, 3) := by decide +kernel
theorem dX11_user_50 : decode cX11_user 50 = .ok (.getfield 124, 3) := by decide +kernel
theorem dX11_user_53 : decode cX11_user 53 = .ok (.iload_n 1, 1) := by decide +kernel
theorem dX11_user_54 : decode cX11_user 54 = .ok (.aaload, 1) := by decide +kernel
theorem dX11_user_55 : decode cX11_user 55 = .ok (.iload_n 2, 1) := by decide +kernel
theorem dX11_user_56 : decode cX11_user 56 = .ok (.invokevirtual 127, 3) := by decide +kernel
theorem dX11_user_59 : decode cX11_user 59 = .ok (.ireturn, 1) := by decide +kernel
theorem mk_X11_user : MVk yX11_user "FairBlocks" cX11_user 3 (Option.some FieldType.int) 2 := ⟨w_396, w_394, w_395, w_1, rfl, by decide +kernel, by decide +kernel, by decide +kernel⟩
def BX11_user_0 (G : Nat → KT) (Q : Option mV → mM → Prop) : KT := (s_aload 0 (s_getr 11 5 (fun _ => 4) (s_iload 1 (s_callV 5 1 pre_X5_has fn_X5_has (s_if (fun x => x = 0) ((s_iconst (-1) (s_iret Q))) (s_at G 13 [true, true, true]))))))
set_option maxRecDepth 4000 in
theorem bsX11_user_0 {p : Program} {l : Launch} {e : Env} {s : State} {m : MethodId} {args : Array Value} {below : List Frame} {meth : Method} {c : Code} {D : va_G} {ca : Nat → ClassId} {ad : Nat → Nat} {A : Nat → Prop} {Q : Option mV → mM → Prop} (hX : CX p s m args meth c 3 cX11_user "FairBlocks" D ca ad A) (hr : meth.sig.returnType = (Option.some FieldType.int)) : ∀ lv st M, BX11_user_0 (Gd p l e (rmD 1) s m args below meth c 3 D ca ad A 0 0 (MQ below (QC D ca ad A Q) args s 0 0 A)) Q lv st M → Gd p l e (rmD 1) s m args below meth c 3 D ca ad A 0 0 (MQ below (QC D ca ad A Q) args s 0 0 A) 0 lv st M :=
  (sd_aload_n hX dX11_user_0 rfl (sd_getr hX fl_303 (fun _ => rfl) (fun _ _ _ => by decide +kernel) dX11_user_1 (sd_iload_n hX dX11_user_4 rfl (sd_callV hX (kd := 5) rfl (by decide) (ct_X5_has l) mk_X5_has w_397 ⟨⟨by decide, by decide⟩, by decide, by decide⟩ dX11_user_5 (sd_if_ne hX dX11_user_8 (by decide) sd_at (sd_iconst hX dX11_user_11 rfl (sd_iret hX hr dX11_user_12)))))))
def BX11_user_13 (G : Nat → KT) (Q : Option mV → mM → Prop) : KT := (s_iload 2 (s_iconst (0) (s_iconst (10) (s_callS 3 pre_X11_within fn_X11_within (s_if (fun x => x = 0) ((s_iconst (-2) (s_iret Q))) (s_at G 26 [true, true, true]))))))
set_option maxRecDepth 4000 in
theorem bsX11_user_13 {p : Program} {l : Launch} {e : Env} {s : State} {m : MethodId} {args : Array Value} {below : List Frame} {meth : Method} {c : Code} {D : va_G} {ca : Nat → ClassId} {ad : Nat → Nat} {A : Nat → Prop} {Q : Option mV → mM → Prop} (hX : CX p s m args meth c 3 cX11_user "FairBlocks" D ca ad A) (hr : meth.sig.returnType = (Option.some FieldType.int)) : ∀ lv st M, BX11_user_13 (Gd p l e (rmD 1) s m args below meth c 3 D ca ad A 0 0 (MQ below (QC D ca ad A Q) args s 0 0 A)) Q lv st M → Gd p l e (rmD 1) s m args below meth c 3 D ca ad A 0 0 (MQ below (QC D ca ad A Q) args s 0 0 A) 13 lv st M :=
  (sd_iload_n hX dX11_user_13 rfl (sd_iconst hX dX11_user_14 rfl (sd_bipush hX dX11_user_15 rfl (sd_callS hX (ct_X11_within l) mk_X11_within w_342 ⟨⟨by decide, by decide⟩, by decide, by decide⟩ dX11_user_17 (sd_if_ne hX dX11_user_20 (by decide) sd_at (sd_bipush hX dX11_user_23 rfl (sd_iret hX hr dX11_user_25)))))))
def BX11_user_26 (G : Nat → KT) (Q : Option mV → mM → Prop) : KT := (s_iload 2 (s_if (fun x => x = 0) ((s_aload 0 (s_getr 11 5 (fun _ => 4) (s_iload 1 (s_aload 0 (s_getr 11 8 (fun _ => 7) (s_geti 8 2 (s_callV 5 2 pre_X5_rateOf fn_X5_rateOf (s_iret Q))))))))) (s_at G 46 [true, true, true])))
set_option maxRecDepth 4000 in
theorem bsX11_user_26 {p : Program} {l : Launch} {e : Env} {s : State} {m : MethodId} {args : Array Value} {below : List Frame} {meth : Method} {c : Code} {D : va_G} {ca : Nat → ClassId} {ad : Nat → Nat} {A : Nat → Prop} {Q : Option mV → mM → Prop} (hX : CX p s m args meth c 3 cX11_user "FairBlocks" D ca ad A) (hr : meth.sig.returnType = (Option.some FieldType.int)) : ∀ lv st M, BX11_user_26 (Gd p l e (rmD 1) s m args below meth c 3 D ca ad A 0 0 (MQ below (QC D ca ad A Q) args s 0 0 A)) Q lv st M → Gd p l e (rmD 1) s m args below meth c 3 D ca ad A 0 0 (MQ below (QC D ca ad A Q) args s 0 0 A) 26 lv st M :=
  (sd_iload_n hX dX11_user_26 rfl (sd_if_ne hX dX11_user_27 (by decide) sd_at (sd_aload_n hX dX11_user_30 rfl (sd_getr hX fl_303 (fun _ => rfl) (fun _ _ _ => by decide +kernel) dX11_user_31 (sd_iload_n hX dX11_user_34 rfl (sd_aload_n hX dX11_user_35 rfl (sd_getr hX fl_304 (fun _ => rfl) (fun _ _ _ => by decide +kernel) dX11_user_36 (sd_geti hX fl_157 (by decide) dX11_user_39 (sd_callV hX (kd := 5) rfl (by decide) (ct_X5_rateOf l) mk_X5_rateOf w_401 ⟨⟨by decide, by decide⟩, by decide, by decide⟩ dX11_user_42 (sd_iret hX hr dX11_user_45))))))))))
def BX11_user_46 (G : Nat → KT) (Q : Option mV → mM → Prop) : KT := (s_aload 0 (s_getr 11 8 (fun _ => 7) (s_getr 8 16 (fun k => k + 1) (s_iload 1 (s_aaldU (s_iload 2 (s_callV 10 1 pre_X10_told fn_X10_told (s_iret Q))))))))
set_option maxRecDepth 4000 in
theorem bsX11_user_46 {p : Program} {l : Launch} {e : Env} {s : State} {m : MethodId} {args : Array Value} {below : List Frame} {meth : Method} {c : Code} {D : va_G} {ca : Nat → ClassId} {ad : Nat → Nat} {A : Nat → Prop} {Q : Option mV → mM → Prop} (hX : CX p s m args meth c 3 cX11_user "FairBlocks" D ca ad A) (hr : meth.sig.returnType = (Option.some FieldType.int)) : ∀ lv st M, BX11_user_46 (Gd p l e (rmD 1) s m args below meth c 3 D ca ad A 0 0 (MQ below (QC D ca ad A Q) args s 0 0 A)) Q lv st M → Gd p l e (rmD 1) s m args below meth c 3 D ca ad A 0 0 (MQ below (QC D ca ad A Q) args s 0 0 A) 46 lv st M :=
  (sd_aload_n hX dX11_user_46 rfl (sd_getr hX fl_304 (fun _ => rfl) (fun _ _ _ => by decide +kernel) dX11_user_47 (sd_getr hX fl_148 (fun _ => rfl) okA dX11_user_50 (sd_iload_n hX dX11_user_53 rfl (sd_aaldU hX dX11_user_54 (sd_iload_n hX dX11_user_55 rfl (sd_callV hX (kd := 10) rfl (by decide) (ct_X10_told l) mk_X10_told w_405 ⟨⟨by decide, by decide⟩, by decide, by decide⟩ dX11_user_56 (sd_iret hX hr dX11_user_59))))))))
set_option maxHeartbeats 400000 in
theorem pf_X11_user (G : Nat → KT) (Q : Option mV → mM → Prop) (h0 : ∀ lv st M, BX11_user_0 G Q lv st M → G 0 lv st M) (h13 : ∀ lv st M, BX11_user_13 G Q lv st M → G 13 lv st M) (h26 : ∀ lv st M, BX11_user_26 G Q lv st M → G 26 lv st M) (h46 : ∀ lv st M, BX11_user_46 G Q lv st M → G 46 lv st M) (as : List mV) (M : mM) (ho : ∀ v ∈ as, okV v) (hp : pre_X11_user as M) (hQ : Q (fn_X11_user as M).1 (fn_X11_user as M).2) : G 0 (inL as ++ List.replicate (3 - (inL as).length) none) [] M := by
  obtain ⟨c, u, w, rfl, hC⟩ := hp
  have hPL := hC.1.1.2
  have hn := n5 hPL
  simp only [fn_X11_user, c_user] at hQ
  (apply h0; simp only [BX11_user_0, s_mth, s_mab, s_at, s_iconst, s_lconst, s_iload, s_lload, s_aload, s_istore, s_lstore, s_astore, s_iinc, s_bin, s_binG, s_un, s_lbin, s_lbinG, s_lsh, s_lcmp, s_i2l, s_l2i, s_dup, s_dup2, s_pop, s_if, s_icmp, s_geti, s_getl, s_getr, s_puti, s_putz, s_putl, s_iald, s_zald, s_iast, s_zast, s_aaldS, s_aaldU, s_gets, s_tald, s_tsw, tsw, s_iret, s_zret, s_lret, s_aret, s_vret, s_callV, s_callS, c1, nl1, keepL, csum, pushR, inL, List.getD_cons_zero, List.getD_cons_succ, List.set_cons_zero, List.set_cons_succ, List.cons_append, List.nil_append, List.append_nil, List.replicate, List.length_cons, List.length_nil, List.take_succ_cons, List.take_zero, List.drop_succ_cons, List.drop_zero, List.reverse_cons, List.reverse_nil, true_and, and_true, forall_const, not_true_eq_false, not_false_eq_true, false_implies, true_implies, implies_true, one0, m10, Nat.reduceAdd, Nat.reduceSub, Nat.reduceLeDiff, Nat.zero_add, Nat.add_zero, fn_X10_told, fn_X11_within, fn_X5_has, fn_X5_rateOf])
  refine ⟨⟨_, _, rfl⟩, fun h => ?_, fun h => ?_⟩
  · rw [if_pos h] at hQ; exact hQ
  · rw [if_neg h] at hQ
    (apply h13; simp only [BX11_user_13, s_mth, s_mab, s_at, s_iconst, s_lconst, s_iload, s_lload, s_aload, s_istore, s_lstore, s_astore, s_iinc, s_bin, s_binG, s_un, s_lbin, s_lbinG, s_lsh, s_lcmp, s_i2l, s_l2i, s_dup, s_dup2, s_pop, s_if, s_icmp, s_geti, s_getl, s_getr, s_puti, s_putz, s_putl, s_iald, s_zald, s_iast, s_zast, s_aaldS, s_aaldU, s_gets, s_tald, s_tsw, tsw, s_iret, s_zret, s_lret, s_aret, s_vret, s_callV, s_callS, c1, nl1, keepL, csum, pushR, inL, List.getD_cons_zero, List.getD_cons_succ, List.set_cons_zero, List.set_cons_succ, List.cons_append, List.nil_append, List.append_nil, List.replicate, List.length_cons, List.length_nil, List.take_succ_cons, List.take_zero, List.drop_succ_cons, List.drop_zero, List.reverse_cons, List.reverse_nil, true_and, and_true, forall_const, not_true_eq_false, not_false_eq_true, false_implies, true_implies, implies_true, one0, m10, Nat.reduceAdd, Nat.reduceSub, Nat.reduceLeDiff, Nat.zero_add, Nat.add_zero, fn_X10_told, fn_X11_within, fn_X5_has, fn_X5_rateOf])
    refine ⟨⟨_, _, _, rfl⟩, fun h2 => ?_, fun h2 => ?_⟩
    · rw [if_pos h2] at hQ; exact hQ
    · rw [if_neg h2] at hQ
      (apply h26; simp only [BX11_user_26, s_mth, s_mab, s_at, s_iconst, s_lconst, s_iload, s_lload, s_aload, s_istore, s_lstore, s_astore, s_iinc, s_bin, s_binG, s_un, s_lbin, s_lbinG, s_lsh, s_lcmp, s_i2l, s_l2i, s_dup, s_dup2, s_pop, s_if, s_icmp, s_geti, s_getl, s_getr, s_puti, s_putz, s_putl, s_iald, s_zald, s_iast, s_zast, s_aaldS, s_aaldU, s_gets, s_tald, s_tsw, tsw, s_iret, s_zret, s_lret, s_aret, s_vret, s_callV, s_callS, c1, nl1, keepL, csum, pushR, inL, List.getD_cons_zero, List.getD_cons_succ, List.set_cons_zero, List.set_cons_succ, List.cons_append, List.nil_append, List.append_nil, List.replicate, List.length_cons, List.length_nil, List.take_succ_cons, List.take_zero, List.drop_succ_cons, List.drop_zero, List.reverse_cons, List.reverse_nil, true_and, and_true, forall_const, not_true_eq_false, not_false_eq_true, false_implies, true_implies, implies_true, one0, m10, Nat.reduceAdd, Nat.reduceSub, Nat.reduceLeDiff, Nat.zero_add, Nat.add_zero, fn_X10_told, fn_X11_within, fn_X5_has, fn_X5_rateOf])
      refine ⟨fun h3 => ?_, fun h3 => ?_⟩
      · rw [if_pos h3] at hQ
        exact ⟨⟨_, _, _, rfl, hPL⟩, hQ⟩
      · rw [if_neg h3] at hQ
        obtain ⟨j, hj, e⟩ := hasI_1 hPL h
        (apply h46; simp only [BX11_user_46, s_mth, s_mab, s_at, s_iconst, s_lconst, s_iload, s_lload, s_aload, s_istore, s_lstore, s_astore, s_iinc, s_bin, s_binG, s_un, s_lbin, s_lbinG, s_lsh, s_lcmp, s_i2l, s_l2i, s_dup, s_dup2, s_pop, s_if, s_icmp, s_geti, s_getl, s_getr, s_puti, s_putz, s_putl, s_iald, s_zald, s_iast, s_zast, s_aaldS, s_aaldU, s_gets, s_tald, s_tsw, tsw, s_iret, s_zret, s_lret, s_aret, s_vret, s_callV, s_callS, c1, nl1, keepL, csum, pushR, inL, List.getD_cons_zero, List.getD_cons_succ, List.set_cons_zero, List.set_cons_succ, List.cons_append, List.nil_append, List.append_nil, List.replicate, List.length_cons, List.length_nil, List.take_succ_cons, List.take_zero, List.drop_succ_cons, List.drop_zero, List.reverse_cons, List.reverse_nil, true_and, and_true, forall_const, not_true_eq_false, not_false_eq_true, false_implies, true_implies, implies_true, one0, m10, Nat.reduceAdd, Nat.reduceSub, Nat.reduceLeDiff, Nat.zero_add, Nat.add_zero, fn_X10_told, fn_X11_within, fn_X5_has, fn_X5_rateOf])
        simp only [l8]
        exact ⟨by rw [e]; exact vp_in_nI (by omega) (by decide), ⟨_, _, rfl⟩, hQ⟩
theorem ct_X11_user (l : Launch) : Con l yX11_user cX11_user 3 (Option.some FieldType.int) 1 pre_X11_user fn_X11_user := con_of (by decide +kernel) ok_X11_user len_X11_user (fun p e s m args below meth c D ca ad A as M hX hr hp ho => pf_X11_user _ _ (bsX11_user_0 hX hr) (bsX11_user_13 hX hr) (bsX11_user_26 hX hr) (bsX11_user_46 hX hr) as M ho hp ⟨rfl, rfl⟩)
theorem f_rem {M : mM} {a : Nat} (hA : AC M) (ha : a < 26) : (rem M).1 a = M.1 a := by
  obtain ⟨f, z, hf, hz, e1, e2⟩ := remA_ac hA
  unfold rem remC remB
  rw [mset_n (by omega), f_stc (by unfold fr; omega)]
  unfold remA
  split
  · rw [mset_n (by omega), mset_n (by omega)]
  · rfl
theorem remK {M : mM} (hA : AC M) : ∃ j, j < 14 ∧ (rm ((remA M).1 26 1 + (remA M).1 26 2) 14).toNatClampNeg = j ∧ kof (28 + 7 * j) = 8 := by
  obtain ⟨f, z, hf, hz, e1, e2⟩ := remA_ac hA
  have hl : (f + z) % 14 < 14 := Nat.mod_lt _ (by decide)
  refine ⟨(f + z) % 14, hl, ?_, ?_⟩
  · rw [e1, e2, nI_add, rm14 (by omega), nI_clamp (by omega)]
  · exact okS 27 (by decide) (by decide +kernel) _ (by rw [show ln 27 = 14 by decide +kernel]; exact hl)
theorem GD_mset {M : mM} {k j : Nat} {v : Int32} (h : GD M) (h4 : k ≠ 4) (h6 : k ≠ 6) (hk : kof k ≠ 10) : GD (mset M k j v) := ⟨OF_mset h.1 hk, PL_mset h.2 h4 h6⟩
theorem GD_remA {M : mM} (h : GD M) : GD (remA M) := by
  unfold remA
  split
  · exact GD_mset (GD_mset h (by decide) (by decide) (by decide +kernel)) (by decide) (by decide) (by decide +kernel)
  · exact h
theorem GD_rem {M : mM} (h : GD M) (hA : AC M) : GD (rem M) := by
  obtain ⟨j, hj, e, hk⟩ := remK hA
  unfold rem remC
  refine GD_mset ?_ (by decide) (by decide) (by decide +kernel)
  unfold remB
  rw [e]
  exact GD_stc hk k7 (GD_remA h)
def c_slot (M : mM) (x : Int32) : Int32 × mM := if wi x 1 99 = 0 then (-2, M) else ru (rem M) 7 x.toNatClampNeg
def pre_X11_slot (as : List mV) (M : mM) : Prop := ∃ c x, as = [.inr (.inr (11, c)), .inl x] ∧ CI M
def fn_X11_slot : List mV → mM → Option mV × mM
  | [.inr (.inr (_, c)), .inl x], M => (some (.inl (c_slot M x).1), (c_slot M x).2)
  | _, M => (none, M)
theorem ok_X11_slot (as : List mV) (M : mM) (h : pre_X11_slot as M) (_ : ∀ v ∈ as, okV v) : okR (fn_X11_slot as M).1 := by
  obtain ⟨c, x, rfl, -⟩ := h
  first | trivial | exact (by decide +kernel : kof 14 = 8)
theorem len_X11_slot (as : List mV) (M : mM) (h : pre_X11_slot as M) : (inL as).length ≤ 2 := by
  obtain ⟨c, x, rfl, -⟩ := h
  exact Nat.le_of_ble_eq_true rfl

theorem fl_204 : FLk "FairBlocks" 137 1 3 9 := ⟨RX1, TX1, 4, rfl, inX1, by decide, w_204, by decide, rfl⟩
theorem fl_302 : FLk "FairBlocks" 19 11 1 4 := ⟨RX11, TX11, 12, rfl, inX11, by decide, w_302, by decide, rfl⟩
theorem dX11_slot_0 : decode cX11_slot 0 = .ok (.iload_n 1, 1) := by decide +kernel
theorem dX11_slot_1 : decode cX11_slot 1 = .ok (.iconst 1, 1) := by decide +kernel
theorem dX11_slot_2 : decode cX11_slot 2 = .ok (.bipush 99, 2) := by decide +kernel
theorem dX11_slot_4 : decode cX11_slot 4 = .ok (.invokestatic 85, 3) := by decide +kernel
theorem dX11_slot_7 : decode cX11_slot 7 = .ok (.ifCond .ne 6, 3) := by decide +kernel
theorem dX11_slot_10 : decode cX11_slot 10 = .ok (.bipush (-2), 2) := by decide +kernel
theorem dX11_slot_12 : decode cX11_slot 12 = .ok (.ireturn, 1) := by decide +kernel
theorem dX11_slot_13 : decode cX11_slot 13 = .ok (.aload_n 0, 1) := by decide +kernel
theorem dX11_slot_14 : decode cX11_slot 14 = .ok (.getfield 36, 3) := by decide +kernel
theorem dX11_slot_17 : decode cX11_slot 17 = .ok (.aload_n 0, 1) := by decide +kernel
theorem dX11_slot_18 : decode cX11_slot 18 = .ok (.getfield 32, 3) := by decide +kernel
theorem dX11_slot_21 : decode cX11_slot 21 = .ok (.invokevirtual 133, 3) := by decide +kernel
theorem dX11_slot_24 : decode cX11_slot 24 = .ok (.aload_n 0, 1) := by decide +kernel
theorem dX11_slot_25 : decode cX11_slot 25 = .ok (.getfield 19, 3) := by decide +kernel
theorem dX11_slot_28 : decode cX11_slot 28 = .ok (.getfield 137, 3) := by decide +kernel
theorem dX11_slot_31 : decode cX11_slot 31 = .ok (.aload_n 0, 1) := by decide +kernel
theorem dX11_slot_32 : decode cX11_slot 32 = .ok (.getfield 32, 3) := by decide +kernel
theorem dX11_slot_35 : decode cX11_slot 35 = .ok (.iload_n 1, 1) := by decide +kernel
theorem dX11_slot_36 : decode cX11_slot 36 = .ok (.invokevirtual 141, 3) := by decide +kernel
theorem dX11_slot_39 : decode cX11_slot 39 = .ok (.ireturn, 1) := by decide +kernel
theorem mk_X11_slot : MVk yX11_slot "FairBlocks" cX11_slot 2 (Option.some FieldType.int) 1 := ⟨w_412, w_410, w_411, w_1, rfl, by decide +kernel, by decide +kernel, by decide +kernel⟩
def BX11_slot_0 (G : Nat → KT) (Q : Option mV → mM → Prop) : KT := (s_iload 1 (s_iconst (1) (s_iconst (99) (s_callS 3 pre_X11_within fn_X11_within (s_if (fun x => x = 0) ((s_iconst (-2) (s_iret Q))) (s_at G 13 [true, true]))))))
set_option maxRecDepth 4000 in
theorem bsX11_slot_0 {p : Program} {l : Launch} {e : Env} {s : State} {m : MethodId} {args : Array Value} {below : List Frame} {meth : Method} {c : Code} {D : va_G} {ca : Nat → ClassId} {ad : Nat → Nat} {A : Nat → Prop} {Q : Option mV → mM → Prop} (hX : CX p s m args meth c 2 cX11_slot "FairBlocks" D ca ad A) (hr : meth.sig.returnType = (Option.some FieldType.int)) : ∀ lv st M, BX11_slot_0 (Gd p l e (rmD 4) s m args below meth c 2 D ca ad A 0 0 (MQ below (QC D ca ad A Q) args s 0 0 A)) Q lv st M → Gd p l e (rmD 4) s m args below meth c 2 D ca ad A 0 0 (MQ below (QC D ca ad A Q) args s 0 0 A) 0 lv st M :=
  (sd_iload_n hX dX11_slot_0 rfl (sd_iconst hX dX11_slot_1 rfl (sd_bipush hX dX11_slot_2 rfl (sd_callS hX (ct_X11_within l) mk_X11_within w_342 ⟨⟨by decide, by decide⟩, by decide, by decide⟩ dX11_slot_4 (sd_if_ne hX dX11_slot_7 (by decide) sd_at (sd_bipush hX dX11_slot_10 rfl (sd_iret hX hr dX11_slot_12)))))))
def BX11_slot_13 (G : Nat → KT) (Q : Option mV → mM → Prop) : KT := (s_aload 0 (s_getr 11 0 (fun _ => 26) (s_aload 0 (s_getr 11 8 (fun _ => 7) (s_callV 0 1 pre_X0_remember fn_X0_remember (s_aload 0 (s_getr 11 1 (fun _ => 3) (s_getr 1 6 (fun _ => 21) (s_aload 0 (s_getr 11 8 (fun _ => 7) (s_iload 1 (s_callV 6 2 pre_X6_run fn_X6_run (s_iret Q)))))))))))))
set_option maxRecDepth 4000 in
theorem bsX11_slot_13 {p : Program} {l : Launch} {e : Env} {s : State} {m : MethodId} {args : Array Value} {below : List Frame} {meth : Method} {c : Code} {D : va_G} {ca : Nat → ClassId} {ad : Nat → Nat} {A : Nat → Prop} {Q : Option mV → mM → Prop} (hX : CX p s m args meth c 2 cX11_slot "FairBlocks" D ca ad A) (hr : meth.sig.returnType = (Option.some FieldType.int)) : ∀ lv st M, BX11_slot_13 (Gd p l e (rmD 4) s m args below meth c 2 D ca ad A 0 0 (MQ below (QC D ca ad A Q) args s 0 0 A)) Q lv st M → Gd p l e (rmD 4) s m args below meth c 2 D ca ad A 0 0 (MQ below (QC D ca ad A Q) args s 0 0 A) 13 lv st M :=
  (sd_aload_n hX dX11_slot_13 rfl (sd_getr hX fl_305 (fun _ => rfl) (fun _ _ _ => by decide +kernel) dX11_slot_14 (sd_aload_n hX dX11_slot_17 rfl (sd_getr hX fl_304 (fun _ => rfl) (fun _ _ _ => by decide +kernel) dX11_slot_18 (sd_callV hX (kd := 0) rfl (by decide) (ct_X0_remember l) mk_X0_remember w_413 ⟨⟨by decide, by decide⟩, by decide, by decide⟩ dX11_slot_21 (sd_aload_n hX dX11_slot_24 rfl (sd_getr hX fl_302 (fun _ => rfl) (fun _ _ _ => by decide +kernel) dX11_slot_25 (sd_getr hX fl_204 (fun _ => rfl) (fun _ _ _ => by decide +kernel) dX11_slot_28 (sd_aload_n hX dX11_slot_31 rfl (sd_getr hX fl_304 (fun _ => rfl) (fun _ _ _ => by decide +kernel) dX11_slot_32 (sd_iload_n hX dX11_slot_35 rfl (sd_callV hX (kd := 6) rfl (by decide) (ct_X6_run l) mk_X6_run w_425 ⟨⟨by decide, by decide⟩, by decide, by decide⟩ dX11_slot_36 (sd_iret hX hr dX11_slot_39)))))))))))))
set_option maxHeartbeats 400000 in
theorem pf_X11_slot (G : Nat → KT) (Q : Option mV → mM → Prop) (h0 : ∀ lv st M, BX11_slot_0 G Q lv st M → G 0 lv st M) (h13 : ∀ lv st M, BX11_slot_13 G Q lv st M → G 13 lv st M) (as : List mV) (M : mM) (ho : ∀ v ∈ as, okV v) (hp : pre_X11_slot as M) (hQ : Q (fn_X11_slot as M).1 (fn_X11_slot as M).2) : G 0 (inL as ++ List.replicate (2 - (inL as).length) none) [] M := by
  obtain ⟨c, x, rfl, hC⟩ := hp
  simp only [fn_X11_slot, c_slot] at hQ
  (apply h0; simp only [BX11_slot_0, s_mth, s_mab, s_at, s_iconst, s_lconst, s_iload, s_lload, s_aload, s_istore, s_lstore, s_astore, s_iinc, s_bin, s_binG, s_un, s_lbin, s_lbinG, s_lsh, s_lcmp, s_i2l, s_l2i, s_dup, s_dup2, s_pop, s_if, s_icmp, s_geti, s_getl, s_getr, s_puti, s_putz, s_putl, s_iald, s_zald, s_iast, s_zast, s_aaldS, s_aaldU, s_gets, s_tald, s_tsw, tsw, s_iret, s_zret, s_lret, s_aret, s_vret, s_callV, s_callS, c1, nl1, keepL, csum, pushR, inL, List.getD_cons_zero, List.getD_cons_succ, List.set_cons_zero, List.set_cons_succ, List.cons_append, List.nil_append, List.append_nil, List.replicate, List.length_cons, List.length_nil, List.take_succ_cons, List.take_zero, List.drop_succ_cons, List.drop_zero, List.reverse_cons, List.reverse_nil, true_and, and_true, forall_const, not_true_eq_false, not_false_eq_true, false_implies, true_implies, implies_true, one0, m10, Nat.reduceAdd, Nat.reduceSub, Nat.reduceLeDiff, Nat.zero_add, Nat.add_zero, fn_X0_remember, fn_X11_within, fn_X6_run])
  refine ⟨⟨_, _, _, rfl⟩, fun h => ?_, fun h => ?_⟩
  · rw [if_pos h] at hQ; exact hQ
  · rw [if_neg h] at hQ
    obtain ⟨j, h1, h2, e⟩ := wi_g (d := 1) (c := 99) rfl rfl (by decide) (by decide) h
    (apply h13; simp only [BX11_slot_13, s_mth, s_mab, s_at, s_iconst, s_lconst, s_iload, s_lload, s_aload, s_istore, s_lstore, s_astore, s_iinc, s_bin, s_binG, s_un, s_lbin, s_lbinG, s_lsh, s_lcmp, s_i2l, s_l2i, s_dup, s_dup2, s_pop, s_if, s_icmp, s_geti, s_getl, s_getr, s_puti, s_putz, s_putl, s_iald, s_zald, s_iast, s_zast, s_aaldS, s_aaldU, s_gets, s_tald, s_tsw, tsw, s_iret, s_zret, s_lret, s_aret, s_vret, s_callV, s_callS, c1, nl1, keepL, csum, pushR, inL, List.getD_cons_zero, List.getD_cons_succ, List.set_cons_zero, List.set_cons_succ, List.cons_append, List.nil_append, List.append_nil, List.replicate, List.length_cons, List.length_nil, List.take_succ_cons, List.take_zero, List.drop_succ_cons, List.drop_zero, List.reverse_cons, List.reverse_nil, true_and, and_true, forall_const, not_true_eq_false, not_false_eq_true, false_implies, true_implies, implies_true, one0, m10, Nat.reduceAdd, Nat.reduceSub, Nat.reduceLeDiff, Nat.zero_add, Nat.add_zero, fn_X0_remember, fn_X11_within, fn_X6_run])
    exact ⟨⟨_, _, rfl, hC.1.1.1, hC.2.2⟩, ⟨_, _, _, rfl, (GD_rem hC.1.1 hC.2.2).2, j, by omega, e⟩, hQ⟩
theorem ct_X11_slot (l : Launch) : Con l yX11_slot cX11_slot 2 (Option.some FieldType.int) 4 pre_X11_slot fn_X11_slot := con_of (by decide +kernel) ok_X11_slot len_X11_slot (fun p e s m args below meth c D ca ad A as M hX hr hp ho => pf_X11_slot _ _ (bsX11_slot_0 hX hr) (bsX11_slot_13 hX hr) as M ho hp ⟨rfl, rfl⟩)
def tur (M : mM) (k : Nat) : mM := mset M k 3 (if M.1 k 3 = 0 then 1 else 0)
def c_turn (M : mM) (u : Int32) : Int32 × mM := if hasI M u = 0 then (-1, M) else (if (tur (rem M) (9 + u.toNatClampNeg)).1 (9 + u.toNatClampNeg) 3 = 0 then 0 else 1, tur (rem M) (9 + u.toNatClampNeg))
def pre_X11_turn (as : List mV) (M : mM) : Prop := ∃ c u, as = [.inr (.inr (11, c)), .inl u] ∧ CI M
def fn_X11_turn : List mV → mM → Option mV × mM
  | [.inr (.inr (_, c)), .inl u], M => (some (.inl (c_turn M u).1), (c_turn M u).2)
  | _, M => (none, M)
theorem ok_X11_turn (as : List mV) (M : mM) (h : pre_X11_turn as M) (_ : ∀ v ∈ as, okV v) : okR (fn_X11_turn as M).1 := by
  obtain ⟨c, u, rfl, -⟩ := h
  first | trivial | exact (by decide +kernel : kof 14 = 8)
theorem len_X11_turn (as : List mV) (M : mM) (h : pre_X11_turn as M) : (inL as).length ≤ 3 := by
  obtain ⟨c, u, rfl, -⟩ := h
  exact Nat.le_of_ble_eq_true rfl

theorem fl_106 : FLk "FairBlocks" 147 10 3 1 := ⟨RX10, TX10, 10, rfl, inX10, by decide, w_106, by decide, rfl⟩
theorem fp_106 : FPk "FairBlocks" 147 10 3 1 .boolean := ⟨RX10, TX10, 10, tyX10, rfl, inX10, by decide, w_106, by decide, rfl, tyX10_ok, nmX10, rfl, rfl⟩
theorem dX11_turn_0 : decode cX11_turn 0 = .ok (.aload_n 0, 1) := by decide +kernel
theorem dX11_turn_1 : decode cX11_turn 1 = .ok (.getfield 27, 3) := by decide +kernel
theorem dX11_turn_4 : decode cX11_turn 4 = .ok (.iload_n 1, 1) := by decide +kernel
theorem dX11_turn_5 : decode cX11_turn 5 = .ok (.invokevirtual 113, 3) := by decide +kernel
theorem dX11_turn_8 : decode cX11_turn 8 = .ok (.ifCond .ne 5, 3) := by decide +kernel
theorem dX11_turn_11 : decode cX11_turn 11 = .ok (.iconst (-1), 1) := by decide +kernel
theorem dX11_turn_12 : decode cX11_turn 12 = .ok (.ireturn, 1) := by decide +kernel
theorem dX11_turn_13 : decode cX11_turn 13 = .ok (.aload_n 0, 1) := by decide +kernel
theorem dX11_turn_14 : decode cX11_turn 14 = .ok (.getfield 36, 3) := by decide +kernel
theorem dX11_turn_17 : decode cX11_turn 17 = .ok (.aload_n 0, 1) := by decide +kernel
theorem dX11_turn_18 : decode cX11_turn 18 = .ok (.getfield 32, 3) := by decide +kernel
theorem dX11_turn_21 : decode cX11_turn 21 = .ok (.invokevirtual 133, 3) := by decide +kernel
theorem dX11_turn_24 : decode cX11_turn 24 = .ok (.aload_n 0, 1) := by decide +kernel
theorem dX11_turn_25 : decode cX11_turn 25 = .ok (.getfield 32, 3) := by decide +kernel
theorem dX11_turn_28 : decode cX11_turn 28 = .ok (.getfield 124, 3) := by decide +kernel
theorem dX11_turn_31 : decode cX11_turn 31 = .ok (.iload_n 1, 1) := by decide +kernel
theorem dX11_turn_32 : decode cX11_turn 32 = .ok (.aaload, 1) := by decide +kernel
theorem dX11_turn_33 : decode cX11_turn 33 = .ok (.astore_n 2, 1) := by decide +kernel
theorem dX11_turn_34 : decode cX11_turn 34 = .ok (.aload_n 2, 1) := by decide +kernel
theorem dX11_turn_35 : decode cX11_turn 35 = .ok (.aload_n 2, 1) := by decide +kernel
theorem dX11_turn_36 : decode cX11_turn 36 = .ok (.getfield 147, 3) := by decide +kernel
theorem dX11_turn_39 : decode cX11_turn 39 = .ok (.ifCond .ne 7, 3) := by decide +kernel
theorem dX11_turn_42 : decode cX11_turn 42 = .ok (.iconst 1, 1) := by decide +kernel
theorem dX11_turn_43 : decode cX11_turn 43 = .ok (.goto 4, 3) := by decide +kernel
theorem dX11_turn_46 : decode cX11_turn 46 = .ok (.iconst 0, 1) := by decide +kernel
theorem dX11_turn_47 : decode cX11_turn 47 = .ok (.putfield 147, 3) := by decide +kernel
theorem dX11_turn_50 : decode cX11_turn 50 = .ok (.aload_n 2, 1) := by decide +kernel
theorem dX11_turn_51 : decode cX11_turn 51 = .ok (.getfield 147, 3) := by decide +kernel
theorem dX11_turn_54 : decode cX11_turn 54 = .ok (.ifCond .eq 7, 3) := by decide +kernel
theorem dX11_turn_57 : decode cX11_turn 57 = .ok (.iconst 1, 1) := by decide +kernel
theorem dX11_turn_58 : decode cX11_turn 58 = .ok (.goto 4, 3) := by decide +kernel
theorem dX11_turn_61 : decode cX11_turn 61 = .ok (.iconst 0, 1) := by decide +kernel
theorem dX11_turn_62 : decode cX11_turn 62 = .ok (.ireturn, 1) := by decide +kernel
theorem mk_X11_turn : MVk yX11_turn "FairBlocks" cX11_turn 3 (Option.some FieldType.int) 1 := ⟨w_472, w_470, w_471, w_1, rfl, by decide +kernel, by decide +kernel, by decide +kernel⟩
def BX11_turn_0 (G : Nat → KT) (Q : Option mV → mM → Prop) : KT := (s_aload 0 (s_getr 11 5 (fun _ => 4) (s_iload 1 (s_callV 5 1 pre_X5_has fn_X5_has (s_if (fun x => x = 0) ((s_iconst (-1) (s_iret Q))) (s_at G 13 [true, true, false]))))))
set_option maxRecDepth 4000 in
theorem bsX11_turn_0 {p : Program} {l : Launch} {e : Env} {s : State} {m : MethodId} {args : Array Value} {below : List Frame} {meth : Method} {c : Code} {D : va_G} {ca : Nat → ClassId} {ad : Nat → Nat} {A : Nat → Prop} {Q : Option mV → mM → Prop} (hX : CX p s m args meth c 3 cX11_turn "FairBlocks" D ca ad A) (hr : meth.sig.returnType = (Option.some FieldType.int)) : ∀ lv st M, BX11_turn_0 (Gd p l e (rmD 3) s m args below meth c 3 D ca ad A 0 0 (MQ below (QC D ca ad A Q) args s 0 0 A)) Q lv st M → Gd p l e (rmD 3) s m args below meth c 3 D ca ad A 0 0 (MQ below (QC D ca ad A Q) args s 0 0 A) 0 lv st M :=
  (sd_aload_n hX dX11_turn_0 rfl (sd_getr hX fl_303 (fun _ => rfl) (fun _ _ _ => by decide +kernel) dX11_turn_1 (sd_iload_n hX dX11_turn_4 rfl (sd_callV hX (kd := 5) rfl (by decide) (ct_X5_has l) mk_X5_has w_397 ⟨⟨by decide, by decide⟩, by decide, by decide⟩ dX11_turn_5 (sd_if_ne hX dX11_turn_8 (by decide) sd_at (sd_iconst hX dX11_turn_11 rfl (sd_iret hX hr dX11_turn_12)))))))
def BX11_turn_13 (G : Nat → KT) (Q : Option mV → mM → Prop) : KT := (s_aload 0 (s_getr 11 0 (fun _ => 26) (s_aload 0 (s_getr 11 8 (fun _ => 7) (s_callV 0 1 pre_X0_remember fn_X0_remember (s_aload 0 (s_getr 11 8 (fun _ => 7) (s_getr 8 16 (fun k => k + 1) (s_iload 1 (s_aaldU (s_astore 2 (s_aload 2 (s_aload 2 (s_geti 10 3 (s_if (fun x => x = 0) ((s_iconst (1) (s_at G 47 [false, false, true]))) (s_at G 46 [false, false, true]))))))))))))))))
set_option maxRecDepth 4000 in
theorem bsX11_turn_13 {p : Program} {l : Launch} {e : Env} {s : State} {m : MethodId} {args : Array Value} {below : List Frame} {meth : Method} {c : Code} {D : va_G} {ca : Nat → ClassId} {ad : Nat → Nat} {A : Nat → Prop} {Q : Option mV → mM → Prop} (hX : CX p s m args meth c 3 cX11_turn "FairBlocks" D ca ad A) (hr : meth.sig.returnType = (Option.some FieldType.int)) : ∀ lv st M, BX11_turn_13 (Gd p l e (rmD 3) s m args below meth c 3 D ca ad A 0 0 (MQ below (QC D ca ad A Q) args s 0 0 A)) Q lv st M → Gd p l e (rmD 3) s m args below meth c 3 D ca ad A 0 0 (MQ below (QC D ca ad A Q) args s 0 0 A) 13 lv st M :=
  (sd_aload_n hX dX11_turn_13 rfl (sd_getr hX fl_305 (fun _ => rfl) (fun _ _ _ => by decide +kernel) dX11_turn_14 (sd_aload_n hX dX11_turn_17 rfl (sd_getr hX fl_304 (fun _ => rfl) (fun _ _ _ => by decide +kernel) dX11_turn_18 (sd_callV hX (kd := 0) rfl (by decide) (ct_X0_remember l) mk_X0_remember w_413 ⟨⟨by decide, by decide⟩, by decide, by decide⟩ dX11_turn_21 (sd_aload_n hX dX11_turn_24 rfl (sd_getr hX fl_304 (fun _ => rfl) (fun _ _ _ => by decide +kernel) dX11_turn_25 (sd_getr hX fl_148 (fun _ => rfl) okA dX11_turn_28 (sd_iload_n hX dX11_turn_31 rfl (sd_aaldU hX dX11_turn_32 (sd_astore_n hX (by decide) dX11_turn_33 rfl (sd_aload_n hX dX11_turn_34 rfl (sd_aload_n hX dX11_turn_35 rfl (sd_geti hX fl_106 (by decide) dX11_turn_36 (sd_if_ne hX dX11_turn_39 (by decide) sd_at (sd_iconst hX dX11_turn_42 rfl (sd_goto hX dX11_turn_43 (by decide) sd_at)))))))))))))))))
def BX11_turn_46 (G : Nat → KT) (Q : Option mV → mM → Prop) : KT := (s_iconst (0) (s_at G 47 [false, false, true]))
set_option maxRecDepth 4000 in
theorem bsX11_turn_46 {p : Program} {l : Launch} {e : Env} {s : State} {m : MethodId} {args : Array Value} {below : List Frame} {meth : Method} {c : Code} {D : va_G} {ca : Nat → ClassId} {ad : Nat → Nat} {A : Nat → Prop} {Q : Option mV → mM → Prop} (hX : CX p s m args meth c 3 cX11_turn "FairBlocks" D ca ad A) (hr : meth.sig.returnType = (Option.some FieldType.int)) : ∀ lv st M, BX11_turn_46 (Gd p l e (rmD 3) s m args below meth c 3 D ca ad A 0 0 (MQ below (QC D ca ad A Q) args s 0 0 A)) Q lv st M → Gd p l e (rmD 3) s m args below meth c 3 D ca ad A 0 0 (MQ below (QC D ca ad A Q) args s 0 0 A) 46 lv st M :=
  (sd_iconst hX dX11_turn_46 rfl sd_at)
def BX11_turn_47 (G : Nat → KT) (Q : Option mV → mM → Prop) : KT := (s_putz 10 3 (s_aload 2 (s_geti 10 3 (s_if (fun x => x = 0) (s_at G 61 [false, false, false]) (s_iconst (1) (s_at G 62 [false, false, false]))))))
set_option maxRecDepth 4000 in
theorem bsX11_turn_47 {p : Program} {l : Launch} {e : Env} {s : State} {m : MethodId} {args : Array Value} {below : List Frame} {meth : Method} {c : Code} {D : va_G} {ca : Nat → ClassId} {ad : Nat → Nat} {A : Nat → Prop} {Q : Option mV → mM → Prop} (hX : CX p s m args meth c 3 cX11_turn "FairBlocks" D ca ad A) (hr : meth.sig.returnType = (Option.some FieldType.int)) : ∀ lv st M, BX11_turn_47 (Gd p l e (rmD 3) s m args below meth c 3 D ca ad A 0 0 (MQ below (QC D ca ad A Q) args s 0 0 A)) Q lv st M → Gd p l e (rmD 3) s m args below meth c 3 D ca ad A 0 0 (MQ below (QC D ca ad A Q) args s 0 0 A) 47 lv st M :=
  (sd_putz hX fp_106 dX11_turn_47 (sd_aload_n hX dX11_turn_50 rfl (sd_geti hX fl_106 (by decide) dX11_turn_51 (sd_if_eq hX dX11_turn_54 (by decide) sd_at (sd_iconst hX dX11_turn_57 rfl (sd_goto hX dX11_turn_58 (by decide) sd_at))))))
def BX11_turn_61 (G : Nat → KT) (Q : Option mV → mM → Prop) : KT := (s_iconst (0) (s_at G 62 [false, false, false]))
set_option maxRecDepth 4000 in
theorem bsX11_turn_61 {p : Program} {l : Launch} {e : Env} {s : State} {m : MethodId} {args : Array Value} {below : List Frame} {meth : Method} {c : Code} {D : va_G} {ca : Nat → ClassId} {ad : Nat → Nat} {A : Nat → Prop} {Q : Option mV → mM → Prop} (hX : CX p s m args meth c 3 cX11_turn "FairBlocks" D ca ad A) (hr : meth.sig.returnType = (Option.some FieldType.int)) : ∀ lv st M, BX11_turn_61 (Gd p l e (rmD 3) s m args below meth c 3 D ca ad A 0 0 (MQ below (QC D ca ad A Q) args s 0 0 A)) Q lv st M → Gd p l e (rmD 3) s m args below meth c 3 D ca ad A 0 0 (MQ below (QC D ca ad A Q) args s 0 0 A) 61 lv st M :=
  (sd_iconst hX dX11_turn_61 rfl sd_at)
def BX11_turn_62 (G : Nat → KT) (Q : Option mV → mM → Prop) : KT := (s_iret Q)
set_option maxRecDepth 4000 in
theorem bsX11_turn_62 {p : Program} {l : Launch} {e : Env} {s : State} {m : MethodId} {args : Array Value} {below : List Frame} {meth : Method} {c : Code} {D : va_G} {ca : Nat → ClassId} {ad : Nat → Nat} {A : Nat → Prop} {Q : Option mV → mM → Prop} (hX : CX p s m args meth c 3 cX11_turn "FairBlocks" D ca ad A) (hr : meth.sig.returnType = (Option.some FieldType.int)) : ∀ lv st M, BX11_turn_62 (Gd p l e (rmD 3) s m args below meth c 3 D ca ad A 0 0 (MQ below (QC D ca ad A Q) args s 0 0 A)) Q lv st M → Gd p l e (rmD 3) s m args below meth c 3 D ca ad A 0 0 (MQ below (QC D ca ad A Q) args s 0 0 A) 62 lv st M :=
  sd_iret hX hr dX11_turn_62
set_option maxHeartbeats 400000 in
theorem pf_X11_turn (G : Nat → KT) (Q : Option mV → mM → Prop) (h0 : ∀ lv st M, BX11_turn_0 G Q lv st M → G 0 lv st M) (h13 : ∀ lv st M, BX11_turn_13 G Q lv st M → G 13 lv st M) (h46 : ∀ lv st M, BX11_turn_46 G Q lv st M → G 46 lv st M) (h47 : ∀ lv st M, BX11_turn_47 G Q lv st M → G 47 lv st M) (h61 : ∀ lv st M, BX11_turn_61 G Q lv st M → G 61 lv st M) (h62 : ∀ lv st M, BX11_turn_62 G Q lv st M → G 62 lv st M) (as : List mV) (M : mM) (ho : ∀ v ∈ as, okV v) (hp : pre_X11_turn as M) (hQ : Q (fn_X11_turn as M).1 (fn_X11_turn as M).2) : G 0 (inL as ++ List.replicate (3 - (inL as).length) none) [] M := by
  obtain ⟨c, u, rfl, hC⟩ := hp
  have hPL := hC.1.1.2
  have hn := n5 hPL
  simp only [fn_X11_turn, c_turn] at hQ
  (apply h0; simp only [BX11_turn_0, s_mth, s_mab, s_at, s_iconst, s_lconst, s_iload, s_lload, s_aload, s_istore, s_lstore, s_astore, s_iinc, s_bin, s_binG, s_un, s_lbin, s_lbinG, s_lsh, s_lcmp, s_i2l, s_l2i, s_dup, s_dup2, s_pop, s_if, s_icmp, s_geti, s_getl, s_getr, s_puti, s_putz, s_putl, s_iald, s_zald, s_iast, s_zast, s_aaldS, s_aaldU, s_gets, s_tald, s_tsw, tsw, s_iret, s_zret, s_lret, s_aret, s_vret, s_callV, s_callS, c1, nl1, keepL, csum, pushR, inL, List.getD_cons_zero, List.getD_cons_succ, List.set_cons_zero, List.set_cons_succ, List.cons_append, List.nil_append, List.append_nil, List.replicate, List.length_cons, List.length_nil, List.take_succ_cons, List.take_zero, List.drop_succ_cons, List.drop_zero, List.reverse_cons, List.reverse_nil, true_and, and_true, forall_const, not_true_eq_false, not_false_eq_true, false_implies, true_implies, implies_true, one0, m10, Nat.reduceAdd, Nat.reduceSub, Nat.reduceLeDiff, Nat.zero_add, Nat.add_zero, fn_X0_remember, fn_X5_has])
  refine ⟨⟨_, _, rfl⟩, fun h => ?_, fun h => ?_⟩
  · rw [if_pos h] at hQ; exact hQ
  · rw [if_neg h] at hQ
    obtain ⟨j, hj, e⟩ := hasI_1 hPL h
    have L : ∀ w : Int32, w = (if (rem M).1 (9 + u.toNatClampNeg) 3 = 0 then 1 else 0) → G 47 [none, none, some (.inr (.inr (10, 9 + u.toNatClampNeg)))] [.inl w, .inr (.inr (10, 9 + u.toNatClampNeg))] (rem M) := by
      intro w ew
      have e2 : mset (rem M) (9 + u.toNatClampNeg) 3 w = tur (rem M) (9 + u.toNatClampNeg) := by rw [ew]; rfl
      (apply h47; simp only [BX11_turn_47, s_mth, s_mab, s_at, s_iconst, s_lconst, s_iload, s_lload, s_aload, s_istore, s_lstore, s_astore, s_iinc, s_bin, s_binG, s_un, s_lbin, s_lbinG, s_lsh, s_lcmp, s_i2l, s_l2i, s_dup, s_dup2, s_pop, s_if, s_icmp, s_geti, s_getl, s_getr, s_puti, s_putz, s_putl, s_iald, s_zald, s_iast, s_zast, s_aaldS, s_aaldU, s_gets, s_tald, s_tsw, tsw, s_iret, s_zret, s_lret, s_aret, s_vret, s_callV, s_callS, c1, nl1, keepL, csum, pushR, inL, List.getD_cons_zero, List.getD_cons_succ, List.set_cons_zero, List.set_cons_succ, List.cons_append, List.nil_append, List.append_nil, List.replicate, List.length_cons, List.length_nil, List.take_succ_cons, List.take_zero, List.drop_succ_cons, List.drop_zero, List.reverse_cons, List.reverse_nil, true_and, and_true, forall_const, not_true_eq_false, not_false_eq_true, false_implies, true_implies, implies_true, one0, m10, Nat.reduceAdd, Nat.reduceSub, Nat.reduceLeDiff, Nat.zero_add, Nat.add_zero, fn_X0_remember, fn_X5_has])
      rw [e2]
      refine ⟨by rw [ew]; split <;> simp, fun h3 => ?_, fun h3 => ?_⟩
      · rw [if_pos h3] at hQ
        (apply h61; simp only [BX11_turn_61, s_mth, s_mab, s_at, s_iconst, s_lconst, s_iload, s_lload, s_aload, s_istore, s_lstore, s_astore, s_iinc, s_bin, s_binG, s_un, s_lbin, s_lbinG, s_lsh, s_lcmp, s_i2l, s_l2i, s_dup, s_dup2, s_pop, s_if, s_icmp, s_geti, s_getl, s_getr, s_puti, s_putz, s_putl, s_iald, s_zald, s_iast, s_zast, s_aaldS, s_aaldU, s_gets, s_tald, s_tsw, tsw, s_iret, s_zret, s_lret, s_aret, s_vret, s_callV, s_callS, c1, nl1, keepL, csum, pushR, inL, List.getD_cons_zero, List.getD_cons_succ, List.set_cons_zero, List.set_cons_succ, List.cons_append, List.nil_append, List.append_nil, List.replicate, List.length_cons, List.length_nil, List.take_succ_cons, List.take_zero, List.drop_succ_cons, List.drop_zero, List.reverse_cons, List.reverse_nil, true_and, and_true, forall_const, not_true_eq_false, not_false_eq_true, false_implies, true_implies, implies_true, one0, m10, Nat.reduceAdd, Nat.reduceSub, Nat.reduceLeDiff, Nat.zero_add, Nat.add_zero, fn_X0_remember, fn_X5_has])
        (apply h62; simp only [BX11_turn_62, s_mth, s_mab, s_at, s_iconst, s_lconst, s_iload, s_lload, s_aload, s_istore, s_lstore, s_astore, s_iinc, s_bin, s_binG, s_un, s_lbin, s_lbinG, s_lsh, s_lcmp, s_i2l, s_l2i, s_dup, s_dup2, s_pop, s_if, s_icmp, s_geti, s_getl, s_getr, s_puti, s_putz, s_putl, s_iald, s_zald, s_iast, s_zast, s_aaldS, s_aaldU, s_gets, s_tald, s_tsw, tsw, s_iret, s_zret, s_lret, s_aret, s_vret, s_callV, s_callS, c1, nl1, keepL, csum, pushR, inL, List.getD_cons_zero, List.getD_cons_succ, List.set_cons_zero, List.set_cons_succ, List.cons_append, List.nil_append, List.append_nil, List.replicate, List.length_cons, List.length_nil, List.take_succ_cons, List.take_zero, List.drop_succ_cons, List.drop_zero, List.reverse_cons, List.reverse_nil, true_and, and_true, forall_const, not_true_eq_false, not_false_eq_true, false_implies, true_implies, implies_true, one0, m10, Nat.reduceAdd, Nat.reduceSub, Nat.reduceLeDiff, Nat.zero_add, Nat.add_zero, fn_X0_remember, fn_X5_has])
        exact hQ
      · rw [if_neg h3] at hQ
        (apply h62; simp only [BX11_turn_62, s_mth, s_mab, s_at, s_iconst, s_lconst, s_iload, s_lload, s_aload, s_istore, s_lstore, s_astore, s_iinc, s_bin, s_binG, s_un, s_lbin, s_lbinG, s_lsh, s_lcmp, s_i2l, s_l2i, s_dup, s_dup2, s_pop, s_if, s_icmp, s_geti, s_getl, s_getr, s_puti, s_putz, s_putl, s_iald, s_zald, s_iast, s_zast, s_aaldS, s_aaldU, s_gets, s_tald, s_tsw, tsw, s_iret, s_zret, s_lret, s_aret, s_vret, s_callV, s_callS, c1, nl1, keepL, csum, pushR, inL, List.getD_cons_zero, List.getD_cons_succ, List.set_cons_zero, List.set_cons_succ, List.cons_append, List.nil_append, List.append_nil, List.replicate, List.length_cons, List.length_nil, List.take_succ_cons, List.take_zero, List.drop_succ_cons, List.drop_zero, List.reverse_cons, List.reverse_nil, true_and, and_true, forall_const, not_true_eq_false, not_false_eq_true, false_implies, true_implies, implies_true, one0, m10, Nat.reduceAdd, Nat.reduceSub, Nat.reduceLeDiff, Nat.zero_add, Nat.add_zero, fn_X0_remember, fn_X5_has])
        exact hQ
    (apply h13; simp only [BX11_turn_13, s_mth, s_mab, s_at, s_iconst, s_lconst, s_iload, s_lload, s_aload, s_istore, s_lstore, s_astore, s_iinc, s_bin, s_binG, s_un, s_lbin, s_lbinG, s_lsh, s_lcmp, s_i2l, s_l2i, s_dup, s_dup2, s_pop, s_if, s_icmp, s_geti, s_getl, s_getr, s_puti, s_putz, s_putl, s_iald, s_zald, s_iast, s_zast, s_aaldS, s_aaldU, s_gets, s_tald, s_tsw, tsw, s_iret, s_zret, s_lret, s_aret, s_vret, s_callV, s_callS, c1, nl1, keepL, csum, pushR, inL, List.getD_cons_zero, List.getD_cons_succ, List.set_cons_zero, List.set_cons_succ, List.cons_append, List.nil_append, List.append_nil, List.replicate, List.length_cons, List.length_nil, List.take_succ_cons, List.take_zero, List.drop_succ_cons, List.drop_zero, List.reverse_cons, List.reverse_nil, true_and, and_true, forall_const, not_true_eq_false, not_false_eq_true, false_implies, true_implies, implies_true, one0, m10, Nat.reduceAdd, Nat.reduceSub, Nat.reduceLeDiff, Nat.zero_add, Nat.add_zero, fn_X0_remember, fn_X5_has])
    simp only [l8]
    refine ⟨⟨_, _, rfl, hC.1.1.1, hC.2.2⟩, by rw [e]; exact vp_in_nI (by omega) (by decide), fun h2 => ?_, fun h2 => ?_⟩
    · have h2 : (rem M).1 (9 + u.toNatClampNeg) 3 = 0 := h2
      exact L 1 (by rw [if_pos h2])
    · (apply h46; simp only [BX11_turn_46, s_mth, s_mab, s_at, s_iconst, s_lconst, s_iload, s_lload, s_aload, s_istore, s_lstore, s_astore, s_iinc, s_bin, s_binG, s_un, s_lbin, s_lbinG, s_lsh, s_lcmp, s_i2l, s_l2i, s_dup, s_dup2, s_pop, s_if, s_icmp, s_geti, s_getl, s_getr, s_puti, s_putz, s_putl, s_iald, s_zald, s_iast, s_zast, s_aaldS, s_aaldU, s_gets, s_tald, s_tsw, tsw, s_iret, s_zret, s_lret, s_aret, s_vret, s_callV, s_callS, c1, nl1, keepL, csum, pushR, inL, List.getD_cons_zero, List.getD_cons_succ, List.set_cons_zero, List.set_cons_succ, List.cons_append, List.nil_append, List.append_nil, List.replicate, List.length_cons, List.length_nil, List.take_succ_cons, List.take_zero, List.drop_succ_cons, List.drop_zero, List.reverse_cons, List.reverse_nil, true_and, and_true, forall_const, not_true_eq_false, not_false_eq_true, false_implies, true_implies, implies_true, one0, m10, Nat.reduceAdd, Nat.reduceSub, Nat.reduceLeDiff, Nat.zero_add, Nat.add_zero, fn_X0_remember, fn_X5_has])
      have h2 : ¬ (rem M).1 (9 + u.toNatClampNeg) 3 = 0 := h2
      exact L 0 (by rw [if_neg h2])
theorem ct_X11_turn (l : Launch) : Con l yX11_turn cX11_turn 3 (Option.some FieldType.int) 3 pre_X11_turn fn_X11_turn := con_of (by decide +kernel) ok_X11_turn len_X11_turn (fun p e s m args below meth c D ca ad A as M hX hr hp ho => pf_X11_turn _ _ (bsX11_turn_0 hX hr) (bsX11_turn_13 hX hr) (bsX11_turn_46 hX hr) (bsX11_turn_47 hX hr) (bsX11_turn_61 hX hr) (bsX11_turn_62 hX hr) as M ho hp ⟨rfl, rfl⟩)
def c_drop (M : mM) (u : Int32) : Int32 × mM := if hasI M u = 0 then (-1, M) else ((rem M).1 (9 + u.toNatClampNeg) 4 + (rem M).1 (9 + u.toNatClampNeg) 5, mset (mset (rem M) (9 + u.toNatClampNeg) 4 0) (9 + u.toNatClampNeg) 5 0)
def pre_X11_drop (as : List mV) (M : mM) : Prop := ∃ c u, as = [.inr (.inr (11, c)), .inl u] ∧ CI M
def fn_X11_drop : List mV → mM → Option mV × mM
  | [.inr (.inr (_, c)), .inl u], M => (some (.inl (c_drop M u).1), (c_drop M u).2)
  | _, M => (none, M)
theorem ok_X11_drop (as : List mV) (M : mM) (h : pre_X11_drop as M) (_ : ∀ v ∈ as, okV v) : okR (fn_X11_drop as M).1 := by
  obtain ⟨c, u, rfl, -⟩ := h
  first | trivial | exact (by decide +kernel : kof 14 = 8)
theorem len_X11_drop (as : List mV) (M : mM) (h : pre_X11_drop as M) : (inL as).length ≤ 4 := by
  obtain ⟨c, u, rfl, -⟩ := h
  exact Nat.le_of_ble_eq_true rfl


theorem dX11_drop_0 : decode cX11_drop 0 = .ok (.aload_n 0, 1) := by decide +kernel
theorem dX11_drop_1 : decode cX11_drop 1 = .ok (.getfield 27, 3) := by decide +kernel
theorem dX11_drop_4 : decode cX11_drop 4 = .ok (.iload_n 1, 1) := by decide +kernel
theorem dX11_drop_5 : decode cX11_drop 5 = .ok (.invokevirtual 113, 3) := by decide +kernel
theorem dX11_drop_8 : decode cX11_drop 8 = .ok (.ifCond .ne 5, 3) := by decide +kernel
theorem dX11_drop_11 : decode cX11_drop 11 = .ok (.iconst (-1), 1) := by decide +kernel
theorem dX11_drop_12 : decode cX11_drop 12 = .ok (.ireturn, 1) := by decide +kernel
theorem dX11_drop_13 : decode cX11_drop 13 = .ok (.aload_n 0, 1) := by decide +kernel
theorem dX11_drop_14 : decode cX11_drop 14 = .ok (.getfield 36, 3) := by decide +kernel
theorem dX11_drop_17 : decode cX11_drop 17 = .ok (.aload_n 0, 1) := by decide +kernel
theorem dX11_drop_18 : decode cX11_drop 18 = .ok (.getfield 32, 3) := by decide +kernel
theorem dX11_drop_21 : decode cX11_drop 21 = .ok (.invokevirtual 133, 3) := by decide +kernel
theorem dX11_drop_24 : decode cX11_drop 24 = .ok (.aload_n 0, 1) := by decide +kernel
theorem dX11_drop_25 : decode cX11_drop 25 = .ok (.getfield 32, 3) := by decide +kernel
theorem dX11_drop_28 : decode cX11_drop 28 = .ok (.getfield 124, 3) := by decide +kernel
theorem dX11_drop_31 : decode cX11_drop 31 = .ok (.iload_n 1, 1) := by decide +kernel
theorem dX11_drop_32 : decode cX11_drop 32 = .ok (.aaload, 1) := by decide +kernel
theorem dX11_drop_33 : decode cX11_drop 33 = .ok (.astore_n 2, 1) := by decide +kernel
theorem dX11_drop_34 : decode cX11_drop 34 = .ok (.aload_n 2, 1) := by decide +kernel
theorem dX11_drop_35 : decode cX11_drop 35 = .ok (.invokevirtual 151, 3) := by decide +kernel
theorem dX11_drop_38 : decode cX11_drop 38 = .ok (.istore_n 3, 1) := by decide +kernel
theorem dX11_drop_39 : decode cX11_drop 39 = .ok (.aload_n 2, 1) := by decide +kernel
theorem dX11_drop_40 : decode cX11_drop 40 = .ok (.invokevirtual 154, 3) := by decide +kernel
theorem dX11_drop_43 : decode cX11_drop 43 = .ok (.iload_n 3, 1) := by decide +kernel
theorem dX11_drop_44 : decode cX11_drop 44 = .ok (.ireturn, 1) := by decide +kernel
theorem mk_X11_drop : MVk yX11_drop "FairBlocks" cX11_drop 4 (Option.some FieldType.int) 1 := ⟨w_476, w_474, w_475, w_1, rfl, by decide +kernel, by decide +kernel, by decide +kernel⟩
def BX11_drop_0 (G : Nat → KT) (Q : Option mV → mM → Prop) : KT := (s_aload 0 (s_getr 11 5 (fun _ => 4) (s_iload 1 (s_callV 5 1 pre_X5_has fn_X5_has (s_if (fun x => x = 0) ((s_iconst (-1) (s_iret Q))) (s_at G 13 [true, true, false, false]))))))
set_option maxRecDepth 4000 in
theorem bsX11_drop_0 {p : Program} {l : Launch} {e : Env} {s : State} {m : MethodId} {args : Array Value} {below : List Frame} {meth : Method} {c : Code} {D : va_G} {ca : Nat → ClassId} {ad : Nat → Nat} {A : Nat → Prop} {Q : Option mV → mM → Prop} (hX : CX p s m args meth c 4 cX11_drop "FairBlocks" D ca ad A) (hr : meth.sig.returnType = (Option.some FieldType.int)) : ∀ lv st M, BX11_drop_0 (Gd p l e (rmD 3) s m args below meth c 4 D ca ad A 0 0 (MQ below (QC D ca ad A Q) args s 0 0 A)) Q lv st M → Gd p l e (rmD 3) s m args below meth c 4 D ca ad A 0 0 (MQ below (QC D ca ad A Q) args s 0 0 A) 0 lv st M :=
  (sd_aload_n hX dX11_drop_0 rfl (sd_getr hX fl_303 (fun _ => rfl) (fun _ _ _ => by decide +kernel) dX11_drop_1 (sd_iload_n hX dX11_drop_4 rfl (sd_callV hX (kd := 5) rfl (by decide) (ct_X5_has l) mk_X5_has w_397 ⟨⟨by decide, by decide⟩, by decide, by decide⟩ dX11_drop_5 (sd_if_ne hX dX11_drop_8 (by decide) sd_at (sd_iconst hX dX11_drop_11 rfl (sd_iret hX hr dX11_drop_12)))))))
def BX11_drop_13 (G : Nat → KT) (Q : Option mV → mM → Prop) : KT := (s_aload 0 (s_getr 11 0 (fun _ => 26) (s_aload 0 (s_getr 11 8 (fun _ => 7) (s_callV 0 1 pre_X0_remember fn_X0_remember (s_aload 0 (s_getr 11 8 (fun _ => 7) (s_getr 8 16 (fun k => k + 1) (s_iload 1 (s_aaldU (s_astore 2 (s_aload 2 (s_callV 10 0 pre_X10_waiting fn_X10_waiting (s_istore 3 (s_aload 2 (s_callV 10 0 pre_X10_dropAll fn_X10_dropAll (s_iload 3 (s_iret Q))))))))))))))))))
set_option maxRecDepth 4000 in
theorem bsX11_drop_13 {p : Program} {l : Launch} {e : Env} {s : State} {m : MethodId} {args : Array Value} {below : List Frame} {meth : Method} {c : Code} {D : va_G} {ca : Nat → ClassId} {ad : Nat → Nat} {A : Nat → Prop} {Q : Option mV → mM → Prop} (hX : CX p s m args meth c 4 cX11_drop "FairBlocks" D ca ad A) (hr : meth.sig.returnType = (Option.some FieldType.int)) : ∀ lv st M, BX11_drop_13 (Gd p l e (rmD 3) s m args below meth c 4 D ca ad A 0 0 (MQ below (QC D ca ad A Q) args s 0 0 A)) Q lv st M → Gd p l e (rmD 3) s m args below meth c 4 D ca ad A 0 0 (MQ below (QC D ca ad A Q) args s 0 0 A) 13 lv st M :=
  (sd_aload_n hX dX11_drop_13 rfl (sd_getr hX fl_305 (fun _ => rfl) (fun _ _ _ => by decide +kernel) dX11_drop_14 (sd_aload_n hX dX11_drop_17 rfl (sd_getr hX fl_304 (fun _ => rfl) (fun _ _ _ => by decide +kernel) dX11_drop_18 (sd_callV hX (kd := 0) rfl (by decide) (ct_X0_remember l) mk_X0_remember w_413 ⟨⟨by decide, by decide⟩, by decide, by decide⟩ dX11_drop_21 (sd_aload_n hX dX11_drop_24 rfl (sd_getr hX fl_304 (fun _ => rfl) (fun _ _ _ => by decide +kernel) dX11_drop_25 (sd_getr hX fl_148 (fun _ => rfl) okA dX11_drop_28 (sd_iload_n hX dX11_drop_31 rfl (sd_aaldU hX dX11_drop_32 (sd_astore_n hX (by decide) dX11_drop_33 rfl (sd_aload_n hX dX11_drop_34 rfl (sd_callV hX (kd := 10) rfl (by decide) (ct_X10_waiting l) mk_X10_waiting w_477 ⟨⟨by decide, by decide⟩, by decide, by decide⟩ dX11_drop_35 (sd_istore_n hX (by decide) dX11_drop_38 rfl (sd_aload_n hX dX11_drop_39 rfl (sd_callV hX (kd := 10) rfl (by decide) (ct_X10_dropAll l) mk_X10_dropAll w_478 ⟨⟨by decide, by decide⟩, by decide, by decide⟩ dX11_drop_40 (sd_iload_n hX dX11_drop_43 rfl (sd_iret hX hr dX11_drop_44))))))))))))))))))
set_option maxHeartbeats 400000 in
theorem pf_X11_drop (G : Nat → KT) (Q : Option mV → mM → Prop) (h0 : ∀ lv st M, BX11_drop_0 G Q lv st M → G 0 lv st M) (h13 : ∀ lv st M, BX11_drop_13 G Q lv st M → G 13 lv st M) (as : List mV) (M : mM) (ho : ∀ v ∈ as, okV v) (hp : pre_X11_drop as M) (hQ : Q (fn_X11_drop as M).1 (fn_X11_drop as M).2) : G 0 (inL as ++ List.replicate (4 - (inL as).length) none) [] M := by
  obtain ⟨c, u, rfl, hC⟩ := hp
  have hPL := hC.1.1.2
  have hn := n5 hPL
  simp only [fn_X11_drop, c_drop] at hQ
  (apply h0; simp only [BX11_drop_0, s_mth, s_mab, s_at, s_iconst, s_lconst, s_iload, s_lload, s_aload, s_istore, s_lstore, s_astore, s_iinc, s_bin, s_binG, s_un, s_lbin, s_lbinG, s_lsh, s_lcmp, s_i2l, s_l2i, s_dup, s_dup2, s_pop, s_if, s_icmp, s_geti, s_getl, s_getr, s_puti, s_putz, s_putl, s_iald, s_zald, s_iast, s_zast, s_aaldS, s_aaldU, s_gets, s_tald, s_tsw, tsw, s_iret, s_zret, s_lret, s_aret, s_vret, s_callV, s_callS, c1, nl1, keepL, csum, pushR, inL, List.getD_cons_zero, List.getD_cons_succ, List.set_cons_zero, List.set_cons_succ, List.cons_append, List.nil_append, List.append_nil, List.replicate, List.length_cons, List.length_nil, List.take_succ_cons, List.take_zero, List.drop_succ_cons, List.drop_zero, List.reverse_cons, List.reverse_nil, true_and, and_true, forall_const, not_true_eq_false, not_false_eq_true, false_implies, true_implies, implies_true, one0, m10, Nat.reduceAdd, Nat.reduceSub, Nat.reduceLeDiff, Nat.zero_add, Nat.add_zero, fn_X0_remember, fn_X10_dropAll, fn_X10_waiting, fn_X5_has])
  refine ⟨⟨_, _, rfl⟩, fun h => ?_, fun h => ?_⟩
  · rw [if_pos h] at hQ; exact hQ
  · rw [if_neg h] at hQ
    obtain ⟨j, hj, e⟩ := hasI_1 hPL h
    (apply h13; simp only [BX11_drop_13, s_mth, s_mab, s_at, s_iconst, s_lconst, s_iload, s_lload, s_aload, s_istore, s_lstore, s_astore, s_iinc, s_bin, s_binG, s_un, s_lbin, s_lbinG, s_lsh, s_lcmp, s_i2l, s_l2i, s_dup, s_dup2, s_pop, s_if, s_icmp, s_geti, s_getl, s_getr, s_puti, s_putz, s_putl, s_iald, s_zald, s_iast, s_zast, s_aaldS, s_aaldU, s_gets, s_tald, s_tsw, tsw, s_iret, s_zret, s_lret, s_aret, s_vret, s_callV, s_callS, c1, nl1, keepL, csum, pushR, inL, List.getD_cons_zero, List.getD_cons_succ, List.set_cons_zero, List.set_cons_succ, List.cons_append, List.nil_append, List.append_nil, List.replicate, List.length_cons, List.length_nil, List.take_succ_cons, List.take_zero, List.drop_succ_cons, List.drop_zero, List.reverse_cons, List.reverse_nil, true_and, and_true, forall_const, not_true_eq_false, not_false_eq_true, false_implies, true_implies, implies_true, one0, m10, Nat.reduceAdd, Nat.reduceSub, Nat.reduceLeDiff, Nat.zero_add, Nat.add_zero, fn_X0_remember, fn_X10_dropAll, fn_X10_waiting, fn_X5_has])
    simp only [l8]
    exact ⟨⟨_, _, rfl, hC.1.1.1, hC.2.2⟩, by rw [e]; exact vp_in_nI (by omega) (by decide), ⟨_, rfl⟩, ⟨_, rfl⟩, hQ⟩
theorem ct_X11_drop (l : Launch) : Con l yX11_drop cX11_drop 4 (Option.some FieldType.int) 3 pre_X11_drop fn_X11_drop := con_of (by decide +kernel) ok_X11_drop len_X11_drop (fun p e s m args below meth c D ca ad A as M hX hr hp ho => pf_X11_drop _ _ (bsX11_drop_0 hX hr) (bsX11_drop_13 hX hr) as M ho hp ⟨rfl, rfl⟩)
def c_set (M : mM) (u w v : Int32) : Int32 × mM := if hasI M u = 0 then (-1, M) else if wi w 0 2 = 0 then (-2, M) else if wi v (if w = 1 then 1 else 0) 9 = 0 then (-2, M) else chg (rem M) (9 + u.toNatClampNeg) w v
def pre_X11_set (as : List mV) (M : mM) : Prop := ∃ c u w v, as = [.inr (.inr (11, c)), .inl u, .inl w, .inl v] ∧ CI M
def fn_X11_set : List mV → mM → Option mV × mM
  | [.inr (.inr (_, c)), .inl u, .inl w, .inl v], M => (some (.inl (c_set M u w v).1), (c_set M u w v).2)
  | _, M => (none, M)
theorem ok_X11_set (as : List mV) (M : mM) (h : pre_X11_set as M) (_ : ∀ v ∈ as, okV v) : okR (fn_X11_set as M).1 := by
  obtain ⟨c, u, w, v, rfl, -⟩ := h
  first | trivial | exact (by decide +kernel : kof 14 = 8)
theorem len_X11_set (as : List mV) (M : mM) (h : pre_X11_set as M) : (inL as).length ≤ 4 := by
  obtain ⟨c, u, w, v, rfl, -⟩ := h
  exact Nat.le_of_ble_eq_true rfl


theorem dX11_set_0 : decode cX11_set 0 = .ok (.aload_n 0, 1) := by decide +kernel
theorem dX11_set_1 : decode cX11_set 1 = .ok (.getfield 27, 3) := by decide +kernel
theorem dX11_set_4 : decode cX11_set 4 = .ok (.iload_n 1, 1) := by decide +kernel
theorem dX11_set_5 : decode cX11_set 5 = .ok (.invokevirtual 113, 3) := by decide +kernel
theorem dX11_set_8 : decode cX11_set 8 = .ok (.ifCond .ne 5, 3) := by decide +kernel
theorem dX11_set_11 : decode cX11_set 11 = .ok (.iconst (-1), 1) := by decide +kernel
theorem dX11_set_12 : decode cX11_set 12 = .ok (.ireturn, 1) := by decide +kernel
theorem dX11_set_13 : decode cX11_set 13 = .ok (.iload_n 2, 1) := by decide +kernel
theorem dX11_set_14 : decode cX11_set 14 = .ok (.iconst 0, 1) := by decide +kernel
theorem dX11_set_15 : decode cX11_set 15 = .ok (.iconst 2, 1) := by decide +kernel
theorem dX11_set_16 : decode cX11_set 16 = .ok (.invokestatic 85, 3) := by decide +kernel
theorem dX11_set_19 : decode cX11_set 19 = .ok (.ifCond .eq 22, 3) := by decide +kernel
theorem dX11_set_22 : decode cX11_set 22 = .ok (.iload_n 3, 1) := by decide +kernel
theorem dX11_set_23 : decode cX11_set 23 = .ok (.iload_n 2, 1) := by decide +kernel
theorem dX11_set_24 : decode cX11_set 24 = .ok (.iconst 1, 1) := by decide +kernel
theorem dX11_set_25 : decode cX11_set 25 = .ok (.if_icmp .ne 7, 3) := by decide +kernel
theorem dX11_set_28 : decode cX11_set 28 = .ok (.iconst 1, 1) := by decide +kernel
theorem dX11_set_29 : decode cX11_set 29 = .ok (.goto 4, 3) := by decide +kernel
theorem dX11_set_32 : decode cX11_set 32 = .ok (.iconst 0, 1) := by decide +kernel
theorem dX11_set_33 : decode cX11_set 33 = .ok (.bipush 9, 2) := by decide +kernel
theorem dX11_set_35 : decode cX11_set 35 = .ok (.invokestatic 85, 3) := by decide +kernel
theorem dX11_set_38 : decode cX11_set 38 = .ok (.ifCond .ne 6, 3) := by decide +kernel
theorem dX11_set_41 : decode cX11_set 41 = .ok (.bipush (-2), 2) := by decide +kernel
theorem dX11_set_43 : decode cX11_set 43 = .ok (.ireturn, 1) := by decide +kernel
theorem dX11_set_44 : decode cX11_set 44 = .ok (.aload_n 0, 1) := by decide +kernel
theorem dX11_set_45 : decode cX11_set 45 = .ok (.getfield 36, 3) := by decide +kernel
theorem dX11_set_48 : decode cX11_set 48 = .ok (.aload_n 0, 1) := by decide +kernel
theorem dX11_set_49 : decode cX11_set 49 = .ok (.getfield 32, 3) := by decide +kernel
theorem dX11_set_52 : decode cX11_set 52 = .ok (.invokevirtual 133, 3) := by decide +kernel
theorem dX11_set_55 : decode cX11_set 55 = .ok (.aload_n 0, 1) := by decide +kernel
theorem dX11_set_56 : decode cX11_set 56 = .ok (.getfield 32, 3) := by decide +kernel
theorem dX11_set_59 : decode cX11_set 59 = .ok (.getfield 124, 3) := by decide +kernel
theorem dX11_set_62 : decode cX11_set 62 = .ok (.iload_n 1, 1) := by decide +kernel
theorem dX11_set_63 : decode cX11_set 63 = .ok (.aaload, 1) := by decide +kernel
theorem dX11_set_64 : decode cX11_set 64 = .ok (.iload_n 2, 1) := by decide +kernel
theorem dX11_set_65 : decode cX11_set 65 = .ok (.iload_n 3, 1) := by decide +kernel
theorem dX11_set_66 : decode cX11_set 66 = .ok (.invokevirtual 157, 3) := by decide +kernel
theorem dX11_set_69 : decode cX11_set 69 = .ok (.ireturn, 1) := by decide +kernel
theorem mk_X11_set : MVk yX11_set "FairBlocks" cX11_set 4 (Option.some FieldType.int) 3 := ⟨w_485, w_483, w_484, w_1, rfl, by decide +kernel, by decide +kernel, by decide +kernel⟩
def BX11_set_0 (G : Nat → KT) (Q : Option mV → mM → Prop) : KT := (s_aload 0 (s_getr 11 5 (fun _ => 4) (s_iload 1 (s_callV 5 1 pre_X5_has fn_X5_has (s_if (fun x => x = 0) ((s_iconst (-1) (s_iret Q))) (s_at G 13 [true, true, true, true]))))))
set_option maxRecDepth 4000 in
theorem bsX11_set_0 {p : Program} {l : Launch} {e : Env} {s : State} {m : MethodId} {args : Array Value} {below : List Frame} {meth : Method} {c : Code} {D : va_G} {ca : Nat → ClassId} {ad : Nat → Nat} {A : Nat → Prop} {Q : Option mV → mM → Prop} (hX : CX p s m args meth c 4 cX11_set "FairBlocks" D ca ad A) (hr : meth.sig.returnType = (Option.some FieldType.int)) : ∀ lv st M, BX11_set_0 (Gd p l e (rmD 3) s m args below meth c 4 D ca ad A 0 0 (MQ below (QC D ca ad A Q) args s 0 0 A)) Q lv st M → Gd p l e (rmD 3) s m args below meth c 4 D ca ad A 0 0 (MQ below (QC D ca ad A Q) args s 0 0 A) 0 lv st M :=
  (sd_aload_n hX dX11_set_0 rfl (sd_getr hX fl_303 (fun _ => rfl) (fun _ _ _ => by decide +kernel) dX11_set_1 (sd_iload_n hX dX11_set_4 rfl (sd_callV hX (kd := 5) rfl (by decide) (ct_X5_has l) mk_X5_has w_397 ⟨⟨by decide, by decide⟩, by decide, by decide⟩ dX11_set_5 (sd_if_ne hX dX11_set_8 (by decide) sd_at (sd_iconst hX dX11_set_11 rfl (sd_iret hX hr dX11_set_12)))))))
def BX11_set_13 (G : Nat → KT) (Q : Option mV → mM → Prop) : KT := (s_iload 2 (s_iconst (0) (s_iconst (2) (s_callS 3 pre_X11_within fn_X11_within (s_if (fun x => x = 0) (s_at G 41 [false, false, false, false]) (s_iload 3 (s_iload 2 (s_iconst (1) (s_icmp (fun x y => x = y) ((s_iconst (1) (s_at G 33 [true, true, true, true]))) (s_at G 32 [true, true, true, true]))))))))))
set_option maxRecDepth 4000 in
theorem bsX11_set_13 {p : Program} {l : Launch} {e : Env} {s : State} {m : MethodId} {args : Array Value} {below : List Frame} {meth : Method} {c : Code} {D : va_G} {ca : Nat → ClassId} {ad : Nat → Nat} {A : Nat → Prop} {Q : Option mV → mM → Prop} (hX : CX p s m args meth c 4 cX11_set "FairBlocks" D ca ad A) (hr : meth.sig.returnType = (Option.some FieldType.int)) : ∀ lv st M, BX11_set_13 (Gd p l e (rmD 3) s m args below meth c 4 D ca ad A 0 0 (MQ below (QC D ca ad A Q) args s 0 0 A)) Q lv st M → Gd p l e (rmD 3) s m args below meth c 4 D ca ad A 0 0 (MQ below (QC D ca ad A Q) args s 0 0 A) 13 lv st M :=
  (sd_iload_n hX dX11_set_13 rfl (sd_iconst hX dX11_set_14 rfl (sd_iconst hX dX11_set_15 rfl (sd_callS hX (ct_X11_within l) mk_X11_within w_342 ⟨⟨by decide, by decide⟩, by decide, by decide⟩ dX11_set_16 (sd_if_eq hX dX11_set_19 (by decide) sd_at (sd_iload_n hX dX11_set_22 rfl (sd_iload_n hX dX11_set_23 rfl (sd_iconst hX dX11_set_24 rfl (sd_icmp_ne hX dX11_set_25 (by decide) sd_at (sd_iconst hX dX11_set_28 rfl (sd_goto hX dX11_set_29 (by decide) sd_at)))))))))))
def BX11_set_32 (G : Nat → KT) (Q : Option mV → mM → Prop) : KT := (s_iconst (0) (s_at G 33 [true, true, true, true]))
set_option maxRecDepth 4000 in
theorem bsX11_set_32 {p : Program} {l : Launch} {e : Env} {s : State} {m : MethodId} {args : Array Value} {below : List Frame} {meth : Method} {c : Code} {D : va_G} {ca : Nat → ClassId} {ad : Nat → Nat} {A : Nat → Prop} {Q : Option mV → mM → Prop} (hX : CX p s m args meth c 4 cX11_set "FairBlocks" D ca ad A) (hr : meth.sig.returnType = (Option.some FieldType.int)) : ∀ lv st M, BX11_set_32 (Gd p l e (rmD 3) s m args below meth c 4 D ca ad A 0 0 (MQ below (QC D ca ad A Q) args s 0 0 A)) Q lv st M → Gd p l e (rmD 3) s m args below meth c 4 D ca ad A 0 0 (MQ below (QC D ca ad A Q) args s 0 0 A) 32 lv st M :=
  (sd_iconst hX dX11_set_32 rfl sd_at)
def BX11_set_33 (G : Nat → KT) (Q : Option mV → mM → Prop) : KT := (s_iconst (9) (s_callS 3 pre_X11_within fn_X11_within (s_if (fun x => x = 0) ((s_at G 41 [false, false, false, false])) (s_at G 44 [true, true, true, true]))))
set_option maxRecDepth 4000 in
theorem bsX11_set_33 {p : Program} {l : Launch} {e : Env} {s : State} {m : MethodId} {args : Array Value} {below : List Frame} {meth : Method} {c : Code} {D : va_G} {ca : Nat → ClassId} {ad : Nat → Nat} {A : Nat → Prop} {Q : Option mV → mM → Prop} (hX : CX p s m args meth c 4 cX11_set "FairBlocks" D ca ad A) (hr : meth.sig.returnType = (Option.some FieldType.int)) : ∀ lv st M, BX11_set_33 (Gd p l e (rmD 3) s m args below meth c 4 D ca ad A 0 0 (MQ below (QC D ca ad A Q) args s 0 0 A)) Q lv st M → Gd p l e (rmD 3) s m args below meth c 4 D ca ad A 0 0 (MQ below (QC D ca ad A Q) args s 0 0 A) 33 lv st M :=
  (sd_bipush hX dX11_set_33 rfl (sd_callS hX (ct_X11_within l) mk_X11_within w_342 ⟨⟨by decide, by decide⟩, by decide, by decide⟩ dX11_set_35 (sd_if_ne hX dX11_set_38 (by decide) sd_at sd_at)))
def BX11_set_41 (G : Nat → KT) (Q : Option mV → mM → Prop) : KT := (s_iconst (-2) (s_iret Q))
set_option maxRecDepth 4000 in
theorem bsX11_set_41 {p : Program} {l : Launch} {e : Env} {s : State} {m : MethodId} {args : Array Value} {below : List Frame} {meth : Method} {c : Code} {D : va_G} {ca : Nat → ClassId} {ad : Nat → Nat} {A : Nat → Prop} {Q : Option mV → mM → Prop} (hX : CX p s m args meth c 4 cX11_set "FairBlocks" D ca ad A) (hr : meth.sig.returnType = (Option.some FieldType.int)) : ∀ lv st M, BX11_set_41 (Gd p l e (rmD 3) s m args below meth c 4 D ca ad A 0 0 (MQ below (QC D ca ad A Q) args s 0 0 A)) Q lv st M → Gd p l e (rmD 3) s m args below meth c 4 D ca ad A 0 0 (MQ below (QC D ca ad A Q) args s 0 0 A) 41 lv st M :=
  (sd_bipush hX dX11_set_41 rfl (sd_iret hX hr dX11_set_43))
def BX11_set_44 (G : Nat → KT) (Q : Option mV → mM → Prop) : KT := (s_aload 0 (s_getr 11 0 (fun _ => 26) (s_aload 0 (s_getr 11 8 (fun _ => 7) (s_callV 0 1 pre_X0_remember fn_X0_remember (s_aload 0 (s_getr 11 8 (fun _ => 7) (s_getr 8 16 (fun k => k + 1) (s_iload 1 (s_aaldU (s_iload 2 (s_iload 3 (s_callV 10 2 pre_X10_change fn_X10_change (s_iret Q))))))))))))))
set_option maxRecDepth 4000 in
theorem bsX11_set_44 {p : Program} {l : Launch} {e : Env} {s : State} {m : MethodId} {args : Array Value} {below : List Frame} {meth : Method} {c : Code} {D : va_G} {ca : Nat → ClassId} {ad : Nat → Nat} {A : Nat → Prop} {Q : Option mV → mM → Prop} (hX : CX p s m args meth c 4 cX11_set "FairBlocks" D ca ad A) (hr : meth.sig.returnType = (Option.some FieldType.int)) : ∀ lv st M, BX11_set_44 (Gd p l e (rmD 3) s m args below meth c 4 D ca ad A 0 0 (MQ below (QC D ca ad A Q) args s 0 0 A)) Q lv st M → Gd p l e (rmD 3) s m args below meth c 4 D ca ad A 0 0 (MQ below (QC D ca ad A Q) args s 0 0 A) 44 lv st M :=
  (sd_aload_n hX dX11_set_44 rfl (sd_getr hX fl_305 (fun _ => rfl) (fun _ _ _ => by decide +kernel) dX11_set_45 (sd_aload_n hX dX11_set_48 rfl (sd_getr hX fl_304 (fun _ => rfl) (fun _ _ _ => by decide +kernel) dX11_set_49 (sd_callV hX (kd := 0) rfl (by decide) (ct_X0_remember l) mk_X0_remember w_413 ⟨⟨by decide, by decide⟩, by decide, by decide⟩ dX11_set_52 (sd_aload_n hX dX11_set_55 rfl (sd_getr hX fl_304 (fun _ => rfl) (fun _ _ _ => by decide +kernel) dX11_set_56 (sd_getr hX fl_148 (fun _ => rfl) okA dX11_set_59 (sd_iload_n hX dX11_set_62 rfl (sd_aaldU hX dX11_set_63 (sd_iload_n hX dX11_set_64 rfl (sd_iload_n hX dX11_set_65 rfl (sd_callV hX (kd := 10) rfl (by decide) (ct_X10_change l) mk_X10_change w_486 ⟨⟨by decide, by decide⟩, by decide, by decide⟩ dX11_set_66 (sd_iret hX hr dX11_set_69))))))))))))))
set_option maxHeartbeats 400000 in
theorem pf_X11_set (G : Nat → KT) (Q : Option mV → mM → Prop) (h0 : ∀ lv st M, BX11_set_0 G Q lv st M → G 0 lv st M) (h13 : ∀ lv st M, BX11_set_13 G Q lv st M → G 13 lv st M) (h32 : ∀ lv st M, BX11_set_32 G Q lv st M → G 32 lv st M) (h33 : ∀ lv st M, BX11_set_33 G Q lv st M → G 33 lv st M) (h41 : ∀ lv st M, BX11_set_41 G Q lv st M → G 41 lv st M) (h44 : ∀ lv st M, BX11_set_44 G Q lv st M → G 44 lv st M) (as : List mV) (M : mM) (ho : ∀ v ∈ as, okV v) (hp : pre_X11_set as M) (hQ : Q (fn_X11_set as M).1 (fn_X11_set as M).2) : G 0 (inL as ++ List.replicate (4 - (inL as).length) none) [] M := by
  obtain ⟨c, u, w, v, rfl, hC⟩ := hp
  have hPL := hC.1.1.2
  have hn := n5 hPL
  simp only [fn_X11_set, c_set] at hQ
  have F : Q (some (.inl (-2))) M → G 41 [none, none, none, none] [] M := by
    intro hQ
    (apply h41; simp only [BX11_set_41, s_mth, s_mab, s_at, s_iconst, s_lconst, s_iload, s_lload, s_aload, s_istore, s_lstore, s_astore, s_iinc, s_bin, s_binG, s_un, s_lbin, s_lbinG, s_lsh, s_lcmp, s_i2l, s_l2i, s_dup, s_dup2, s_pop, s_if, s_icmp, s_geti, s_getl, s_getr, s_puti, s_putz, s_putl, s_iald, s_zald, s_iast, s_zast, s_aaldS, s_aaldU, s_gets, s_tald, s_tsw, tsw, s_iret, s_zret, s_lret, s_aret, s_vret, s_callV, s_callS, c1, nl1, keepL, csum, pushR, inL, List.getD_cons_zero, List.getD_cons_succ, List.set_cons_zero, List.set_cons_succ, List.cons_append, List.nil_append, List.append_nil, List.replicate, List.length_cons, List.length_nil, List.take_succ_cons, List.take_zero, List.drop_succ_cons, List.drop_zero, List.reverse_cons, List.reverse_nil, true_and, and_true, forall_const, not_true_eq_false, not_false_eq_true, false_implies, true_implies, implies_true, one0, m10, Nat.reduceAdd, Nat.reduceSub, Nat.reduceLeDiff, Nat.zero_add, Nat.add_zero, fn_X0_remember, fn_X10_change, fn_X11_within, fn_X5_has])
    exact hQ
  (apply h0; simp only [BX11_set_0, s_mth, s_mab, s_at, s_iconst, s_lconst, s_iload, s_lload, s_aload, s_istore, s_lstore, s_astore, s_iinc, s_bin, s_binG, s_un, s_lbin, s_lbinG, s_lsh, s_lcmp, s_i2l, s_l2i, s_dup, s_dup2, s_pop, s_if, s_icmp, s_geti, s_getl, s_getr, s_puti, s_putz, s_putl, s_iald, s_zald, s_iast, s_zast, s_aaldS, s_aaldU, s_gets, s_tald, s_tsw, tsw, s_iret, s_zret, s_lret, s_aret, s_vret, s_callV, s_callS, c1, nl1, keepL, csum, pushR, inL, List.getD_cons_zero, List.getD_cons_succ, List.set_cons_zero, List.set_cons_succ, List.cons_append, List.nil_append, List.append_nil, List.replicate, List.length_cons, List.length_nil, List.take_succ_cons, List.take_zero, List.drop_succ_cons, List.drop_zero, List.reverse_cons, List.reverse_nil, true_and, and_true, forall_const, not_true_eq_false, not_false_eq_true, false_implies, true_implies, implies_true, one0, m10, Nat.reduceAdd, Nat.reduceSub, Nat.reduceLeDiff, Nat.zero_add, Nat.add_zero, fn_X0_remember, fn_X10_change, fn_X11_within, fn_X5_has])
  refine ⟨⟨_, _, rfl⟩, fun h => ?_, fun h => ?_⟩
  · rw [if_pos h] at hQ; exact hQ
  · rw [if_neg h] at hQ
    obtain ⟨j, hj, e⟩ := hasI_1 hPL h
    have L : ∀ y : Int32, y = (if w = 1 then 1 else 0) → ¬ wi w 0 2 = 0 → G 33 [some (.inr (.inr (11, c))), some (.inl u), some (.inl w), some (.inl v)] [.inl y, .inl v] M := by
      intro y ey h2
      rw [if_neg h2, ← ey] at hQ
      (apply h33; simp only [BX11_set_33, s_mth, s_mab, s_at, s_iconst, s_lconst, s_iload, s_lload, s_aload, s_istore, s_lstore, s_astore, s_iinc, s_bin, s_binG, s_un, s_lbin, s_lbinG, s_lsh, s_lcmp, s_i2l, s_l2i, s_dup, s_dup2, s_pop, s_if, s_icmp, s_geti, s_getl, s_getr, s_puti, s_putz, s_putl, s_iald, s_zald, s_iast, s_zast, s_aaldS, s_aaldU, s_gets, s_tald, s_tsw, tsw, s_iret, s_zret, s_lret, s_aret, s_vret, s_callV, s_callS, c1, nl1, keepL, csum, pushR, inL, List.getD_cons_zero, List.getD_cons_succ, List.set_cons_zero, List.set_cons_succ, List.cons_append, List.nil_append, List.append_nil, List.replicate, List.length_cons, List.length_nil, List.take_succ_cons, List.take_zero, List.drop_succ_cons, List.drop_zero, List.reverse_cons, List.reverse_nil, true_and, and_true, forall_const, not_true_eq_false, not_false_eq_true, false_implies, true_implies, implies_true, one0, m10, Nat.reduceAdd, Nat.reduceSub, Nat.reduceLeDiff, Nat.zero_add, Nat.add_zero, fn_X0_remember, fn_X10_change, fn_X11_within, fn_X5_has])
      refine ⟨⟨_, _, _, rfl⟩, fun h3 => ?_, fun h3 => ?_⟩
      · rw [if_pos h3] at hQ; exact F hQ
      · rw [if_neg h3] at hQ
        (apply h44; simp only [BX11_set_44, s_mth, s_mab, s_at, s_iconst, s_lconst, s_iload, s_lload, s_aload, s_istore, s_lstore, s_astore, s_iinc, s_bin, s_binG, s_un, s_lbin, s_lbinG, s_lsh, s_lcmp, s_i2l, s_l2i, s_dup, s_dup2, s_pop, s_if, s_icmp, s_geti, s_getl, s_getr, s_puti, s_putz, s_putl, s_iald, s_zald, s_iast, s_zast, s_aaldS, s_aaldU, s_gets, s_tald, s_tsw, tsw, s_iret, s_zret, s_lret, s_aret, s_vret, s_callV, s_callS, c1, nl1, keepL, csum, pushR, inL, List.getD_cons_zero, List.getD_cons_succ, List.set_cons_zero, List.set_cons_succ, List.cons_append, List.nil_append, List.append_nil, List.replicate, List.length_cons, List.length_nil, List.take_succ_cons, List.take_zero, List.drop_succ_cons, List.drop_zero, List.reverse_cons, List.reverse_nil, true_and, and_true, forall_const, not_true_eq_false, not_false_eq_true, false_implies, true_implies, implies_true, one0, m10, Nat.reduceAdd, Nat.reduceSub, Nat.reduceLeDiff, Nat.zero_add, Nat.add_zero, fn_X0_remember, fn_X10_change, fn_X11_within, fn_X5_has])
        simp only [l8]
        exact ⟨⟨_, _, rfl, hC.1.1.1, hC.2.2⟩, by rw [e]; exact vp_in_nI (by omega) (by decide), ⟨_, _, _, rfl⟩, hQ⟩
    (apply h13; simp only [BX11_set_13, s_mth, s_mab, s_at, s_iconst, s_lconst, s_iload, s_lload, s_aload, s_istore, s_lstore, s_astore, s_iinc, s_bin, s_binG, s_un, s_lbin, s_lbinG, s_lsh, s_lcmp, s_i2l, s_l2i, s_dup, s_dup2, s_pop, s_if, s_icmp, s_geti, s_getl, s_getr, s_puti, s_putz, s_putl, s_iald, s_zald, s_iast, s_zast, s_aaldS, s_aaldU, s_gets, s_tald, s_tsw, tsw, s_iret, s_zret, s_lret, s_aret, s_vret, s_callV, s_callS, c1, nl1, keepL, csum, pushR, inL, List.getD_cons_zero, List.getD_cons_succ, List.set_cons_zero, List.set_cons_succ, List.cons_append, List.nil_append, List.append_nil, List.replicate, List.length_cons, List.length_nil, List.take_succ_cons, List.take_zero, List.drop_succ_cons, List.drop_zero, List.reverse_cons, List.reverse_nil, true_and, and_true, forall_const, not_true_eq_false, not_false_eq_true, false_implies, true_implies, implies_true, one0, m10, Nat.reduceAdd, Nat.reduceSub, Nat.reduceLeDiff, Nat.zero_add, Nat.add_zero, fn_X0_remember, fn_X10_change, fn_X11_within, fn_X5_has])
    refine ⟨⟨_, _, _, rfl⟩, fun h2 => ?_, fun h2 => ⟨fun h3 => ?_, fun h3 => ?_⟩⟩
    · rw [if_pos h2] at hQ; exact F hQ
    · exact L 1 (by rw [if_pos h3]) h2
    · (apply h32; simp only [BX11_set_32, s_mth, s_mab, s_at, s_iconst, s_lconst, s_iload, s_lload, s_aload, s_istore, s_lstore, s_astore, s_iinc, s_bin, s_binG, s_un, s_lbin, s_lbinG, s_lsh, s_lcmp, s_i2l, s_l2i, s_dup, s_dup2, s_pop, s_if, s_icmp, s_geti, s_getl, s_getr, s_puti, s_putz, s_putl, s_iald, s_zald, s_iast, s_zast, s_aaldS, s_aaldU, s_gets, s_tald, s_tsw, tsw, s_iret, s_zret, s_lret, s_aret, s_vret, s_callV, s_callS, c1, nl1, keepL, csum, pushR, inL, List.getD_cons_zero, List.getD_cons_succ, List.set_cons_zero, List.set_cons_succ, List.cons_append, List.nil_append, List.append_nil, List.replicate, List.length_cons, List.length_nil, List.take_succ_cons, List.take_zero, List.drop_succ_cons, List.drop_zero, List.reverse_cons, List.reverse_nil, true_and, and_true, forall_const, not_true_eq_false, not_false_eq_true, false_implies, true_implies, implies_true, one0, m10, Nat.reduceAdd, Nat.reduceSub, Nat.reduceLeDiff, Nat.zero_add, Nat.add_zero, fn_X0_remember, fn_X10_change, fn_X11_within, fn_X5_has])
      exact L 0 (by rw [if_neg h3]) h2
theorem ct_X11_set (l : Launch) : Con l yX11_set cX11_set 4 (Option.some FieldType.int) 3 pre_X11_set fn_X11_set := con_of (by decide +kernel) ok_X11_set len_X11_set (fun p e s m args below meth c D ca ad A as M hX hr hp ho => pf_X11_set _ _ (bsX11_set_0 hX hr) (bsX11_set_13 hX hr) (bsX11_set_32 hX hr) (bsX11_set_33 hX hr) (bsX11_set_41 hX hr) (bsX11_set_44 hX hr) as M ho hp ⟨rfl, rfl⟩)
def c_patience (M : mM) (v : Int32) : Int32 × mM := if wi v 0 9 = 0 then (-2, M) else ((rem M).1 7 1, mset (rem M) 7 1 v)
def pre_X11_patience (as : List mV) (M : mM) : Prop := ∃ c v, as = [.inr (.inr (11, c)), .inl v] ∧ CI M
def fn_X11_patience : List mV → mM → Option mV × mM
  | [.inr (.inr (_, c)), .inl v], M => (some (.inl (c_patience M v).1), (c_patience M v).2)
  | _, M => (none, M)
theorem ok_X11_patience (as : List mV) (M : mM) (h : pre_X11_patience as M) (_ : ∀ v ∈ as, okV v) : okR (fn_X11_patience as M).1 := by
  obtain ⟨c, v, rfl, -⟩ := h
  first | trivial | exact (by decide +kernel : kof 14 = 8)
theorem len_X11_patience (as : List mV) (M : mM) (h : pre_X11_patience as M) : (inL as).length ≤ 3 := by
  obtain ⟨c, v, rfl, -⟩ := h
  exact Nat.le_of_ble_eq_true rfl

theorem fl_153 : FLk "FairBlocks" 160 8 1 0 := ⟨RX8, TX8, 3, rfl, inX8, by decide, w_153, by decide, rfl⟩
theorem fp_153 : FPk "FairBlocks" 160 8 1 0 .int := ⟨RX8, TX8, 3, tyX8, rfl, inX8, by decide, w_153, by decide, rfl, tyX8_ok, nmX8, rfl, rfl⟩
theorem dX11_patience_0 : decode cX11_patience 0 = .ok (.iload_n 1, 1) := by decide +kernel
theorem dX11_patience_1 : decode cX11_patience 1 = .ok (.iconst 0, 1) := by decide +kernel
theorem dX11_patience_2 : decode cX11_patience 2 = .ok (.bipush 9, 2) := by decide +kernel
theorem dX11_patience_4 : decode cX11_patience 4 = .ok (.invokestatic 85, 3) := by decide +kernel
theorem dX11_patience_7 : decode cX11_patience 7 = .ok (.ifCond .ne 6, 3) := by decide +kernel
theorem dX11_patience_10 : decode cX11_patience 10 = .ok (.bipush (-2), 2) := by decide +kernel
theorem dX11_patience_12 : decode cX11_patience 12 = .ok (.ireturn, 1) := by decide +kernel
theorem dX11_patience_13 : decode cX11_patience 13 = .ok (.aload_n 0, 1) := by decide +kernel
theorem dX11_patience_14 : decode cX11_patience 14 = .ok (.getfield 36, 3) := by decide +kernel
theorem dX11_patience_17 : decode cX11_patience 17 = .ok (.aload_n 0, 1) := by decide +kernel
theorem dX11_patience_18 : decode cX11_patience 18 = .ok (.getfield 32, 3) := by decide +kernel
theorem dX11_patience_21 : decode cX11_patience 21 = .ok (.invokevirtual 133, 3) := by decide +kernel
theorem dX11_patience_24 : decode cX11_patience 24 = .ok (.aload_n 0, 1) := by decide +kernel
theorem dX11_patience_25 : decode cX11_patience 25 = .ok (.getfield 32, 3) := by decide +kernel
theorem dX11_patience_28 : decode cX11_patience 28 = .ok (.getfield 160, 3) := by decide +kernel
theorem dX11_patience_31 : decode cX11_patience 31 = .ok (.istore_n 2, 1) := by decide +kernel
theorem dX11_patience_32 : decode cX11_patience 32 = .ok (.aload_n 0, 1) := by decide +kernel
theorem dX11_patience_33 : decode cX11_patience 33 = .ok (.getfield 32, 3) := by decide +kernel
theorem dX11_patience_36 : decode cX11_patience 36 = .ok (.iload_n 1, 1) := by decide +kernel
theorem dX11_patience_37 : decode cX11_patience 37 = .ok (.putfield 160, 3) := by decide +kernel
theorem dX11_patience_40 : decode cX11_patience 40 = .ok (.iload_n 2, 1) := by decide +kernel
theorem dX11_patience_41 : decode cX11_patience 41 = .ok (.ireturn, 1) := by decide +kernel
theorem mk_X11_patience : MVk yX11_patience "FairBlocks" cX11_patience 3 (Option.some FieldType.int) 1 := ⟨w_493, w_491, w_492, w_1, rfl, by decide +kernel, by decide +kernel, by decide +kernel⟩
def BX11_patience_0 (G : Nat → KT) (Q : Option mV → mM → Prop) : KT := (s_iload 1 (s_iconst (0) (s_iconst (9) (s_callS 3 pre_X11_within fn_X11_within (s_if (fun x => x = 0) ((s_iconst (-2) (s_iret Q))) (s_at G 13 [true, true, false]))))))
set_option maxRecDepth 4000 in
theorem bsX11_patience_0 {p : Program} {l : Launch} {e : Env} {s : State} {m : MethodId} {args : Array Value} {below : List Frame} {meth : Method} {c : Code} {D : va_G} {ca : Nat → ClassId} {ad : Nat → Nat} {A : Nat → Prop} {Q : Option mV → mM → Prop} (hX : CX p s m args meth c 3 cX11_patience "FairBlocks" D ca ad A) (hr : meth.sig.returnType = (Option.some FieldType.int)) : ∀ lv st M, BX11_patience_0 (Gd p l e (rmD 3) s m args below meth c 3 D ca ad A 0 0 (MQ below (QC D ca ad A Q) args s 0 0 A)) Q lv st M → Gd p l e (rmD 3) s m args below meth c 3 D ca ad A 0 0 (MQ below (QC D ca ad A Q) args s 0 0 A) 0 lv st M :=
  (sd_iload_n hX dX11_patience_0 rfl (sd_iconst hX dX11_patience_1 rfl (sd_bipush hX dX11_patience_2 rfl (sd_callS hX (ct_X11_within l) mk_X11_within w_342 ⟨⟨by decide, by decide⟩, by decide, by decide⟩ dX11_patience_4 (sd_if_ne hX dX11_patience_7 (by decide) sd_at (sd_bipush hX dX11_patience_10 rfl (sd_iret hX hr dX11_patience_12)))))))
def BX11_patience_13 (G : Nat → KT) (Q : Option mV → mM → Prop) : KT := (s_aload 0 (s_getr 11 0 (fun _ => 26) (s_aload 0 (s_getr 11 8 (fun _ => 7) (s_callV 0 1 pre_X0_remember fn_X0_remember (s_aload 0 (s_getr 11 8 (fun _ => 7) (s_geti 8 1 (s_istore 2 (s_aload 0 (s_getr 11 8 (fun _ => 7) (s_iload 1 (s_puti 8 1 (s_iload 2 (s_iret Q)))))))))))))))
set_option maxRecDepth 4000 in
theorem bsX11_patience_13 {p : Program} {l : Launch} {e : Env} {s : State} {m : MethodId} {args : Array Value} {below : List Frame} {meth : Method} {c : Code} {D : va_G} {ca : Nat → ClassId} {ad : Nat → Nat} {A : Nat → Prop} {Q : Option mV → mM → Prop} (hX : CX p s m args meth c 3 cX11_patience "FairBlocks" D ca ad A) (hr : meth.sig.returnType = (Option.some FieldType.int)) : ∀ lv st M, BX11_patience_13 (Gd p l e (rmD 3) s m args below meth c 3 D ca ad A 0 0 (MQ below (QC D ca ad A Q) args s 0 0 A)) Q lv st M → Gd p l e (rmD 3) s m args below meth c 3 D ca ad A 0 0 (MQ below (QC D ca ad A Q) args s 0 0 A) 13 lv st M :=
  (sd_aload_n hX dX11_patience_13 rfl (sd_getr hX fl_305 (fun _ => rfl) (fun _ _ _ => by decide +kernel) dX11_patience_14 (sd_aload_n hX dX11_patience_17 rfl (sd_getr hX fl_304 (fun _ => rfl) (fun _ _ _ => by decide +kernel) dX11_patience_18 (sd_callV hX (kd := 0) rfl (by decide) (ct_X0_remember l) mk_X0_remember w_413 ⟨⟨by decide, by decide⟩, by decide, by decide⟩ dX11_patience_21 (sd_aload_n hX dX11_patience_24 rfl (sd_getr hX fl_304 (fun _ => rfl) (fun _ _ _ => by decide +kernel) dX11_patience_25 (sd_geti hX fl_153 (by decide) dX11_patience_28 (sd_istore_n hX (by decide) dX11_patience_31 rfl (sd_aload_n hX dX11_patience_32 rfl (sd_getr hX fl_304 (fun _ => rfl) (fun _ _ _ => by decide +kernel) dX11_patience_33 (sd_iload_n hX dX11_patience_36 rfl (sd_puti hX fp_153 dX11_patience_37 (sd_iload_n hX dX11_patience_40 rfl (sd_iret hX hr dX11_patience_41)))))))))))))))
set_option maxHeartbeats 400000 in
theorem pf_X11_patience (G : Nat → KT) (Q : Option mV → mM → Prop) (h0 : ∀ lv st M, BX11_patience_0 G Q lv st M → G 0 lv st M) (h13 : ∀ lv st M, BX11_patience_13 G Q lv st M → G 13 lv st M) (as : List mV) (M : mM) (ho : ∀ v ∈ as, okV v) (hp : pre_X11_patience as M) (hQ : Q (fn_X11_patience as M).1 (fn_X11_patience as M).2) : G 0 (inL as ++ List.replicate (3 - (inL as).length) none) [] M := by
  obtain ⟨c, v, rfl, hC⟩ := hp
  simp only [fn_X11_patience, c_patience] at hQ
  (apply h0; simp only [BX11_patience_0, s_mth, s_mab, s_at, s_iconst, s_lconst, s_iload, s_lload, s_aload, s_istore, s_lstore, s_astore, s_iinc, s_bin, s_binG, s_un, s_lbin, s_lbinG, s_lsh, s_lcmp, s_i2l, s_l2i, s_dup, s_dup2, s_pop, s_if, s_icmp, s_geti, s_getl, s_getr, s_puti, s_putz, s_putl, s_iald, s_zald, s_iast, s_zast, s_aaldS, s_aaldU, s_gets, s_tald, s_tsw, tsw, s_iret, s_zret, s_lret, s_aret, s_vret, s_callV, s_callS, c1, nl1, keepL, csum, pushR, inL, List.getD_cons_zero, List.getD_cons_succ, List.set_cons_zero, List.set_cons_succ, List.cons_append, List.nil_append, List.append_nil, List.replicate, List.length_cons, List.length_nil, List.take_succ_cons, List.take_zero, List.drop_succ_cons, List.drop_zero, List.reverse_cons, List.reverse_nil, true_and, and_true, forall_const, not_true_eq_false, not_false_eq_true, false_implies, true_implies, implies_true, one0, m10, Nat.reduceAdd, Nat.reduceSub, Nat.reduceLeDiff, Nat.zero_add, Nat.add_zero, fn_X0_remember, fn_X11_within])
  refine ⟨⟨_, _, _, rfl⟩, fun h => ?_, fun h => ?_⟩
  · rw [if_pos h] at hQ; exact hQ
  · rw [if_neg h] at hQ
    (apply h13; simp only [BX11_patience_13, s_mth, s_mab, s_at, s_iconst, s_lconst, s_iload, s_lload, s_aload, s_istore, s_lstore, s_astore, s_iinc, s_bin, s_binG, s_un, s_lbin, s_lbinG, s_lsh, s_lcmp, s_i2l, s_l2i, s_dup, s_dup2, s_pop, s_if, s_icmp, s_geti, s_getl, s_getr, s_puti, s_putz, s_putl, s_iald, s_zald, s_iast, s_zast, s_aaldS, s_aaldU, s_gets, s_tald, s_tsw, tsw, s_iret, s_zret, s_lret, s_aret, s_vret, s_callV, s_callS, c1, nl1, keepL, csum, pushR, inL, List.getD_cons_zero, List.getD_cons_succ, List.set_cons_zero, List.set_cons_succ, List.cons_append, List.nil_append, List.append_nil, List.replicate, List.length_cons, List.length_nil, List.take_succ_cons, List.take_zero, List.drop_succ_cons, List.drop_zero, List.reverse_cons, List.reverse_nil, true_and, and_true, forall_const, not_true_eq_false, not_false_eq_true, false_implies, true_implies, implies_true, one0, m10, Nat.reduceAdd, Nat.reduceSub, Nat.reduceLeDiff, Nat.zero_add, Nat.add_zero, fn_X0_remember, fn_X11_within])
    exact ⟨⟨_, _, rfl, hC.1.1.1, hC.2.2⟩, hQ⟩
theorem ct_X11_patience (l : Launch) : Con l yX11_patience cX11_patience 3 (Option.some FieldType.int) 3 pre_X11_patience fn_X11_patience := con_of (by decide +kernel) ok_X11_patience len_X11_patience (fun p e s m args below meth c D ca ad A as M hX hr hp ho => pf_X11_patience _ _ (bsX11_patience_0 hX hr) (bsX11_patience_13 hX hr) as M ho hp ⟨rfl, rfl⟩)
def c_undo (M : mM) : Int32 × mM := if M.1 26 2 = 0 then (-3, M) else ((tkB M 7).1 26 2, tkB M 7)
def pre_X11_undo (as : List mV) (M : mM) : Prop := ∃ c, as = [.inr (.inr (11, c))] ∧ CI M
def fn_X11_undo : List mV → mM → Option mV × mM
  | [.inr (.inr (_, c))], M => (some (.inl (c_undo M).1), (c_undo M).2)
  | _, M => (none, M)
theorem ok_X11_undo (as : List mV) (M : mM) (h : pre_X11_undo as M) (_ : ∀ v ∈ as, okV v) : okR (fn_X11_undo as M).1 := by
  obtain ⟨c, rfl, -⟩ := h
  first | trivial | exact (by decide +kernel : kof 14 = 8)
theorem len_X11_undo (as : List mV) (M : mM) (h : pre_X11_undo as M) : (inL as).length ≤ 1 := by
  obtain ⟨c, rfl, -⟩ := h
  exact Nat.le_of_ble_eq_true rfl

theorem fl_226 : FLk "FairBlocks" 163 0 2 0 := ⟨RX0, TX0, 3, rfl, inX0, by decide, w_226, by decide, rfl⟩
theorem dX11_undo_0 : decode cX11_undo 0 = .ok (.aload_n 0, 1) := by decide +kernel
theorem dX11_undo_1 : decode cX11_undo 1 = .ok (.getfield 36, 3) := by decide +kernel
theorem dX11_undo_4 : decode cX11_undo 4 = .ok (.getfield 163, 3) := by decide +kernel
theorem dX11_undo_7 : decode cX11_undo 7 = .ok (.ifCond .ne 6, 3) := by decide +kernel
theorem dX11_undo_10 : decode cX11_undo 10 = .ok (.bipush (-3), 2) := by decide +kernel
theorem dX11_undo_12 : decode cX11_undo 12 = .ok (.ireturn, 1) := by decide +kernel
theorem dX11_undo_13 : decode cX11_undo 13 = .ok (.aload_n 0, 1) := by decide +kernel
theorem dX11_undo_14 : decode cX11_undo 14 = .ok (.getfield 36, 3) := by decide +kernel
theorem dX11_undo_17 : decode cX11_undo 17 = .ok (.aload_n 0, 1) := by decide +kernel
theorem dX11_undo_18 : decode cX11_undo 18 = .ok (.getfield 32, 3) := by decide +kernel
theorem dX11_undo_21 : decode cX11_undo 21 = .ok (.invokevirtual 166, 3) := by decide +kernel
theorem dX11_undo_24 : decode cX11_undo 24 = .ok (.aload_n 0, 1) := by decide +kernel
theorem dX11_undo_25 : decode cX11_undo 25 = .ok (.getfield 36, 3) := by decide +kernel
theorem dX11_undo_28 : decode cX11_undo 28 = .ok (.getfield 163, 3) := by decide +kernel
theorem dX11_undo_31 : decode cX11_undo 31 = .ok (.ireturn, 1) := by decide +kernel
theorem mk_X11_undo : MVk yX11_undo "FairBlocks" cX11_undo 1 (Option.some FieldType.int) 0 := ⟨w_497, w_495, w_496, w_1, rfl, by decide +kernel, by decide +kernel, by decide +kernel⟩
def BX11_undo_0 (G : Nat → KT) (Q : Option mV → mM → Prop) : KT := (s_aload 0 (s_getr 11 0 (fun _ => 26) (s_geti 0 2 (s_if (fun x => x = 0) ((s_iconst (-3) (s_iret Q))) (s_at G 13 [true])))))
set_option maxRecDepth 4000 in
theorem bsX11_undo_0 {p : Program} {l : Launch} {e : Env} {s : State} {m : MethodId} {args : Array Value} {below : List Frame} {meth : Method} {c : Code} {D : va_G} {ca : Nat → ClassId} {ad : Nat → Nat} {A : Nat → Prop} {Q : Option mV → mM → Prop} (hX : CX p s m args meth c 1 cX11_undo "FairBlocks" D ca ad A) (hr : meth.sig.returnType = (Option.some FieldType.int)) : ∀ lv st M, BX11_undo_0 (Gd p l e (rmD 3) s m args below meth c 1 D ca ad A 0 0 (MQ below (QC D ca ad A Q) args s 0 0 A)) Q lv st M → Gd p l e (rmD 3) s m args below meth c 1 D ca ad A 0 0 (MQ below (QC D ca ad A Q) args s 0 0 A) 0 lv st M :=
  (sd_aload_n hX dX11_undo_0 rfl (sd_getr hX fl_305 (fun _ => rfl) (fun _ _ _ => by decide +kernel) dX11_undo_1 (sd_geti hX fl_226 (by decide) dX11_undo_4 (sd_if_ne hX dX11_undo_7 (by decide) sd_at (sd_bipush hX dX11_undo_10 rfl (sd_iret hX hr dX11_undo_12))))))
def BX11_undo_13 (G : Nat → KT) (Q : Option mV → mM → Prop) : KT := (s_aload 0 (s_getr 11 0 (fun _ => 26) (s_aload 0 (s_getr 11 8 (fun _ => 7) (s_callV 0 1 pre_X0_takeBack fn_X0_takeBack (s_aload 0 (s_getr 11 0 (fun _ => 26) (s_geti 0 2 (s_iret Q)))))))))
set_option maxRecDepth 4000 in
theorem bsX11_undo_13 {p : Program} {l : Launch} {e : Env} {s : State} {m : MethodId} {args : Array Value} {below : List Frame} {meth : Method} {c : Code} {D : va_G} {ca : Nat → ClassId} {ad : Nat → Nat} {A : Nat → Prop} {Q : Option mV → mM → Prop} (hX : CX p s m args meth c 1 cX11_undo "FairBlocks" D ca ad A) (hr : meth.sig.returnType = (Option.some FieldType.int)) : ∀ lv st M, BX11_undo_13 (Gd p l e (rmD 3) s m args below meth c 1 D ca ad A 0 0 (MQ below (QC D ca ad A Q) args s 0 0 A)) Q lv st M → Gd p l e (rmD 3) s m args below meth c 1 D ca ad A 0 0 (MQ below (QC D ca ad A Q) args s 0 0 A) 13 lv st M :=
  (sd_aload_n hX dX11_undo_13 rfl (sd_getr hX fl_305 (fun _ => rfl) (fun _ _ _ => by decide +kernel) dX11_undo_14 (sd_aload_n hX dX11_undo_17 rfl (sd_getr hX fl_304 (fun _ => rfl) (fun _ _ _ => by decide +kernel) dX11_undo_18 (sd_callV hX (kd := 0) rfl (by decide) (ct_X0_takeBack l) mk_X0_takeBack w_498 ⟨⟨by decide, by decide⟩, by decide, by decide⟩ dX11_undo_21 (sd_aload_n hX dX11_undo_24 rfl (sd_getr hX fl_305 (fun _ => rfl) (fun _ _ _ => by decide +kernel) dX11_undo_25 (sd_geti hX fl_226 (by decide) dX11_undo_28 (sd_iret hX hr dX11_undo_31)))))))))
set_option maxHeartbeats 400000 in
theorem pf_X11_undo (G : Nat → KT) (Q : Option mV → mM → Prop) (h0 : ∀ lv st M, BX11_undo_0 G Q lv st M → G 0 lv st M) (h13 : ∀ lv st M, BX11_undo_13 G Q lv st M → G 13 lv st M) (as : List mV) (M : mM) (ho : ∀ v ∈ as, okV v) (hp : pre_X11_undo as M) (hQ : Q (fn_X11_undo as M).1 (fn_X11_undo as M).2) : G 0 (inL as ++ List.replicate (1 - (inL as).length) none) [] M := by
  obtain ⟨c, rfl, hC⟩ := hp
  simp only [fn_X11_undo, c_undo] at hQ
  (apply h0; simp only [BX11_undo_0, s_mth, s_mab, s_at, s_iconst, s_lconst, s_iload, s_lload, s_aload, s_istore, s_lstore, s_astore, s_iinc, s_bin, s_binG, s_un, s_lbin, s_lbinG, s_lsh, s_lcmp, s_i2l, s_l2i, s_dup, s_dup2, s_pop, s_if, s_icmp, s_geti, s_getl, s_getr, s_puti, s_putz, s_putl, s_iald, s_zald, s_iast, s_zast, s_aaldS, s_aaldU, s_gets, s_tald, s_tsw, tsw, s_iret, s_zret, s_lret, s_aret, s_vret, s_callV, s_callS, c1, nl1, keepL, csum, pushR, inL, List.getD_cons_zero, List.getD_cons_succ, List.set_cons_zero, List.set_cons_succ, List.cons_append, List.nil_append, List.append_nil, List.replicate, List.length_cons, List.length_nil, List.take_succ_cons, List.take_zero, List.drop_succ_cons, List.drop_zero, List.reverse_cons, List.reverse_nil, true_and, and_true, forall_const, not_true_eq_false, not_false_eq_true, false_implies, true_implies, implies_true, one0, m10, Nat.reduceAdd, Nat.reduceSub, Nat.reduceLeDiff, Nat.zero_add, Nat.add_zero, fn_X0_takeBack])
  refine ⟨fun h => ?_, fun h => ?_⟩
  · rw [if_pos h] at hQ; exact hQ
  · rw [if_neg h] at hQ
    (apply h13; simp only [BX11_undo_13, s_mth, s_mab, s_at, s_iconst, s_lconst, s_iload, s_lload, s_aload, s_istore, s_lstore, s_astore, s_iinc, s_bin, s_binG, s_un, s_lbin, s_lbinG, s_lsh, s_lcmp, s_i2l, s_l2i, s_dup, s_dup2, s_pop, s_if, s_icmp, s_geti, s_getl, s_getr, s_puti, s_putz, s_putl, s_iald, s_zald, s_iast, s_zast, s_aaldS, s_aaldU, s_gets, s_tald, s_tsw, tsw, s_iret, s_zret, s_lret, s_aret, s_vret, s_callV, s_callS, c1, nl1, keepL, csum, pushR, inL, List.getD_cons_zero, List.getD_cons_succ, List.set_cons_zero, List.set_cons_succ, List.cons_append, List.nil_append, List.append_nil, List.replicate, List.length_cons, List.length_nil, List.take_succ_cons, List.take_zero, List.drop_succ_cons, List.drop_zero, List.reverse_cons, List.reverse_nil, true_and, and_true, forall_const, not_true_eq_false, not_false_eq_true, false_implies, true_implies, implies_true, one0, m10, Nat.reduceAdd, Nat.reduceSub, Nat.reduceLeDiff, Nat.zero_add, Nat.add_zero, fn_X0_takeBack])
    exact ⟨⟨_, _, rfl, hC.1.1.1, hC.2.2⟩, hQ⟩
theorem ct_X11_undo (l : Launch) : Con l yX11_undo cX11_undo 1 (Option.some FieldType.int) 3 pre_X11_undo fn_X11_undo := con_of (by decide +kernel) ok_X11_undo len_X11_undo (fun p e s m args below meth c D ca ad A as M hX hr hp ho => pf_X11_undo _ _ (bsX11_undo_0 hX hr) (bsX11_undo_13 hX hr) as M ho hp ⟨rfl, rfl⟩)
def c_ahead (M : mM) (n u w : Int32) : Int32 × mM := if hasI M u = 0 then (-1, M) else if wi n 0 99 = 0 then (-2, M) else if wi w 5 10 = 0 then (-2, M) else (told (ru (stc M 14 7) 14 n.toNatClampNeg).2 (16 + u.toNatClampNeg) w, (ru (stc M 14 7) 14 n.toNatClampNeg).2)
def pre_X11_ahead (as : List mV) (M : mM) : Prop := ∃ c n u w, as = [.inr (.inr (11, c)), .inl n, .inl u, .inl w] ∧ CI M
def fn_X11_ahead : List mV → mM → Option mV × mM
  | [.inr (.inr (_, c)), .inl n, .inl u, .inl w], M => (some (.inl (c_ahead M n u w).1), (c_ahead M n u w).2)
  | _, M => (none, M)
theorem ok_X11_ahead (as : List mV) (M : mM) (h : pre_X11_ahead as M) (_ : ∀ v ∈ as, okV v) : okR (fn_X11_ahead as M).1 := by
  obtain ⟨c, n, u, w, rfl, -⟩ := h
  first | trivial | exact (by decide +kernel : kof 14 = 8)
theorem len_X11_ahead (as : List mV) (M : mM) (h : pre_X11_ahead as M) : (inL as).length ≤ 5 := by
  obtain ⟨c, n, u, w, rfl, -⟩ := h
  exact Nat.le_of_ble_eq_true rfl


theorem dX11_ahead_0 : decode cX11_ahead 0 = .ok (.aload_n 0, 1) := by decide +kernel
theorem dX11_ahead_1 : decode cX11_ahead 1 = .ok (.getfield 27, 3) := by decide +kernel
theorem dX11_ahead_4 : decode cX11_ahead 4 = .ok (.iload_n 2, 1) := by decide +kernel
theorem dX11_ahead_5 : decode cX11_ahead 5 = .ok (.invokevirtual 113, 3) := by decide +kernel
theorem dX11_ahead_8 : decode cX11_ahead 8 = .ok (.ifCond .ne 5, 3) := by decide +kernel
theorem dX11_ahead_11 : decode cX11_ahead 11 = .ok (.iconst (-1), 1) := by decide +kernel
theorem dX11_ahead_12 : decode cX11_ahead 12 = .ok (.ireturn, 1) := by decide +kernel
theorem dX11_ahead_13 : decode cX11_ahead 13 = .ok (.iload_n 1, 1) := by decide +kernel
theorem dX11_ahead_14 : decode cX11_ahead 14 = .ok (.iconst 0, 1) := by decide +kernel
theorem dX11_ahead_15 : decode cX11_ahead 15 = .ok (.bipush 99, 2) := by decide +kernel
theorem dX11_ahead_17 : decode cX11_ahead 17 = .ok (.invokestatic 85, 3) := by decide +kernel
theorem dX11_ahead_20 : decode cX11_ahead 20 = .ok (.ifCond .eq 13, 3) := by decide +kernel
theorem dX11_ahead_23 : decode cX11_ahead 23 = .ok (.iload_n 3, 1) := by decide +kernel
theorem dX11_ahead_24 : decode cX11_ahead 24 = .ok (.iconst 5, 1) := by decide +kernel
theorem dX11_ahead_25 : decode cX11_ahead 25 = .ok (.bipush 10, 2) := by decide +kernel
theorem dX11_ahead_27 : decode cX11_ahead 27 = .ok (.invokestatic 85, 3) := by decide +kernel
theorem dX11_ahead_30 : decode cX11_ahead 30 = .ok (.ifCond .ne 6, 3) := by decide +kernel
theorem dX11_ahead_33 : decode cX11_ahead 33 = .ok (.bipush (-2), 2) := by decide +kernel
theorem dX11_ahead_35 : decode cX11_ahead 35 = .ok (.ireturn, 1) := by decide +kernel
theorem dX11_ahead_36 : decode cX11_ahead 36 = .ok (.aload_n 0, 1) := by decide +kernel
theorem dX11_ahead_37 : decode cX11_ahead 37 = .ok (.getfield 19, 3) := by decide +kernel
theorem dX11_ahead_40 : decode cX11_ahead 40 = .ok (.invokevirtual 169, 3) := by decide +kernel
theorem dX11_ahead_43 : decode cX11_ahead 43 = .ok (.astore 4, 2) := by decide +kernel
theorem dX11_ahead_45 : decode cX11_ahead 45 = .ok (.aload_n 0, 1) := by decide +kernel
theorem dX11_ahead_46 : decode cX11_ahead 46 = .ok (.getfield 19, 3) := by decide +kernel
theorem dX11_ahead_49 : decode cX11_ahead 49 = .ok (.getfield 137, 3) := by decide +kernel
theorem dX11_ahead_52 : decode cX11_ahead 52 = .ok (.aload 4, 2) := by decide +kernel
theorem dX11_ahead_54 : decode cX11_ahead 54 = .ok (.iload_n 1, 1) := by decide +kernel
theorem dX11_ahead_55 : decode cX11_ahead 55 = .ok (.invokevirtual 141, 3) := by decide +kernel
theorem dX11_ahead_58 : decode cX11_ahead 58 = .ok (.pop, 1) := by decide +kernel
theorem dX11_ahead_59 : decode cX11_ahead 59 = .ok (.aload 4, 2) := by decide +kernel
theorem dX11_ahead_61 : decode cX11_ahead 61 = .ok (.getfield 124, 3) := by decide +kernel
theorem dX11_ahead_64 : decode cX11_ahead 64 = .ok (.iload_n 2, 1) := by decide +kernel
theorem dX11_ahead_65 : decode cX11_ahead 65 = .ok (.aaload, 1) := by decide +kernel
theorem dX11_ahead_66 : decode cX11_ahead 66 = .ok (.iload_n 3, 1) := by decide +kernel
theorem dX11_ahead_67 : decode cX11_ahead 67 = .ok (.invokevirtual 127, 3) := by decide +kernel
theorem dX11_ahead_70 : decode cX11_ahead 70 = .ok (.ireturn, 1) := by decide +kernel
theorem mk_X11_ahead : MVk yX11_ahead "FairBlocks" cX11_ahead 5 (Option.some FieldType.int) 3 := ⟨w_505, w_503, w_504, w_1, rfl, by decide +kernel, by decide +kernel, by decide +kernel⟩
def BX11_ahead_0 (G : Nat → KT) (Q : Option mV → mM → Prop) : KT := (s_aload 0 (s_getr 11 5 (fun _ => 4) (s_iload 2 (s_callV 5 1 pre_X5_has fn_X5_has (s_if (fun x => x = 0) ((s_iconst (-1) (s_iret Q))) (s_at G 13 [true, true, true, true, false]))))))
set_option maxRecDepth 4000 in
theorem bsX11_ahead_0 {p : Program} {l : Launch} {e : Env} {s : State} {m : MethodId} {args : Array Value} {below : List Frame} {meth : Method} {c : Code} {D : va_G} {ca : Nat → ClassId} {ad : Nat → Nat} {A : Nat → Prop} {Q : Option mV → mM → Prop} (hX : CX p s m args meth c 5 cX11_ahead "FairBlocks" D ca ad A) (hr : meth.sig.returnType = (Option.some FieldType.int)) : ∀ lv st M, BX11_ahead_0 (Gd p l e (rmD 4) s m args below meth c 5 D ca ad A 0 0 (MQ below (QC D ca ad A Q) args s 0 0 A)) Q lv st M → Gd p l e (rmD 4) s m args below meth c 5 D ca ad A 0 0 (MQ below (QC D ca ad A Q) args s 0 0 A) 0 lv st M :=
  (sd_aload_n hX dX11_ahead_0 rfl (sd_getr hX fl_303 (fun _ => rfl) (fun _ _ _ => by decide +kernel) dX11_ahead_1 (sd_iload_n hX dX11_ahead_4 rfl (sd_callV hX (kd := 5) rfl (by decide) (ct_X5_has l) mk_X5_has w_397 ⟨⟨by decide, by decide⟩, by decide, by decide⟩ dX11_ahead_5 (sd_if_ne hX dX11_ahead_8 (by decide) sd_at (sd_iconst hX dX11_ahead_11 rfl (sd_iret hX hr dX11_ahead_12)))))))
def BX11_ahead_13 (G : Nat → KT) (Q : Option mV → mM → Prop) : KT := (s_iload 1 (s_iconst (0) (s_iconst (99) (s_callS 3 pre_X11_within fn_X11_within (s_if (fun x => x = 0) (s_at G 33 [false, false, false, false, false]) (s_iload 3 (s_iconst (5) (s_iconst (10) (s_callS 3 pre_X11_within fn_X11_within (s_if (fun x => x = 0) ((s_at G 33 [false, false, false, false, false])) (s_at G 36 [true, true, true, true, false])))))))))))
set_option maxRecDepth 4000 in
theorem bsX11_ahead_13 {p : Program} {l : Launch} {e : Env} {s : State} {m : MethodId} {args : Array Value} {below : List Frame} {meth : Method} {c : Code} {D : va_G} {ca : Nat → ClassId} {ad : Nat → Nat} {A : Nat → Prop} {Q : Option mV → mM → Prop} (hX : CX p s m args meth c 5 cX11_ahead "FairBlocks" D ca ad A) (hr : meth.sig.returnType = (Option.some FieldType.int)) : ∀ lv st M, BX11_ahead_13 (Gd p l e (rmD 4) s m args below meth c 5 D ca ad A 0 0 (MQ below (QC D ca ad A Q) args s 0 0 A)) Q lv st M → Gd p l e (rmD 4) s m args below meth c 5 D ca ad A 0 0 (MQ below (QC D ca ad A Q) args s 0 0 A) 13 lv st M :=
  (sd_iload_n hX dX11_ahead_13 rfl (sd_iconst hX dX11_ahead_14 rfl (sd_bipush hX dX11_ahead_15 rfl (sd_callS hX (ct_X11_within l) mk_X11_within w_342 ⟨⟨by decide, by decide⟩, by decide, by decide⟩ dX11_ahead_17 (sd_if_eq hX dX11_ahead_20 (by decide) sd_at (sd_iload_n hX dX11_ahead_23 rfl (sd_iconst hX dX11_ahead_24 rfl (sd_bipush hX dX11_ahead_25 rfl (sd_callS hX (ct_X11_within l) mk_X11_within w_342 ⟨⟨by decide, by decide⟩, by decide, by decide⟩ dX11_ahead_27 (sd_if_ne hX dX11_ahead_30 (by decide) sd_at sd_at))))))))))
def BX11_ahead_33 (G : Nat → KT) (Q : Option mV → mM → Prop) : KT := (s_iconst (-2) (s_iret Q))
set_option maxRecDepth 4000 in
theorem bsX11_ahead_33 {p : Program} {l : Launch} {e : Env} {s : State} {m : MethodId} {args : Array Value} {below : List Frame} {meth : Method} {c : Code} {D : va_G} {ca : Nat → ClassId} {ad : Nat → Nat} {A : Nat → Prop} {Q : Option mV → mM → Prop} (hX : CX p s m args meth c 5 cX11_ahead "FairBlocks" D ca ad A) (hr : meth.sig.returnType = (Option.some FieldType.int)) : ∀ lv st M, BX11_ahead_33 (Gd p l e (rmD 4) s m args below meth c 5 D ca ad A 0 0 (MQ below (QC D ca ad A Q) args s 0 0 A)) Q lv st M → Gd p l e (rmD 4) s m args below meth c 5 D ca ad A 0 0 (MQ below (QC D ca ad A Q) args s 0 0 A) 33 lv st M :=
  (sd_bipush hX dX11_ahead_33 rfl (sd_iret hX hr dX11_ahead_35))
def BX11_ahead_36 (G : Nat → KT) (Q : Option mV → mM → Prop) : KT := (s_aload 0 (s_getr 11 1 (fun _ => 3) (s_callV 1 0 pre_X1_freshTrial fn_X1_freshTrial (s_astore 4 (s_aload 0 (s_getr 11 1 (fun _ => 3) (s_getr 1 6 (fun _ => 21) (s_aload 4 (s_iload 1 (s_callV 6 2 pre_X6_run fn_X6_run (s_pop (s_aload 4 (s_getr 8 16 (fun k => k + 1) (s_iload 2 (s_aaldU (s_iload 3 (s_callV 10 1 pre_X10_told fn_X10_told (s_iret Q))))))))))))))))))
set_option maxRecDepth 4000 in
theorem bsX11_ahead_36 {p : Program} {l : Launch} {e : Env} {s : State} {m : MethodId} {args : Array Value} {below : List Frame} {meth : Method} {c : Code} {D : va_G} {ca : Nat → ClassId} {ad : Nat → Nat} {A : Nat → Prop} {Q : Option mV → mM → Prop} (hX : CX p s m args meth c 5 cX11_ahead "FairBlocks" D ca ad A) (hr : meth.sig.returnType = (Option.some FieldType.int)) : ∀ lv st M, BX11_ahead_36 (Gd p l e (rmD 4) s m args below meth c 5 D ca ad A 0 0 (MQ below (QC D ca ad A Q) args s 0 0 A)) Q lv st M → Gd p l e (rmD 4) s m args below meth c 5 D ca ad A 0 0 (MQ below (QC D ca ad A Q) args s 0 0 A) 36 lv st M :=
  (sd_aload_n hX dX11_ahead_36 rfl (sd_getr hX fl_302 (fun _ => rfl) (fun _ _ _ => by decide +kernel) dX11_ahead_37 (sd_callV hX (kd := 1) rfl (by decide) (ct_X1_freshTrial l) mk_X1_freshTrial w_506 ⟨⟨by decide, by decide⟩, by decide, by decide⟩ dX11_ahead_40 (sd_astore hX (by decide) dX11_ahead_43 (sd_aload_n hX dX11_ahead_45 rfl (sd_getr hX fl_302 (fun _ => rfl) (fun _ _ _ => by decide +kernel) dX11_ahead_46 (sd_getr hX fl_204 (fun _ => rfl) (fun _ _ _ => by decide +kernel) dX11_ahead_49 (sd_aload hX dX11_ahead_52 (sd_iload_n hX dX11_ahead_54 rfl (sd_callV hX (kd := 6) rfl (by decide) (ct_X6_run l) mk_X6_run w_425 ⟨⟨by decide, by decide⟩, by decide, by decide⟩ dX11_ahead_55 (sd_pop hX dX11_ahead_58 (sd_aload hX dX11_ahead_59 (sd_getr hX fl_148 (fun _ => rfl) okA dX11_ahead_61 (sd_iload_n hX dX11_ahead_64 rfl (sd_aaldU hX dX11_ahead_65 (sd_iload_n hX dX11_ahead_66 rfl (sd_callV hX (kd := 10) rfl (by decide) (ct_X10_told l) mk_X10_told w_405 ⟨⟨by decide, by decide⟩, by decide, by decide⟩ dX11_ahead_67 (sd_iret hX hr dX11_ahead_70))))))))))))))))))
set_option maxHeartbeats 400000 in
theorem pf_X11_ahead (G : Nat → KT) (Q : Option mV → mM → Prop) (h0 : ∀ lv st M, BX11_ahead_0 G Q lv st M → G 0 lv st M) (h13 : ∀ lv st M, BX11_ahead_13 G Q lv st M → G 13 lv st M) (h33 : ∀ lv st M, BX11_ahead_33 G Q lv st M → G 33 lv st M) (h36 : ∀ lv st M, BX11_ahead_36 G Q lv st M → G 36 lv st M) (as : List mV) (M : mM) (ho : ∀ v ∈ as, okV v) (hp : pre_X11_ahead as M) (hQ : Q (fn_X11_ahead as M).1 (fn_X11_ahead as M).2) : G 0 (inL as ++ List.replicate (5 - (inL as).length) none) [] M := by
  obtain ⟨c, n, u, w, rfl, hC⟩ := hp
  have hPL := hC.1.1.2
  have hn := n5 hPL
  simp only [fn_X11_ahead, c_ahead] at hQ
  have F : Q (some (.inl (-2))) M → G 33 [none, none, none, none, none] [] M := by
    intro hQ
    (apply h33; simp only [BX11_ahead_33, s_mth, s_mab, s_at, s_iconst, s_lconst, s_iload, s_lload, s_aload, s_istore, s_lstore, s_astore, s_iinc, s_bin, s_binG, s_un, s_lbin, s_lbinG, s_lsh, s_lcmp, s_i2l, s_l2i, s_dup, s_dup2, s_pop, s_if, s_icmp, s_geti, s_getl, s_getr, s_puti, s_putz, s_putl, s_iald, s_zald, s_iast, s_zast, s_aaldS, s_aaldU, s_gets, s_tald, s_tsw, tsw, s_iret, s_zret, s_lret, s_aret, s_vret, s_callV, s_callS, c1, nl1, keepL, csum, pushR, inL, List.getD_cons_zero, List.getD_cons_succ, List.set_cons_zero, List.set_cons_succ, List.cons_append, List.nil_append, List.append_nil, List.replicate, List.length_cons, List.length_nil, List.take_succ_cons, List.take_zero, List.drop_succ_cons, List.drop_zero, List.reverse_cons, List.reverse_nil, true_and, and_true, forall_const, not_true_eq_false, not_false_eq_true, false_implies, true_implies, implies_true, one0, m10, Nat.reduceAdd, Nat.reduceSub, Nat.reduceLeDiff, Nat.zero_add, Nat.add_zero, fn_X10_told, fn_X11_within, fn_X1_freshTrial, fn_X5_has, fn_X6_run])
    exact hQ
  (apply h0; simp only [BX11_ahead_0, s_mth, s_mab, s_at, s_iconst, s_lconst, s_iload, s_lload, s_aload, s_istore, s_lstore, s_astore, s_iinc, s_bin, s_binG, s_un, s_lbin, s_lbinG, s_lsh, s_lcmp, s_i2l, s_l2i, s_dup, s_dup2, s_pop, s_if, s_icmp, s_geti, s_getl, s_getr, s_puti, s_putz, s_putl, s_iald, s_zald, s_iast, s_zast, s_aaldS, s_aaldU, s_gets, s_tald, s_tsw, tsw, s_iret, s_zret, s_lret, s_aret, s_vret, s_callV, s_callS, c1, nl1, keepL, csum, pushR, inL, List.getD_cons_zero, List.getD_cons_succ, List.set_cons_zero, List.set_cons_succ, List.cons_append, List.nil_append, List.append_nil, List.replicate, List.length_cons, List.length_nil, List.take_succ_cons, List.take_zero, List.drop_succ_cons, List.drop_zero, List.reverse_cons, List.reverse_nil, true_and, and_true, forall_const, not_true_eq_false, not_false_eq_true, false_implies, true_implies, implies_true, one0, m10, Nat.reduceAdd, Nat.reduceSub, Nat.reduceLeDiff, Nat.zero_add, Nat.add_zero, fn_X10_told, fn_X11_within, fn_X1_freshTrial, fn_X5_has, fn_X6_run])
  refine ⟨⟨_, _, rfl⟩, fun h => ?_, fun h => ?_⟩
  · rw [if_pos h] at hQ; exact hQ
  · rw [if_neg h] at hQ
    obtain ⟨j, hj, e⟩ := hasI_1 hPL h
    (apply h13; simp only [BX11_ahead_13, s_mth, s_mab, s_at, s_iconst, s_lconst, s_iload, s_lload, s_aload, s_istore, s_lstore, s_astore, s_iinc, s_bin, s_binG, s_un, s_lbin, s_lbinG, s_lsh, s_lcmp, s_i2l, s_l2i, s_dup, s_dup2, s_pop, s_if, s_icmp, s_geti, s_getl, s_getr, s_puti, s_putz, s_putl, s_iald, s_zald, s_iast, s_zast, s_aaldS, s_aaldU, s_gets, s_tald, s_tsw, tsw, s_iret, s_zret, s_lret, s_aret, s_vret, s_callV, s_callS, c1, nl1, keepL, csum, pushR, inL, List.getD_cons_zero, List.getD_cons_succ, List.set_cons_zero, List.set_cons_succ, List.cons_append, List.nil_append, List.append_nil, List.replicate, List.length_cons, List.length_nil, List.take_succ_cons, List.take_zero, List.drop_succ_cons, List.drop_zero, List.reverse_cons, List.reverse_nil, true_and, and_true, forall_const, not_true_eq_false, not_false_eq_true, false_implies, true_implies, implies_true, one0, m10, Nat.reduceAdd, Nat.reduceSub, Nat.reduceLeDiff, Nat.zero_add, Nat.add_zero, fn_X10_told, fn_X11_within, fn_X1_freshTrial, fn_X5_has, fn_X6_run])
    refine ⟨⟨_, _, _, rfl⟩, fun h2 => ?_, fun h2 => ⟨⟨_, _, _, rfl⟩, fun h3 => ?_, fun h3 => ?_⟩⟩
    · rw [if_pos h2] at hQ; exact F hQ
    · rw [if_neg h2, if_pos h3] at hQ; exact F hQ
    · rw [if_neg h2, if_neg h3] at hQ
      obtain ⟨i, -, h99, ei⟩ := wi_g (d := 0) (c := 99) rfl rfl (by decide) (by decide) h2
      (apply h36; simp only [BX11_ahead_36, s_mth, s_mab, s_at, s_iconst, s_lconst, s_iload, s_lload, s_aload, s_istore, s_lstore, s_astore, s_iinc, s_bin, s_binG, s_un, s_lbin, s_lbinG, s_lsh, s_lcmp, s_i2l, s_l2i, s_dup, s_dup2, s_pop, s_if, s_icmp, s_geti, s_getl, s_getr, s_puti, s_putz, s_putl, s_iald, s_zald, s_iast, s_zast, s_aaldS, s_aaldU, s_gets, s_tald, s_tsw, tsw, s_iret, s_zret, s_lret, s_aret, s_vret, s_callV, s_callS, c1, nl1, keepL, csum, pushR, inL, List.getD_cons_zero, List.getD_cons_succ, List.set_cons_zero, List.set_cons_succ, List.cons_append, List.nil_append, List.append_nil, List.replicate, List.length_cons, List.length_nil, List.take_succ_cons, List.take_zero, List.drop_succ_cons, List.drop_zero, List.reverse_cons, List.reverse_nil, true_and, and_true, forall_const, not_true_eq_false, not_false_eq_true, false_implies, true_implies, implies_true, one0, m10, Nat.reduceAdd, Nat.reduceSub, Nat.reduceLeDiff, Nat.zero_add, Nat.add_zero, fn_X10_told, fn_X11_within, fn_X1_freshTrial, fn_X5_has, fn_X6_run])
      simp only [l15]
      exact ⟨⟨_, rfl, hC.1.1.1⟩, ⟨_, _, _, rfl, PL_stc hPL k14, i, by omega, ei⟩, by rw [e]; exact vp_in_nI (by omega) (by decide), ⟨_, _, rfl⟩, hQ⟩
theorem ct_X11_ahead (l : Launch) : Con l yX11_ahead cX11_ahead 5 (Option.some FieldType.int) 4 pre_X11_ahead fn_X11_ahead := con_of (by decide +kernel) ok_X11_ahead len_X11_ahead (fun p e s m args below meth c D ca ad A as M hX hr hp ho => pf_X11_ahead _ _ (bsX11_ahead_0 hX hr) (bsX11_ahead_13 hX hr) (bsX11_ahead_33 hX hr) (bsX11_ahead_36 hX hr) as M ho hp ⟨rfl, rfl⟩)
def c_who (M : mM) (b : Int32) : Int32 × mM := if wi b 0 (M.1 4 0 - 1) = 0 then (-2, M) else (if wi b 0 3 = 0 then -9 else (ro (stc M 14 7) 14 0).2.1 25 b.toNatClampNeg, (ro (stc M 14 7) 14 0).2)
def pre_X11_who (as : List mV) (M : mM) : Prop := ∃ c b, as = [.inr (.inr (11, c)), .inl b] ∧ CI M
def fn_X11_who : List mV → mM → Option mV × mM
  | [.inr (.inr (_, c)), .inl b], M => (some (.inl (c_who M b).1), (c_who M b).2)
  | _, M => (none, M)
theorem ok_X11_who (as : List mV) (M : mM) (h : pre_X11_who as M) (_ : ∀ v ∈ as, okV v) : okR (fn_X11_who as M).1 := by
  obtain ⟨c, b, rfl, -⟩ := h
  first | trivial | exact (by decide +kernel : kof 14 = 8)
theorem len_X11_who (as : List mV) (M : mM) (h : pre_X11_who as M) : (inL as).length ≤ 2 := by
  obtain ⟨c, b, rfl, -⟩ := h
  exact Nat.le_of_ble_eq_true rfl

theorem fl_55 : FLk "FairBlocks" 173 5 0 0 := ⟨RX5, TX5, 5, rfl, inX5, by decide, w_55, by decide, rfl⟩
theorem dX11_who_0 : decode cX11_who 0 = .ok (.iload_n 1, 1) := by decide +kernel
theorem dX11_who_1 : decode cX11_who 1 = .ok (.iconst 0, 1) := by decide +kernel
theorem dX11_who_2 : decode cX11_who 2 = .ok (.aload_n 0, 1) := by decide +kernel
theorem dX11_who_3 : decode cX11_who 3 = .ok (.getfield 27, 3) := by decide +kernel
theorem dX11_who_6 : decode cX11_who 6 = .ok (.getfield 173, 3) := by decide +kernel
theorem dX11_who_9 : decode cX11_who 9 = .ok (.iconst 1, 1) := by decide +kernel
theorem dX11_who_10 : decode cX11_who 10 = .ok (.isub, 1) := by decide +kernel
theorem dX11_who_11 : decode cX11_who 11 = .ok (.invokestatic 85, 3) := by decide +kernel
theorem dX11_who_14 : decode cX11_who 14 = .ok (.ifCond .ne 6, 3) := by decide +kernel
theorem dX11_who_17 : decode cX11_who 17 = .ok (.bipush (-2), 2) := by decide +kernel
theorem dX11_who_19 : decode cX11_who 19 = .ok (.ireturn, 1) := by decide +kernel
theorem dX11_who_20 : decode cX11_who 20 = .ok (.aload_n 0, 1) := by decide +kernel
theorem dX11_who_21 : decode cX11_who 21 = .ok (.getfield 19, 3) := by decide +kernel
theorem dX11_who_24 : decode cX11_who 24 = .ok (.getfield 137, 3) := by decide +kernel
theorem dX11_who_27 : decode cX11_who 27 = .ok (.aload_n 0, 1) := by decide +kernel
theorem dX11_who_28 : decode cX11_who 28 = .ok (.getfield 19, 3) := by decide +kernel
theorem dX11_who_31 : decode cX11_who 31 = .ok (.invokevirtual 169, 3) := by decide +kernel
theorem dX11_who_34 : decode cX11_who 34 = .ok (.iconst 0, 1) := by decide +kernel
theorem dX11_who_35 : decode cX11_who 35 = .ok (.invokevirtual 176, 3) := by decide +kernel
theorem dX11_who_38 : decode cX11_who 38 = .ok (.pop, 1) := by decide +kernel
theorem dX11_who_39 : decode cX11_who 39 = .ok (.aload_n 0, 1) := by decide +kernel
theorem dX11_who_40 : decode cX11_who 40 = .ok (.getfield 19, 3) := by decide +kernel
theorem dX11_who_43 : decode cX11_who 43 = .ok (.getfield 137, 3) := by decide +kernel
theorem dX11_who_46 : decode cX11_who 46 = .ok (.iload_n 1, 1) := by decide +kernel
theorem dX11_who_47 : decode cX11_who 47 = .ok (.invokevirtual 180, 3) := by decide +kernel
theorem dX11_who_50 : decode cX11_who 50 = .ok (.ireturn, 1) := by decide +kernel
theorem mk_X11_who : MVk yX11_who "FairBlocks" cX11_who 2 (Option.some FieldType.int) 1 := ⟨w_514, w_512, w_513, w_1, rfl, by decide +kernel, by decide +kernel, by decide +kernel⟩
def BX11_who_0 (G : Nat → KT) (Q : Option mV → mM → Prop) : KT := (s_iload 1 (s_iconst (0) (s_aload 0 (s_getr 11 5 (fun _ => 4) (s_geti 5 0 (s_iconst (1) (s_bin (fun x y => x - y) (s_callS 3 pre_X11_within fn_X11_within (s_if (fun x => x = 0) ((s_iconst (-2) (s_iret Q))) (s_at G 20 [true, true]))))))))))
set_option maxRecDepth 4000 in
theorem bsX11_who_0 {p : Program} {l : Launch} {e : Env} {s : State} {m : MethodId} {args : Array Value} {below : List Frame} {meth : Method} {c : Code} {D : va_G} {ca : Nat → ClassId} {ad : Nat → Nat} {A : Nat → Prop} {Q : Option mV → mM → Prop} (hX : CX p s m args meth c 2 cX11_who "FairBlocks" D ca ad A) (hr : meth.sig.returnType = (Option.some FieldType.int)) : ∀ lv st M, BX11_who_0 (Gd p l e (rmD 3) s m args below meth c 2 D ca ad A 0 0 (MQ below (QC D ca ad A Q) args s 0 0 A)) Q lv st M → Gd p l e (rmD 3) s m args below meth c 2 D ca ad A 0 0 (MQ below (QC D ca ad A Q) args s 0 0 A) 0 lv st M :=
  (sd_iload_n hX dX11_who_0 rfl (sd_iconst hX dX11_who_1 rfl (sd_aload_n hX dX11_who_2 rfl (sd_getr hX fl_303 (fun _ => rfl) (fun _ _ _ => by decide +kernel) dX11_who_3 (sd_geti hX fl_55 (by decide) dX11_who_6 (sd_iconst hX dX11_who_9 rfl (sd_isub hX dX11_who_10 (sd_callS hX (ct_X11_within l) mk_X11_within w_342 ⟨⟨by decide, by decide⟩, by decide, by decide⟩ dX11_who_11 (sd_if_ne hX dX11_who_14 (by decide) sd_at (sd_bipush hX dX11_who_17 rfl (sd_iret hX hr dX11_who_19)))))))))))
def BX11_who_20 (G : Nat → KT) (Q : Option mV → mM → Prop) : KT := (s_aload 0 (s_getr 11 1 (fun _ => 3) (s_getr 1 6 (fun _ => 21) (s_aload 0 (s_getr 11 1 (fun _ => 3) (s_callV 1 0 pre_X1_freshTrial fn_X1_freshTrial (s_iconst (0) (s_callV 6 2 pre_X6_runOne fn_X6_runOne (s_pop (s_aload 0 (s_getr 11 1 (fun _ => 3) (s_getr 1 6 (fun _ => 21) (s_iload 1 (s_callV 6 1 pre_X6_holderOf fn_X6_holderOf (s_iret Q)))))))))))))))
set_option maxRecDepth 4000 in
theorem bsX11_who_20 {p : Program} {l : Launch} {e : Env} {s : State} {m : MethodId} {args : Array Value} {below : List Frame} {meth : Method} {c : Code} {D : va_G} {ca : Nat → ClassId} {ad : Nat → Nat} {A : Nat → Prop} {Q : Option mV → mM → Prop} (hX : CX p s m args meth c 2 cX11_who "FairBlocks" D ca ad A) (hr : meth.sig.returnType = (Option.some FieldType.int)) : ∀ lv st M, BX11_who_20 (Gd p l e (rmD 3) s m args below meth c 2 D ca ad A 0 0 (MQ below (QC D ca ad A Q) args s 0 0 A)) Q lv st M → Gd p l e (rmD 3) s m args below meth c 2 D ca ad A 0 0 (MQ below (QC D ca ad A Q) args s 0 0 A) 20 lv st M :=
  (sd_aload_n hX dX11_who_20 rfl (sd_getr hX fl_302 (fun _ => rfl) (fun _ _ _ => by decide +kernel) dX11_who_21 (sd_getr hX fl_204 (fun _ => rfl) (fun _ _ _ => by decide +kernel) dX11_who_24 (sd_aload_n hX dX11_who_27 rfl (sd_getr hX fl_302 (fun _ => rfl) (fun _ _ _ => by decide +kernel) dX11_who_28 (sd_callV hX (kd := 1) rfl (by decide) (ct_X1_freshTrial l) mk_X1_freshTrial w_506 ⟨⟨by decide, by decide⟩, by decide, by decide⟩ dX11_who_31 (sd_iconst hX dX11_who_34 rfl (sd_callV hX (kd := 6) rfl (by decide) (ct_X6_runOne l) mk_X6_runOne w_515 ⟨⟨by decide, by decide⟩, by decide, by decide⟩ dX11_who_35 (sd_pop hX dX11_who_38 (sd_aload_n hX dX11_who_39 rfl (sd_getr hX fl_302 (fun _ => rfl) (fun _ _ _ => by decide +kernel) dX11_who_40 (sd_getr hX fl_204 (fun _ => rfl) (fun _ _ _ => by decide +kernel) dX11_who_43 (sd_iload_n hX dX11_who_46 rfl (sd_callV hX (kd := 6) rfl (by decide) (ct_X6_holderOf l) mk_X6_holderOf w_516 ⟨⟨by decide, by decide⟩, by decide, by decide⟩ dX11_who_47 (sd_iret hX hr dX11_who_50)))))))))))))))
set_option maxHeartbeats 400000 in
theorem pf_X11_who (G : Nat → KT) (Q : Option mV → mM → Prop) (h0 : ∀ lv st M, BX11_who_0 G Q lv st M → G 0 lv st M) (h20 : ∀ lv st M, BX11_who_20 G Q lv st M → G 20 lv st M) (as : List mV) (M : mM) (ho : ∀ v ∈ as, okV v) (hp : pre_X11_who as M) (hQ : Q (fn_X11_who as M).1 (fn_X11_who as M).2) : G 0 (inL as ++ List.replicate (2 - (inL as).length) none) [] M := by
  obtain ⟨c, b, rfl, hC⟩ := hp
  simp only [fn_X11_who, c_who] at hQ
  (apply h0; simp only [BX11_who_0, s_mth, s_mab, s_at, s_iconst, s_lconst, s_iload, s_lload, s_aload, s_istore, s_lstore, s_astore, s_iinc, s_bin, s_binG, s_un, s_lbin, s_lbinG, s_lsh, s_lcmp, s_i2l, s_l2i, s_dup, s_dup2, s_pop, s_if, s_icmp, s_geti, s_getl, s_getr, s_puti, s_putz, s_putl, s_iald, s_zald, s_iast, s_zast, s_aaldS, s_aaldU, s_gets, s_tald, s_tsw, tsw, s_iret, s_zret, s_lret, s_aret, s_vret, s_callV, s_callS, c1, nl1, keepL, csum, pushR, inL, List.getD_cons_zero, List.getD_cons_succ, List.set_cons_zero, List.set_cons_succ, List.cons_append, List.nil_append, List.append_nil, List.replicate, List.length_cons, List.length_nil, List.take_succ_cons, List.take_zero, List.drop_succ_cons, List.drop_zero, List.reverse_cons, List.reverse_nil, true_and, and_true, forall_const, not_true_eq_false, not_false_eq_true, false_implies, true_implies, implies_true, one0, m10, Nat.reduceAdd, Nat.reduceSub, Nat.reduceLeDiff, Nat.zero_add, Nat.add_zero, fn_X11_within, fn_X1_freshTrial, fn_X6_holderOf, fn_X6_runOne])
  refine ⟨⟨_, _, _, rfl⟩, fun h => ?_, fun h => ?_⟩
  · rw [if_pos h] at hQ; exact hQ
  · rw [if_neg h] at hQ
    (apply h20; simp only [BX11_who_20, s_mth, s_mab, s_at, s_iconst, s_lconst, s_iload, s_lload, s_aload, s_istore, s_lstore, s_astore, s_iinc, s_bin, s_binG, s_un, s_lbin, s_lbinG, s_lsh, s_lcmp, s_i2l, s_l2i, s_dup, s_dup2, s_pop, s_if, s_icmp, s_geti, s_getl, s_getr, s_puti, s_putz, s_putl, s_iald, s_zald, s_iast, s_zast, s_aaldS, s_aaldU, s_gets, s_tald, s_tsw, tsw, s_iret, s_zret, s_lret, s_aret, s_vret, s_callV, s_callS, c1, nl1, keepL, csum, pushR, inL, List.getD_cons_zero, List.getD_cons_succ, List.set_cons_zero, List.set_cons_succ, List.cons_append, List.nil_append, List.append_nil, List.replicate, List.length_cons, List.length_nil, List.take_succ_cons, List.take_zero, List.drop_succ_cons, List.drop_zero, List.reverse_cons, List.reverse_nil, true_and, and_true, forall_const, not_true_eq_false, not_false_eq_true, false_implies, true_implies, implies_true, one0, m10, Nat.reduceAdd, Nat.reduceSub, Nat.reduceLeDiff, Nat.zero_add, Nat.add_zero, fn_X11_within, fn_X1_freshTrial, fn_X6_holderOf, fn_X6_runOne])
    exact ⟨⟨_, rfl, hC.1.1.1⟩, ⟨_, _, _, rfl, PL_stc hC.1.1.2 k14⟩, ⟨_, _, rfl⟩, hQ⟩
theorem ct_X11_who (l : Launch) : Con l yX11_who cX11_who 2 (Option.some FieldType.int) 3 pre_X11_who fn_X11_who := con_of (by decide +kernel) ok_X11_who len_X11_who (fun p e s m args below meth c D ca ad A as M hX hr hp ho => pf_X11_who _ _ (bsX11_who_0 hX hr) (bsX11_who_20 hX hr) as M ho hp ⟨rfl, rfl⟩)
def c_longest (M : mM) (u n : Int32) : Int32 × mM := if hasI M u = 0 then (-1, M) else if wi n 1 99 = 0 then (-2, M) else lw M u.toNatClampNeg n.toNatClampNeg
def pre_X11_longest (as : List mV) (M : mM) : Prop := ∃ c u n, as = [.inr (.inr (11, c)), .inl u, .inl n] ∧ CI M
def fn_X11_longest : List mV → mM → Option mV × mM
  | [.inr (.inr (_, c)), .inl u, .inl n], M => (some (.inl (c_longest M u n).1), (c_longest M u n).2)
  | _, M => (none, M)
theorem ok_X11_longest (as : List mV) (M : mM) (h : pre_X11_longest as M) (_ : ∀ v ∈ as, okV v) : okR (fn_X11_longest as M).1 := by
  obtain ⟨c, u, n, rfl, -⟩ := h
  first | trivial | exact (by decide +kernel : kof 14 = 8)
theorem len_X11_longest (as : List mV) (M : mM) (h : pre_X11_longest as M) : (inL as).length ≤ 3 := by
  obtain ⟨c, u, n, rfl, -⟩ := h
  exact Nat.le_of_ble_eq_true rfl

theorem fl_308 : FLk "FairBlocks" 56 11 7 7 := ⟨RX11, TX11, 12, rfl, inX11, by decide, w_308, by decide, rfl⟩
theorem dX11_longest_0 : decode cX11_longest 0 = .ok (.aload_n 0, 1) := by decide +kernel
theorem dX11_longest_1 : decode cX11_longest 1 = .ok (.getfield 27, 3) := by decide +kernel
theorem dX11_longest_4 : decode cX11_longest 4 = .ok (.iload_n 1, 1) := by decide +kernel
theorem dX11_longest_5 : decode cX11_longest 5 = .ok (.invokevirtual 113, 3) := by decide +kernel
theorem dX11_longest_8 : decode cX11_longest 8 = .ok (.ifCond .ne 5, 3) := by decide +kernel
theorem dX11_longest_11 : decode cX11_longest 11 = .ok (.iconst (-1), 1) := by decide +kernel
theorem dX11_longest_12 : decode cX11_longest 12 = .ok (.ireturn, 1) := by decide +kernel
theorem dX11_longest_13 : decode cX11_longest 13 = .ok (.iload_n 2, 1) := by decide +kernel
theorem dX11_longest_14 : decode cX11_longest 14 = .ok (.iconst 1, 1) := by decide +kernel
theorem dX11_longest_15 : decode cX11_longest 15 = .ok (.bipush 99, 2) := by decide +kernel
theorem dX11_longest_17 : decode cX11_longest 17 = .ok (.invokestatic 85, 3) := by decide +kernel
theorem dX11_longest_20 : decode cX11_longest 20 = .ok (.ifCond .ne 6, 3) := by decide +kernel
theorem dX11_longest_23 : decode cX11_longest 23 = .ok (.bipush (-2), 2) := by decide +kernel
theorem dX11_longest_25 : decode cX11_longest 25 = .ok (.ireturn, 1) := by decide +kernel
theorem dX11_longest_26 : decode cX11_longest 26 = .ok (.aload_n 0, 1) := by decide +kernel
theorem dX11_longest_27 : decode cX11_longest 27 = .ok (.getfield 56, 3) := by decide +kernel
theorem dX11_longest_30 : decode cX11_longest 30 = .ok (.iload_n 1, 1) := by decide +kernel
theorem dX11_longest_31 : decode cX11_longest 31 = .ok (.iload_n 2, 1) := by decide +kernel
theorem dX11_longest_32 : decode cX11_longest 32 = .ok (.invokevirtual 183, 3) := by decide +kernel
theorem dX11_longest_35 : decode cX11_longest 35 = .ok (.ireturn, 1) := by decide +kernel
theorem mk_X11_longest : MVk yX11_longest "FairBlocks" cX11_longest 3 (Option.some FieldType.int) 2 := ⟨w_524, w_522, w_523, w_1, rfl, by decide +kernel, by decide +kernel, by decide +kernel⟩
def BX11_longest_0 (G : Nat → KT) (Q : Option mV → mM → Prop) : KT := (s_aload 0 (s_getr 11 5 (fun _ => 4) (s_iload 1 (s_callV 5 1 pre_X5_has fn_X5_has (s_if (fun x => x = 0) ((s_iconst (-1) (s_iret Q))) (s_at G 13 [true, true, true]))))))
set_option maxRecDepth 4000 in
theorem bsX11_longest_0 {p : Program} {l : Launch} {e : Env} {s : State} {m : MethodId} {args : Array Value} {below : List Frame} {meth : Method} {c : Code} {D : va_G} {ca : Nat → ClassId} {ad : Nat → Nat} {A : Nat → Prop} {Q : Option mV → mM → Prop} (hX : CX p s m args meth c 3 cX11_longest "FairBlocks" D ca ad A) (hr : meth.sig.returnType = (Option.some FieldType.int)) : ∀ lv st M, BX11_longest_0 (Gd p l e (rmD 4) s m args below meth c 3 D ca ad A 0 0 (MQ below (QC D ca ad A Q) args s 0 0 A)) Q lv st M → Gd p l e (rmD 4) s m args below meth c 3 D ca ad A 0 0 (MQ below (QC D ca ad A Q) args s 0 0 A) 0 lv st M :=
  (sd_aload_n hX dX11_longest_0 rfl (sd_getr hX fl_303 (fun _ => rfl) (fun _ _ _ => by decide +kernel) dX11_longest_1 (sd_iload_n hX dX11_longest_4 rfl (sd_callV hX (kd := 5) rfl (by decide) (ct_X5_has l) mk_X5_has w_397 ⟨⟨by decide, by decide⟩, by decide, by decide⟩ dX11_longest_5 (sd_if_ne hX dX11_longest_8 (by decide) sd_at (sd_iconst hX dX11_longest_11 rfl (sd_iret hX hr dX11_longest_12)))))))
def BX11_longest_13 (G : Nat → KT) (Q : Option mV → mM → Prop) : KT := (s_iload 2 (s_iconst (1) (s_iconst (99) (s_callS 3 pre_X11_within fn_X11_within (s_if (fun x => x = 0) ((s_iconst (-2) (s_iret Q))) (s_at G 26 [true, true, true]))))))
set_option maxRecDepth 4000 in
theorem bsX11_longest_13 {p : Program} {l : Launch} {e : Env} {s : State} {m : MethodId} {args : Array Value} {below : List Frame} {meth : Method} {c : Code} {D : va_G} {ca : Nat → ClassId} {ad : Nat → Nat} {A : Nat → Prop} {Q : Option mV → mM → Prop} (hX : CX p s m args meth c 3 cX11_longest "FairBlocks" D ca ad A) (hr : meth.sig.returnType = (Option.some FieldType.int)) : ∀ lv st M, BX11_longest_13 (Gd p l e (rmD 4) s m args below meth c 3 D ca ad A 0 0 (MQ below (QC D ca ad A Q) args s 0 0 A)) Q lv st M → Gd p l e (rmD 4) s m args below meth c 3 D ca ad A 0 0 (MQ below (QC D ca ad A Q) args s 0 0 A) 13 lv st M :=
  (sd_iload_n hX dX11_longest_13 rfl (sd_iconst hX dX11_longest_14 rfl (sd_bipush hX dX11_longest_15 rfl (sd_callS hX (ct_X11_within l) mk_X11_within w_342 ⟨⟨by decide, by decide⟩, by decide, by decide⟩ dX11_longest_17 (sd_if_ne hX dX11_longest_20 (by decide) sd_at (sd_bipush hX dX11_longest_23 rfl (sd_iret hX hr dX11_longest_25)))))))
def BX11_longest_26 (G : Nat → KT) (Q : Option mV → mM → Prop) : KT := (s_aload 0 (s_getr 11 4 (fun _ => 142) (s_iload 1 (s_iload 2 (s_callV 4 2 pre_X4_longestWait fn_X4_longestWait (s_iret Q))))))
set_option maxRecDepth 4000 in
theorem bsX11_longest_26 {p : Program} {l : Launch} {e : Env} {s : State} {m : MethodId} {args : Array Value} {below : List Frame} {meth : Method} {c : Code} {D : va_G} {ca : Nat → ClassId} {ad : Nat → Nat} {A : Nat → Prop} {Q : Option mV → mM → Prop} (hX : CX p s m args meth c 3 cX11_longest "FairBlocks" D ca ad A) (hr : meth.sig.returnType = (Option.some FieldType.int)) : ∀ lv st M, BX11_longest_26 (Gd p l e (rmD 4) s m args below meth c 3 D ca ad A 0 0 (MQ below (QC D ca ad A Q) args s 0 0 A)) Q lv st M → Gd p l e (rmD 4) s m args below meth c 3 D ca ad A 0 0 (MQ below (QC D ca ad A Q) args s 0 0 A) 26 lv st M :=
  (sd_aload_n hX dX11_longest_26 rfl (sd_getr hX fl_308 (fun _ => rfl) (fun _ _ _ => by decide +kernel) dX11_longest_27 (sd_iload_n hX dX11_longest_30 rfl (sd_iload_n hX dX11_longest_31 rfl (sd_callV hX (kd := 4) rfl (by decide) (ct_X4_longestWait l) mk_X4_longestWait w_525 ⟨⟨by decide, by decide⟩, by decide, by decide⟩ dX11_longest_32 (sd_iret hX hr dX11_longest_35))))))
set_option maxHeartbeats 400000 in
theorem pf_X11_longest (G : Nat → KT) (Q : Option mV → mM → Prop) (h0 : ∀ lv st M, BX11_longest_0 G Q lv st M → G 0 lv st M) (h13 : ∀ lv st M, BX11_longest_13 G Q lv st M → G 13 lv st M) (h26 : ∀ lv st M, BX11_longest_26 G Q lv st M → G 26 lv st M) (as : List mV) (M : mM) (ho : ∀ v ∈ as, okV v) (hp : pre_X11_longest as M) (hQ : Q (fn_X11_longest as M).1 (fn_X11_longest as M).2) : G 0 (inL as ++ List.replicate (3 - (inL as).length) none) [] M := by
  obtain ⟨c, u, n, rfl, hC⟩ := hp
  have hPL := hC.1.1.2
  have hn := n5 hPL
  simp only [fn_X11_longest, c_longest] at hQ
  (apply h0; simp only [BX11_longest_0, s_mth, s_mab, s_at, s_iconst, s_lconst, s_iload, s_lload, s_aload, s_istore, s_lstore, s_astore, s_iinc, s_bin, s_binG, s_un, s_lbin, s_lbinG, s_lsh, s_lcmp, s_i2l, s_l2i, s_dup, s_dup2, s_pop, s_if, s_icmp, s_geti, s_getl, s_getr, s_puti, s_putz, s_putl, s_iald, s_zald, s_iast, s_zast, s_aaldS, s_aaldU, s_gets, s_tald, s_tsw, tsw, s_iret, s_zret, s_lret, s_aret, s_vret, s_callV, s_callS, c1, nl1, keepL, csum, pushR, inL, List.getD_cons_zero, List.getD_cons_succ, List.set_cons_zero, List.set_cons_succ, List.cons_append, List.nil_append, List.append_nil, List.replicate, List.length_cons, List.length_nil, List.take_succ_cons, List.take_zero, List.drop_succ_cons, List.drop_zero, List.reverse_cons, List.reverse_nil, true_and, and_true, forall_const, not_true_eq_false, not_false_eq_true, false_implies, true_implies, implies_true, one0, m10, Nat.reduceAdd, Nat.reduceSub, Nat.reduceLeDiff, Nat.zero_add, Nat.add_zero, fn_X11_within, fn_X4_longestWait, fn_X5_has])
  refine ⟨⟨_, _, rfl⟩, fun h => ?_, fun h => ?_⟩
  · rw [if_pos h] at hQ; exact hQ
  · rw [if_neg h] at hQ
    obtain ⟨j, hj, e⟩ := hasI_1 hPL h
    (apply h13; simp only [BX11_longest_13, s_mth, s_mab, s_at, s_iconst, s_lconst, s_iload, s_lload, s_aload, s_istore, s_lstore, s_astore, s_iinc, s_bin, s_binG, s_un, s_lbin, s_lbinG, s_lsh, s_lcmp, s_i2l, s_l2i, s_dup, s_dup2, s_pop, s_if, s_icmp, s_geti, s_getl, s_getr, s_puti, s_putz, s_putl, s_iald, s_zald, s_iast, s_zast, s_aaldS, s_aaldU, s_gets, s_tald, s_tsw, tsw, s_iret, s_zret, s_lret, s_aret, s_vret, s_callV, s_callS, c1, nl1, keepL, csum, pushR, inL, List.getD_cons_zero, List.getD_cons_succ, List.set_cons_zero, List.set_cons_succ, List.cons_append, List.nil_append, List.append_nil, List.replicate, List.length_cons, List.length_nil, List.take_succ_cons, List.take_zero, List.drop_succ_cons, List.drop_zero, List.reverse_cons, List.reverse_nil, true_and, and_true, forall_const, not_true_eq_false, not_false_eq_true, false_implies, true_implies, implies_true, one0, m10, Nat.reduceAdd, Nat.reduceSub, Nat.reduceLeDiff, Nat.zero_add, Nat.add_zero, fn_X11_within, fn_X4_longestWait, fn_X5_has])
    refine ⟨⟨_, _, _, rfl⟩, fun h2 => ?_, fun h2 => ?_⟩
    · rw [if_pos h2] at hQ; exact hQ
    · rw [if_neg h2] at hQ
      obtain ⟨i, -, h99, ei⟩ := wi_g (d := 1) (c := 99) rfl rfl (by decide) (by decide) h2
      (apply h26; simp only [BX11_longest_26, s_mth, s_mab, s_at, s_iconst, s_lconst, s_iload, s_lload, s_aload, s_istore, s_lstore, s_astore, s_iinc, s_bin, s_binG, s_un, s_lbin, s_lbinG, s_lsh, s_lcmp, s_i2l, s_l2i, s_dup, s_dup2, s_pop, s_if, s_icmp, s_geti, s_getl, s_getr, s_puti, s_putz, s_putl, s_iald, s_zald, s_iast, s_zast, s_aaldS, s_aaldU, s_gets, s_tald, s_tsw, tsw, s_iret, s_zret, s_lret, s_aret, s_vret, s_callV, s_callS, c1, nl1, keepL, csum, pushR, inL, List.getD_cons_zero, List.getD_cons_succ, List.set_cons_zero, List.set_cons_succ, List.cons_append, List.nil_append, List.append_nil, List.replicate, List.length_cons, List.length_nil, List.take_succ_cons, List.take_zero, List.drop_succ_cons, List.drop_zero, List.reverse_cons, List.reverse_nil, true_and, and_true, forall_const, not_true_eq_false, not_false_eq_true, false_implies, true_implies, implies_true, one0, m10, Nat.reduceAdd, Nat.reduceSub, Nat.reduceLeDiff, Nat.zero_add, Nat.add_zero, fn_X11_within, fn_X4_longestWait, fn_X5_has])
      exact ⟨⟨_, _, _, rfl, hC.1.1, ⟨j, by omega, e⟩, i, by omega, ei⟩, hQ⟩
theorem ct_X11_longest (l : Launch) : Con l yX11_longest cX11_longest 3 (Option.some FieldType.int) 4 pre_X11_longest fn_X11_longest := con_of (by decide +kernel) ok_X11_longest len_X11_longest (fun p e s m args below meth c D ca ad A as M hX hr hp ho => pf_X11_longest _ _ (bsX11_longest_0 hX hr) (bsX11_longest_13 hX hr) (bsX11_longest_26 hX hr) as M ho hp ⟨rfl, rfl⟩)
def c_empty (M : mM) (u : Int32) : Int32 × mM := if hasI M u = 0 then (-1, M) else seF M u.toNatClampNeg
def pre_X11_empty (as : List mV) (M : mM) : Prop := ∃ c u, as = [.inr (.inr (11, c)), .inl u] ∧ CI M
def fn_X11_empty : List mV → mM → Option mV × mM
  | [.inr (.inr (_, c)), .inl u], M => (some (.inl (c_empty M u).1), (c_empty M u).2)
  | _, M => (none, M)
theorem ok_X11_empty (as : List mV) (M : mM) (h : pre_X11_empty as M) (_ : ∀ v ∈ as, okV v) : okR (fn_X11_empty as M).1 := by
  obtain ⟨c, u, rfl, -⟩ := h
  first | trivial | exact (by decide +kernel : kof 14 = 8)
theorem len_X11_empty (as : List mV) (M : mM) (h : pre_X11_empty as M) : (inL as).length ≤ 2 := by
  obtain ⟨c, u, rfl, -⟩ := h
  exact Nat.le_of_ble_eq_true rfl


theorem dX11_empty_0 : decode cX11_empty 0 = .ok (.aload_n 0, 1) := by decide +kernel
theorem dX11_empty_1 : decode cX11_empty 1 = .ok (.getfield 27, 3) := by decide +kernel
theorem dX11_empty_4 : decode cX11_empty 4 = .ok (.iload_n 1, 1) := by decide +kernel
theorem dX11_empty_5 : decode cX11_empty 5 = .ok (.invokevirtual 113, 3) := by decide +kernel
theorem dX11_empty_8 : decode cX11_empty 8 = .ok (.ifCond .ne 5, 3) := by decide +kernel
theorem dX11_empty_11 : decode cX11_empty 11 = .ok (.iconst (-1), 1) := by decide +kernel
theorem dX11_empty_12 : decode cX11_empty 12 = .ok (.ireturn, 1) := by decide +kernel
theorem dX11_empty_13 : decode cX11_empty 13 = .ok (.aload_n 0, 1) := by decide +kernel
theorem dX11_empty_14 : decode cX11_empty 14 = .ok (.getfield 56, 3) := by decide +kernel
theorem dX11_empty_17 : decode cX11_empty 17 = .ok (.iload_n 1, 1) := by decide +kernel
theorem dX11_empty_18 : decode cX11_empty 18 = .ok (.invokevirtual 186, 3) := by decide +kernel
theorem dX11_empty_21 : decode cX11_empty 21 = .ok (.ireturn, 1) := by decide +kernel
theorem mk_X11_empty : MVk yX11_empty "FairBlocks" cX11_empty 2 (Option.some FieldType.int) 1 := ⟨w_537, w_535, w_536, w_1, rfl, by decide +kernel, by decide +kernel, by decide +kernel⟩
def BX11_empty_0 (G : Nat → KT) (Q : Option mV → mM → Prop) : KT := (s_aload 0 (s_getr 11 5 (fun _ => 4) (s_iload 1 (s_callV 5 1 pre_X5_has fn_X5_has (s_if (fun x => x = 0) ((s_iconst (-1) (s_iret Q))) (s_at G 13 [true, true]))))))
set_option maxRecDepth 4000 in
theorem bsX11_empty_0 {p : Program} {l : Launch} {e : Env} {s : State} {m : MethodId} {args : Array Value} {below : List Frame} {meth : Method} {c : Code} {D : va_G} {ca : Nat → ClassId} {ad : Nat → Nat} {A : Nat → Prop} {Q : Option mV → mM → Prop} (hX : CX p s m args meth c 2 cX11_empty "FairBlocks" D ca ad A) (hr : meth.sig.returnType = (Option.some FieldType.int)) : ∀ lv st M, BX11_empty_0 (Gd p l e (rmD 4) s m args below meth c 2 D ca ad A 0 0 (MQ below (QC D ca ad A Q) args s 0 0 A)) Q lv st M → Gd p l e (rmD 4) s m args below meth c 2 D ca ad A 0 0 (MQ below (QC D ca ad A Q) args s 0 0 A) 0 lv st M :=
  (sd_aload_n hX dX11_empty_0 rfl (sd_getr hX fl_303 (fun _ => rfl) (fun _ _ _ => by decide +kernel) dX11_empty_1 (sd_iload_n hX dX11_empty_4 rfl (sd_callV hX (kd := 5) rfl (by decide) (ct_X5_has l) mk_X5_has w_397 ⟨⟨by decide, by decide⟩, by decide, by decide⟩ dX11_empty_5 (sd_if_ne hX dX11_empty_8 (by decide) sd_at (sd_iconst hX dX11_empty_11 rfl (sd_iret hX hr dX11_empty_12)))))))
def BX11_empty_13 (G : Nat → KT) (Q : Option mV → mM → Prop) : KT := (s_aload 0 (s_getr 11 4 (fun _ => 142) (s_iload 1 (s_callV 4 1 pre_X4_slotsUntilEmpty fn_X4_slotsUntilEmpty (s_iret Q)))))
set_option maxRecDepth 4000 in
theorem bsX11_empty_13 {p : Program} {l : Launch} {e : Env} {s : State} {m : MethodId} {args : Array Value} {below : List Frame} {meth : Method} {c : Code} {D : va_G} {ca : Nat → ClassId} {ad : Nat → Nat} {A : Nat → Prop} {Q : Option mV → mM → Prop} (hX : CX p s m args meth c 2 cX11_empty "FairBlocks" D ca ad A) (hr : meth.sig.returnType = (Option.some FieldType.int)) : ∀ lv st M, BX11_empty_13 (Gd p l e (rmD 4) s m args below meth c 2 D ca ad A 0 0 (MQ below (QC D ca ad A Q) args s 0 0 A)) Q lv st M → Gd p l e (rmD 4) s m args below meth c 2 D ca ad A 0 0 (MQ below (QC D ca ad A Q) args s 0 0 A) 13 lv st M :=
  (sd_aload_n hX dX11_empty_13 rfl (sd_getr hX fl_308 (fun _ => rfl) (fun _ _ _ => by decide +kernel) dX11_empty_14 (sd_iload_n hX dX11_empty_17 rfl (sd_callV hX (kd := 4) rfl (by decide) (ct_X4_slotsUntilEmpty l) mk_X4_slotsUntilEmpty w_538 ⟨⟨by decide, by decide⟩, by decide, by decide⟩ dX11_empty_18 (sd_iret hX hr dX11_empty_21)))))
set_option maxHeartbeats 400000 in
theorem pf_X11_empty (G : Nat → KT) (Q : Option mV → mM → Prop) (h0 : ∀ lv st M, BX11_empty_0 G Q lv st M → G 0 lv st M) (h13 : ∀ lv st M, BX11_empty_13 G Q lv st M → G 13 lv st M) (as : List mV) (M : mM) (ho : ∀ v ∈ as, okV v) (hp : pre_X11_empty as M) (hQ : Q (fn_X11_empty as M).1 (fn_X11_empty as M).2) : G 0 (inL as ++ List.replicate (2 - (inL as).length) none) [] M := by
  obtain ⟨c, u, rfl, hC⟩ := hp
  have hPL := hC.1.1.2
  have hn := n5 hPL
  simp only [fn_X11_empty, c_empty] at hQ
  (apply h0; simp only [BX11_empty_0, s_mth, s_mab, s_at, s_iconst, s_lconst, s_iload, s_lload, s_aload, s_istore, s_lstore, s_astore, s_iinc, s_bin, s_binG, s_un, s_lbin, s_lbinG, s_lsh, s_lcmp, s_i2l, s_l2i, s_dup, s_dup2, s_pop, s_if, s_icmp, s_geti, s_getl, s_getr, s_puti, s_putz, s_putl, s_iald, s_zald, s_iast, s_zast, s_aaldS, s_aaldU, s_gets, s_tald, s_tsw, tsw, s_iret, s_zret, s_lret, s_aret, s_vret, s_callV, s_callS, c1, nl1, keepL, csum, pushR, inL, List.getD_cons_zero, List.getD_cons_succ, List.set_cons_zero, List.set_cons_succ, List.cons_append, List.nil_append, List.append_nil, List.replicate, List.length_cons, List.length_nil, List.take_succ_cons, List.take_zero, List.drop_succ_cons, List.drop_zero, List.reverse_cons, List.reverse_nil, true_and, and_true, forall_const, not_true_eq_false, not_false_eq_true, false_implies, true_implies, implies_true, one0, m10, Nat.reduceAdd, Nat.reduceSub, Nat.reduceLeDiff, Nat.zero_add, Nat.add_zero, fn_X4_slotsUntilEmpty, fn_X5_has])
  refine ⟨⟨_, _, rfl⟩, fun h => ?_, fun h => ?_⟩
  · rw [if_pos h] at hQ; exact hQ
  · rw [if_neg h] at hQ
    obtain ⟨j, hj, e⟩ := hasI_1 hPL h
    (apply h13; simp only [BX11_empty_13, s_mth, s_mab, s_at, s_iconst, s_lconst, s_iload, s_lload, s_aload, s_istore, s_lstore, s_astore, s_iinc, s_bin, s_binG, s_un, s_lbin, s_lbinG, s_lsh, s_lcmp, s_i2l, s_l2i, s_dup, s_dup2, s_pop, s_if, s_icmp, s_geti, s_getl, s_getr, s_puti, s_putz, s_putl, s_iald, s_zald, s_iast, s_zast, s_aaldS, s_aaldU, s_gets, s_tald, s_tsw, tsw, s_iret, s_zret, s_lret, s_aret, s_vret, s_callV, s_callS, c1, nl1, keepL, csum, pushR, inL, List.getD_cons_zero, List.getD_cons_succ, List.set_cons_zero, List.set_cons_succ, List.cons_append, List.nil_append, List.append_nil, List.replicate, List.length_cons, List.length_nil, List.take_succ_cons, List.take_zero, List.drop_succ_cons, List.drop_zero, List.reverse_cons, List.reverse_nil, true_and, and_true, forall_const, not_true_eq_false, not_false_eq_true, false_implies, true_implies, implies_true, one0, m10, Nat.reduceAdd, Nat.reduceSub, Nat.reduceLeDiff, Nat.zero_add, Nat.add_zero, fn_X4_slotsUntilEmpty, fn_X5_has])
    exact ⟨⟨_, _, rfl, hC.1.1, j, by omega, e⟩, hQ⟩
theorem ct_X11_empty (l : Launch) : Con l yX11_empty cX11_empty 2 (Option.some FieldType.int) 4 pre_X11_empty fn_X11_empty := con_of (by decide +kernel) ok_X11_empty len_X11_empty (fun p e s m args below meth c D ca ad A as M hX hr hp ho => pf_X11_empty _ _ (bsX11_empty_0 hX hr) (bsX11_empty_13 hX hr) as M ho hp ⟨rfl, rfl⟩)
def c_best (M : mM) (u : Int32) : Int32 × mM := if hasI M u = 0 then (-1, M) else ((bw M u.toNatClampNeg).1, (bw M u.toNatClampNeg).2.2)
def pre_X11_best (as : List mV) (M : mM) : Prop := ∃ c u, as = [.inr (.inr (11, c)), .inl u] ∧ CI M
def fn_X11_best : List mV → mM → Option mV × mM
  | [.inr (.inr (_, c)), .inl u], M => (some (.inl (c_best M u).1), (c_best M u).2)
  | _, M => (none, M)
theorem ok_X11_best (as : List mV) (M : mM) (h : pre_X11_best as M) (_ : ∀ v ∈ as, okV v) : okR (fn_X11_best as M).1 := by
  obtain ⟨c, u, rfl, -⟩ := h
  first | trivial | exact (by decide +kernel : kof 14 = 8)
theorem len_X11_best (as : List mV) (M : mM) (h : pre_X11_best as M) : (inL as).length ≤ 2 := by
  obtain ⟨c, u, rfl, -⟩ := h
  exact Nat.le_of_ble_eq_true rfl


theorem dX11_best_0 : decode cX11_best 0 = .ok (.aload_n 0, 1) := by decide +kernel
theorem dX11_best_1 : decode cX11_best 1 = .ok (.getfield 27, 3) := by decide +kernel
theorem dX11_best_4 : decode cX11_best 4 = .ok (.iload_n 1, 1) := by decide +kernel
theorem dX11_best_5 : decode cX11_best 5 = .ok (.invokevirtual 113, 3) := by decide +kernel
theorem dX11_best_8 : decode cX11_best 8 = .ok (.ifCond .ne 5, 3) := by decide +kernel
theorem dX11_best_11 : decode cX11_best 11 = .ok (.iconst (-1), 1) := by decide +kernel
theorem dX11_best_12 : decode cX11_best 12 = .ok (.ireturn, 1) := by decide +kernel
theorem dX11_best_13 : decode cX11_best 13 = .ok (.aload_n 0, 1) := by decide +kernel
theorem dX11_best_14 : decode cX11_best 14 = .ok (.getfield 56, 3) := by decide +kernel
theorem dX11_best_17 : decode cX11_best 17 = .ok (.iload_n 1, 1) := by decide +kernel
theorem dX11_best_18 : decode cX11_best 18 = .ok (.invokevirtual 189, 3) := by decide +kernel
theorem dX11_best_21 : decode cX11_best 21 = .ok (.ireturn, 1) := by decide +kernel
theorem mk_X11_best : MVk yX11_best "FairBlocks" cX11_best 2 (Option.some FieldType.int) 1 := ⟨w_546, w_544, w_545, w_1, rfl, by decide +kernel, by decide +kernel, by decide +kernel⟩
def BX11_best_0 (G : Nat → KT) (Q : Option mV → mM → Prop) : KT := (s_aload 0 (s_getr 11 5 (fun _ => 4) (s_iload 1 (s_callV 5 1 pre_X5_has fn_X5_has (s_if (fun x => x = 0) ((s_iconst (-1) (s_iret Q))) (s_at G 13 [true, true]))))))
set_option maxRecDepth 4000 in
theorem bsX11_best_0 {p : Program} {l : Launch} {e : Env} {s : State} {m : MethodId} {args : Array Value} {below : List Frame} {meth : Method} {c : Code} {D : va_G} {ca : Nat → ClassId} {ad : Nat → Nat} {A : Nat → Prop} {Q : Option mV → mM → Prop} (hX : CX p s m args meth c 2 cX11_best "FairBlocks" D ca ad A) (hr : meth.sig.returnType = (Option.some FieldType.int)) : ∀ lv st M, BX11_best_0 (Gd p l e (rmD 5) s m args below meth c 2 D ca ad A 0 0 (MQ below (QC D ca ad A Q) args s 0 0 A)) Q lv st M → Gd p l e (rmD 5) s m args below meth c 2 D ca ad A 0 0 (MQ below (QC D ca ad A Q) args s 0 0 A) 0 lv st M :=
  (sd_aload_n hX dX11_best_0 rfl (sd_getr hX fl_303 (fun _ => rfl) (fun _ _ _ => by decide +kernel) dX11_best_1 (sd_iload_n hX dX11_best_4 rfl (sd_callV hX (kd := 5) rfl (by decide) (ct_X5_has l) mk_X5_has w_397 ⟨⟨by decide, by decide⟩, by decide, by decide⟩ dX11_best_5 (sd_if_ne hX dX11_best_8 (by decide) sd_at (sd_iconst hX dX11_best_11 rfl (sd_iret hX hr dX11_best_12)))))))
def BX11_best_13 (G : Nat → KT) (Q : Option mV → mM → Prop) : KT := (s_aload 0 (s_getr 11 4 (fun _ => 142) (s_iload 1 (s_callV 4 1 pre_X4_bestWeight fn_X4_bestWeight (s_iret Q)))))
set_option maxRecDepth 4000 in
theorem bsX11_best_13 {p : Program} {l : Launch} {e : Env} {s : State} {m : MethodId} {args : Array Value} {below : List Frame} {meth : Method} {c : Code} {D : va_G} {ca : Nat → ClassId} {ad : Nat → Nat} {A : Nat → Prop} {Q : Option mV → mM → Prop} (hX : CX p s m args meth c 2 cX11_best "FairBlocks" D ca ad A) (hr : meth.sig.returnType = (Option.some FieldType.int)) : ∀ lv st M, BX11_best_13 (Gd p l e (rmD 5) s m args below meth c 2 D ca ad A 0 0 (MQ below (QC D ca ad A Q) args s 0 0 A)) Q lv st M → Gd p l e (rmD 5) s m args below meth c 2 D ca ad A 0 0 (MQ below (QC D ca ad A Q) args s 0 0 A) 13 lv st M :=
  (sd_aload_n hX dX11_best_13 rfl (sd_getr hX fl_308 (fun _ => rfl) (fun _ _ _ => by decide +kernel) dX11_best_14 (sd_iload_n hX dX11_best_17 rfl (sd_callV hX (kd := 4) rfl (by decide) (ct_X4_bestWeight l) mk_X4_bestWeight w_547 ⟨⟨by decide, by decide⟩, by decide, by decide⟩ dX11_best_18 (sd_iret hX hr dX11_best_21)))))
set_option maxHeartbeats 400000 in
theorem pf_X11_best (G : Nat → KT) (Q : Option mV → mM → Prop) (h0 : ∀ lv st M, BX11_best_0 G Q lv st M → G 0 lv st M) (h13 : ∀ lv st M, BX11_best_13 G Q lv st M → G 13 lv st M) (as : List mV) (M : mM) (ho : ∀ v ∈ as, okV v) (hp : pre_X11_best as M) (hQ : Q (fn_X11_best as M).1 (fn_X11_best as M).2) : G 0 (inL as ++ List.replicate (2 - (inL as).length) none) [] M := by
  obtain ⟨c, u, rfl, hC⟩ := hp
  have hPL := hC.1.1.2
  have hn := n5 hPL
  simp only [fn_X11_best, c_best] at hQ
  (apply h0; simp only [BX11_best_0, s_mth, s_mab, s_at, s_iconst, s_lconst, s_iload, s_lload, s_aload, s_istore, s_lstore, s_astore, s_iinc, s_bin, s_binG, s_un, s_lbin, s_lbinG, s_lsh, s_lcmp, s_i2l, s_l2i, s_dup, s_dup2, s_pop, s_if, s_icmp, s_geti, s_getl, s_getr, s_puti, s_putz, s_putl, s_iald, s_zald, s_iast, s_zast, s_aaldS, s_aaldU, s_gets, s_tald, s_tsw, tsw, s_iret, s_zret, s_lret, s_aret, s_vret, s_callV, s_callS, c1, nl1, keepL, csum, pushR, inL, List.getD_cons_zero, List.getD_cons_succ, List.set_cons_zero, List.set_cons_succ, List.cons_append, List.nil_append, List.append_nil, List.replicate, List.length_cons, List.length_nil, List.take_succ_cons, List.take_zero, List.drop_succ_cons, List.drop_zero, List.reverse_cons, List.reverse_nil, true_and, and_true, forall_const, not_true_eq_false, not_false_eq_true, false_implies, true_implies, implies_true, one0, m10, Nat.reduceAdd, Nat.reduceSub, Nat.reduceLeDiff, Nat.zero_add, Nat.add_zero, fn_X4_bestWeight, fn_X5_has])
  refine ⟨⟨_, _, rfl⟩, fun h => ?_, fun h => ?_⟩
  · rw [if_pos h] at hQ; exact hQ
  · rw [if_neg h] at hQ
    obtain ⟨j, hj, e⟩ := hasI_1 hPL h
    (apply h13; simp only [BX11_best_13, s_mth, s_mab, s_at, s_iconst, s_lconst, s_iload, s_lload, s_aload, s_istore, s_lstore, s_astore, s_iinc, s_bin, s_binG, s_un, s_lbin, s_lbinG, s_lsh, s_lcmp, s_i2l, s_l2i, s_dup, s_dup2, s_pop, s_if, s_icmp, s_geti, s_getl, s_getr, s_puti, s_putz, s_putl, s_iald, s_zald, s_iast, s_zast, s_aaldS, s_aaldU, s_gets, s_tald, s_tsw, tsw, s_iret, s_zret, s_lret, s_aret, s_vret, s_callV, s_callS, c1, nl1, keepL, csum, pushR, inL, List.getD_cons_zero, List.getD_cons_succ, List.set_cons_zero, List.set_cons_succ, List.cons_append, List.nil_append, List.append_nil, List.replicate, List.length_cons, List.length_nil, List.take_succ_cons, List.take_zero, List.drop_succ_cons, List.drop_zero, List.reverse_cons, List.reverse_nil, true_and, and_true, forall_const, not_true_eq_false, not_false_eq_true, false_implies, true_implies, implies_true, one0, m10, Nat.reduceAdd, Nat.reduceSub, Nat.reduceLeDiff, Nat.zero_add, Nat.add_zero, fn_X4_bestWeight, fn_X5_has])
    simp only at hQ
    exact ⟨⟨_, _, rfl, hC.1.1, j, by omega, e⟩, hQ⟩
theorem ct_X11_best (l : Launch) : Con l yX11_best cX11_best 2 (Option.some FieldType.int) 5 pre_X11_best fn_X11_best := con_of (by decide +kernel) ok_X11_best len_X11_best (fun p e s m args below meth c D ca ad A as M hX hr hp ho => pf_X11_best _ _ (bsX11_best_0 hX hr) (bsX11_best_13 hX hr) as M ho hp ⟨rfl, rfl⟩)
theorem cmp0 {x y : Int64} : lg_cmp x y < 0 ↔ x < y := by
  unfold lg_cmp
  split
  · next h =>
    constructor
    · intro g; exact absurd g (by decide)
    · intro g; rw [gt_iff_lt, Int64.lt_iff_toInt_lt] at h; rw [Int64.lt_iff_toInt_lt] at g; omega
  · next h =>
    split
    · next e =>
      subst e
      constructor
      · intro g; exact absurd g (by decide)
      · intro g; rw [Int64.lt_iff_toInt_lt] at g; omega
    · next e =>
      constructor
      · intro _
        rw [gt_iff_lt, Int64.lt_iff_toInt_lt] at h
        rw [Int64.lt_iff_toInt_lt]
        have : x.toInt ≠ y.toInt := fun g => e (Int64.toInt_inj.mp g)
        omega
      · intro _; decide
def c_judge (M : mM) (n : Int32) (row : Int64) : Int32 × mM := if wi n 1 4 = 0 then (-2, M) else if row < 0 then (-2, M) else if row < uo n.toNatClampNeg then fwL row n.toNatClampNeg n.toNatClampNeg 0 (stc M 14 7) else (-2, M)
def pre_X11_judge (as : List mV) (M : mM) : Prop := ∃ c n row, as = [.inr (.inr (11, c)), .inl n, .inr (.inl row)] ∧ CI M
def fn_X11_judge : List mV → mM → Option mV × mM
  | [.inr (.inr (_, c)), .inl n, .inr (.inl row)], M => (some (.inl (c_judge M n row).1), (c_judge M n row).2)
  | _, M => (none, M)
theorem ok_X11_judge (as : List mV) (M : mM) (h : pre_X11_judge as M) (_ : ∀ v ∈ as, okV v) : okR (fn_X11_judge as M).1 := by
  obtain ⟨c, n, row, rfl, -⟩ := h
  first | trivial | exact (by decide +kernel : kof 14 = 8)
theorem len_X11_judge (as : List mV) (M : mM) (h : pre_X11_judge as M) : (inL as).length ≤ 4 := by
  obtain ⟨c, n, row, rfl, -⟩ := h
  exact Nat.le_of_ble_eq_true rfl

theorem fl_309 : FLk "FairBlocks" 63 11 8 6 := ⟨RX11, TX11, 12, rfl, inX11, by decide, w_309, by decide, rfl⟩
theorem dX11_judge_0 : decode cX11_judge 0 = .ok (.iload_n 1, 1) := by decide +kernel
theorem dX11_judge_1 : decode cX11_judge 1 = .ok (.iconst 1, 1) := by decide +kernel
theorem dX11_judge_2 : decode cX11_judge 2 = .ok (.iconst 4, 1) := by decide +kernel
theorem dX11_judge_3 : decode cX11_judge 3 = .ok (.invokestatic 85, 3) := by decide +kernel
theorem dX11_judge_6 : decode cX11_judge 6 = .ok (.ifCond .eq 18, 3) := by decide +kernel
theorem dX11_judge_9 : decode cX11_judge 9 = .ok (.lload_n 2, 1) := by decide +kernel
theorem dX11_judge_10 : decode cX11_judge 10 = .ok (.lconst 0, 1) := by decide +kernel
theorem dX11_judge_11 : decode cX11_judge 11 = .ok (.lcmp, 1) := by decide +kernel
theorem dX11_judge_12 : decode cX11_judge 12 = .ok (.ifCond .lt 12, 3) := by decide +kernel
theorem dX11_judge_15 : decode cX11_judge 15 = .ok (.lload_n 2, 1) := by decide +kernel
theorem dX11_judge_16 : decode cX11_judge 16 = .ok (.iload_n 1, 1) := by decide +kernel
theorem dX11_judge_17 : decode cX11_judge 17 = .ok (.invokestatic 192, 3) := by decide +kernel
theorem dX11_judge_20 : decode cX11_judge 20 = .ok (.lcmp, 1) := by decide +kernel
theorem dX11_judge_21 : decode cX11_judge 21 = .ok (.ifCond .lt 6, 3) := by decide +kernel
theorem dX11_judge_24 : decode cX11_judge 24 = .ok (.bipush (-2), 2) := by decide +kernel
theorem dX11_judge_26 : decode cX11_judge 26 = .ok (.ireturn, 1) := by decide +kernel
theorem dX11_judge_27 : decode cX11_judge 27 = .ok (.aload_n 0, 1) := by decide +kernel
theorem dX11_judge_28 : decode cX11_judge 28 = .ok (.getfield 63, 3) := by decide +kernel
theorem dX11_judge_31 : decode cX11_judge 31 = .ok (.iload_n 1, 1) := by decide +kernel
theorem dX11_judge_32 : decode cX11_judge 32 = .ok (.lload_n 2, 1) := by decide +kernel
theorem dX11_judge_33 : decode cX11_judge 33 = .ok (.invokevirtual 196, 3) := by decide +kernel
theorem dX11_judge_36 : decode cX11_judge 36 = .ok (.ireturn, 1) := by decide +kernel
theorem mk_X11_judge : MVk yX11_judge "FairBlocks" cX11_judge 4 (Option.some FieldType.int) 2 := ⟨w_560, w_558, w_559, w_1, rfl, by decide +kernel, by decide +kernel, by decide +kernel⟩
def BX11_judge_0 (G : Nat → KT) (Q : Option mV → mM → Prop) : KT := (s_iload 1 (s_iconst (1) (s_iconst (4) (s_callS 3 pre_X11_within fn_X11_within (s_if (fun x => x = 0) (s_at G 24 [false, false, false, false]) (s_lload 2 (s_lconst 0 (s_lcmp (s_if (fun x => x < 0) (s_at G 24 [false, false, false, false]) (s_lload 2 (s_iload 1 (s_callS 1 pre_X3_leastTooLong fn_X3_leastTooLong (s_lcmp (s_if (fun x => x < 0) (s_at G 27 [true, true, true, false]) (s_at G 24 [false, false, false, false])))))))))))))))
set_option maxRecDepth 4000 in
theorem bsX11_judge_0 {p : Program} {l : Launch} {e : Env} {s : State} {m : MethodId} {args : Array Value} {below : List Frame} {meth : Method} {c : Code} {D : va_G} {ca : Nat → ClassId} {ad : Nat → Nat} {A : Nat → Prop} {Q : Option mV → mM → Prop} (hX : CX p s m args meth c 4 cX11_judge "FairBlocks" D ca ad A) (hr : meth.sig.returnType = (Option.some FieldType.int)) : ∀ lv st M, BX11_judge_0 (Gd p l e (rmD 6) s m args below meth c 4 D ca ad A 0 0 (MQ below (QC D ca ad A Q) args s 0 0 A)) Q lv st M → Gd p l e (rmD 6) s m args below meth c 4 D ca ad A 0 0 (MQ below (QC D ca ad A Q) args s 0 0 A) 0 lv st M :=
  (sd_iload_n hX dX11_judge_0 rfl (sd_iconst hX dX11_judge_1 rfl (sd_iconst hX dX11_judge_2 rfl (sd_callS hX (ct_X11_within l) mk_X11_within w_342 ⟨⟨by decide, by decide⟩, by decide, by decide⟩ dX11_judge_3 (sd_if_eq hX dX11_judge_6 (by decide) sd_at (sd_lload_n hX dX11_judge_9 rfl (sd_lconst hX dX11_judge_10 rfl (sd_lcmp hX dX11_judge_11 (sd_if_lt hX dX11_judge_12 (by decide) sd_at (sd_lload_n hX dX11_judge_15 rfl (sd_iload_n hX dX11_judge_16 rfl (sd_callS hX (ct_X3_leastTooLong l) mk_X3_leastTooLong w_561 ⟨⟨by decide, by decide⟩, by decide, by decide⟩ dX11_judge_17 (sd_lcmp hX dX11_judge_20 (sd_if_lt hX dX11_judge_21 (by decide) sd_at sd_at))))))))))))))
def BX11_judge_24 (G : Nat → KT) (Q : Option mV → mM → Prop) : KT := (s_iconst (-2) (s_iret Q))
set_option maxRecDepth 4000 in
theorem bsX11_judge_24 {p : Program} {l : Launch} {e : Env} {s : State} {m : MethodId} {args : Array Value} {below : List Frame} {meth : Method} {c : Code} {D : va_G} {ca : Nat → ClassId} {ad : Nat → Nat} {A : Nat → Prop} {Q : Option mV → mM → Prop} (hX : CX p s m args meth c 4 cX11_judge "FairBlocks" D ca ad A) (hr : meth.sig.returnType = (Option.some FieldType.int)) : ∀ lv st M, BX11_judge_24 (Gd p l e (rmD 6) s m args below meth c 4 D ca ad A 0 0 (MQ below (QC D ca ad A Q) args s 0 0 A)) Q lv st M → Gd p l e (rmD 6) s m args below meth c 4 D ca ad A 0 0 (MQ below (QC D ca ad A Q) args s 0 0 A) 24 lv st M :=
  (sd_bipush hX dX11_judge_24 rfl (sd_iret hX hr dX11_judge_26))
def BX11_judge_27 (G : Nat → KT) (Q : Option mV → mM → Prop) : KT := (s_aload 0 (s_getr 11 3 (fun _ => 143) (s_iload 1 (s_lload 2 (s_callV 3 2 pre_X3_firstWrong fn_X3_firstWrong (s_iret Q))))))
set_option maxRecDepth 4000 in
theorem bsX11_judge_27 {p : Program} {l : Launch} {e : Env} {s : State} {m : MethodId} {args : Array Value} {below : List Frame} {meth : Method} {c : Code} {D : va_G} {ca : Nat → ClassId} {ad : Nat → Nat} {A : Nat → Prop} {Q : Option mV → mM → Prop} (hX : CX p s m args meth c 4 cX11_judge "FairBlocks" D ca ad A) (hr : meth.sig.returnType = (Option.some FieldType.int)) : ∀ lv st M, BX11_judge_27 (Gd p l e (rmD 6) s m args below meth c 4 D ca ad A 0 0 (MQ below (QC D ca ad A Q) args s 0 0 A)) Q lv st M → Gd p l e (rmD 6) s m args below meth c 4 D ca ad A 0 0 (MQ below (QC D ca ad A Q) args s 0 0 A) 27 lv st M :=
  (sd_aload_n hX dX11_judge_27 rfl (sd_getr hX fl_309 (fun _ => rfl) (fun _ _ _ => by decide +kernel) dX11_judge_28 (sd_iload_n hX dX11_judge_31 rfl (sd_lload_n hX dX11_judge_32 rfl (sd_callV hX (kd := 3) rfl (by decide) (ct_X3_firstWrong l) mk_X3_firstWrong w_565 ⟨⟨by decide, by decide⟩, by decide, by decide⟩ dX11_judge_33 (sd_iret hX hr dX11_judge_36))))))
set_option maxHeartbeats 400000 in
theorem pf_X11_judge (G : Nat → KT) (Q : Option mV → mM → Prop) (h0 : ∀ lv st M, BX11_judge_0 G Q lv st M → G 0 lv st M) (h24 : ∀ lv st M, BX11_judge_24 G Q lv st M → G 24 lv st M) (h27 : ∀ lv st M, BX11_judge_27 G Q lv st M → G 27 lv st M) (as : List mV) (M : mM) (ho : ∀ v ∈ as, okV v) (hp : pre_X11_judge as M) (hQ : Q (fn_X11_judge as M).1 (fn_X11_judge as M).2) : G 0 (inL as ++ List.replicate (4 - (inL as).length) none) [] M := by
  obtain ⟨c, n, row, rfl, hC⟩ := hp
  simp only [fn_X11_judge, c_judge] at hQ
  have F : Q (some (.inl (-2))) M → G 24 [none, none, none, none] [] M := by
    intro hQ
    (apply h24; simp only [BX11_judge_24, s_mth, s_mab, s_at, s_iconst, s_lconst, s_iload, s_lload, s_aload, s_istore, s_lstore, s_astore, s_iinc, s_bin, s_binG, s_un, s_lbin, s_lbinG, s_lsh, s_lcmp, s_i2l, s_l2i, s_dup, s_dup2, s_pop, s_if, s_icmp, s_geti, s_getl, s_getr, s_puti, s_putz, s_putl, s_iald, s_zald, s_iast, s_zast, s_aaldS, s_aaldU, s_gets, s_tald, s_tsw, tsw, s_iret, s_zret, s_lret, s_aret, s_vret, s_callV, s_callS, c1, nl1, keepL, csum, pushR, inL, List.getD_cons_zero, List.getD_cons_succ, List.set_cons_zero, List.set_cons_succ, List.cons_append, List.nil_append, List.append_nil, List.replicate, List.length_cons, List.length_nil, List.take_succ_cons, List.take_zero, List.drop_succ_cons, List.drop_zero, List.reverse_cons, List.reverse_nil, true_and, and_true, forall_const, not_true_eq_false, not_false_eq_true, false_implies, true_implies, implies_true, one0, m10, Nat.reduceAdd, Nat.reduceSub, Nat.reduceLeDiff, Nat.zero_add, Nat.add_zero, fn_X11_within, fn_X3_firstWrong, fn_X3_leastTooLong])
    exact hQ
  (apply h0; simp only [BX11_judge_0, s_mth, s_mab, s_at, s_iconst, s_lconst, s_iload, s_lload, s_aload, s_istore, s_lstore, s_astore, s_iinc, s_bin, s_binG, s_un, s_lbin, s_lbinG, s_lsh, s_lcmp, s_i2l, s_l2i, s_dup, s_dup2, s_pop, s_if, s_icmp, s_geti, s_getl, s_getr, s_puti, s_putz, s_putl, s_iald, s_zald, s_iast, s_zast, s_aaldS, s_aaldU, s_gets, s_tald, s_tsw, tsw, s_iret, s_zret, s_lret, s_aret, s_vret, s_callV, s_callS, c1, nl1, keepL, csum, pushR, inL, List.getD_cons_zero, List.getD_cons_succ, List.set_cons_zero, List.set_cons_succ, List.cons_append, List.nil_append, List.append_nil, List.replicate, List.length_cons, List.length_nil, List.take_succ_cons, List.take_zero, List.drop_succ_cons, List.drop_zero, List.reverse_cons, List.reverse_nil, true_and, and_true, forall_const, not_true_eq_false, not_false_eq_true, false_implies, true_implies, implies_true, one0, m10, Nat.reduceAdd, Nat.reduceSub, Nat.reduceLeDiff, Nat.zero_add, Nat.add_zero, fn_X11_within, fn_X3_firstWrong, fn_X3_leastTooLong])
  simp only [cmp0]
  refine ⟨⟨_, _, _, rfl⟩, fun h => ?_, fun h => ?_⟩
  · rw [if_pos h] at hQ; exact F hQ
  · rw [if_neg h] at hQ
    obtain ⟨i, h1, h4, ei⟩ := wi_g (d := 1) (c := 4) rfl rfl (by decide) (by decide) h
    refine ⟨fun h2 => ?_, fun h2 => ⟨⟨_, rfl, i, h4, ei⟩, fun h3 => ?_, fun h3 => ?_⟩⟩
    · rw [if_pos h2] at hQ; exact F hQ
    · rw [if_neg h2, if_pos h3] at hQ
      obtain ⟨r, hr, e⟩ := pk_lOf h2
      have hu := uo_v i h4
      have hr2 : r < 10 ^ 12 := by
        rw [e, ei, nI_clamp (by omega), hu.1] at h3
        have h5 := (pk_lLT hr hu.2.2.1).mp h3
        have : 1000 ^ i ≤ 1000 ^ 4 := Nat.pow_le_pow_right (by decide) h4
        omega
      (apply h27; simp only [BX11_judge_27, s_mth, s_mab, s_at, s_iconst, s_lconst, s_iload, s_lload, s_aload, s_istore, s_lstore, s_astore, s_iinc, s_bin, s_binG, s_un, s_lbin, s_lbinG, s_lsh, s_lcmp, s_i2l, s_l2i, s_dup, s_dup2, s_pop, s_if, s_icmp, s_geti, s_getl, s_getr, s_puti, s_putz, s_putl, s_iald, s_zald, s_iast, s_zast, s_aaldS, s_aaldU, s_gets, s_tald, s_tsw, tsw, s_iret, s_zret, s_lret, s_aret, s_vret, s_callV, s_callS, c1, nl1, keepL, csum, pushR, inL, List.getD_cons_zero, List.getD_cons_succ, List.set_cons_zero, List.set_cons_succ, List.cons_append, List.nil_append, List.append_nil, List.replicate, List.length_cons, List.length_nil, List.take_succ_cons, List.take_zero, List.drop_succ_cons, List.drop_zero, List.reverse_cons, List.reverse_nil, true_and, and_true, forall_const, not_true_eq_false, not_false_eq_true, false_implies, true_implies, implies_true, one0, m10, Nat.reduceAdd, Nat.reduceSub, Nat.reduceLeDiff, Nat.zero_add, Nat.add_zero, fn_X11_within, fn_X3_firstWrong, fn_X3_leastTooLong])
      exact ⟨⟨_, _, _, rfl, hC.1.1, ⟨i, h4, ei⟩, r, hr2, e⟩, hQ⟩
    · rw [if_neg h2, if_neg h3] at hQ; exact F hQ
theorem ct_X11_judge (l : Launch) : Con l yX11_judge cX11_judge 4 (Option.some FieldType.int) 6 pre_X11_judge fn_X11_judge := con_of (by decide +kernel) ok_X11_judge len_X11_judge (fun p e s m args below meth c D ca ad A as M hX hr hp ho => pf_X11_judge _ _ (bsX11_judge_0 hX hr) (bsX11_judge_24 hX hr) (bsX11_judge_27 hX hr) as M ho hp ⟨rfl, rfl⟩)
def c_see (M : mM) (n u w v s : Int32) : Int32 × mM := if hasI M u = 0 then (-1, M) else if wi n 0 9 = 0 then (-2, M) else if wi w 0 1 = 0 then (-2, M) else if wi v 0 99 = 0 then (-2, M) else if wi s 0 1 = 0 then (-2, M) else if M.1 151 6 < 6 then ((adS M n u w v s).1 151 6, adS M n u w v s) else (-4, M)
def pre_X11_see (as : List mV) (M : mM) : Prop := ∃ c n u w v s, as = [.inr (.inr (11, c)), .inl n, .inl u, .inl w, .inl v, .inl s] ∧ CI M
def fn_X11_see : List mV → mM → Option mV × mM
  | [.inr (.inr (_, c)), .inl n, .inl u, .inl w, .inl v, .inl s], M => (some (.inl (c_see M n u w v s).1), (c_see M n u w v s).2)
  | _, M => (none, M)
theorem ok_X11_see (as : List mV) (M : mM) (h : pre_X11_see as M) (_ : ∀ v ∈ as, okV v) : okR (fn_X11_see as M).1 := by
  obtain ⟨c, n, u, w, v, s, rfl, -⟩ := h
  first | trivial | exact (by decide +kernel : kof 14 = 8)
theorem len_X11_see (as : List mV) (M : mM) (h : pre_X11_see as M) : (inL as).length ≤ 6 := by
  obtain ⟨c, n, u, w, v, s, rfl, -⟩ := h
  exact Nat.le_of_ble_eq_true rfl

theorem fl_275 : FLk "FairBlocks" 200 7 6 0 := ⟨RX7, TX7, 7, rfl, inX7, by decide, w_275, by decide, rfl⟩
theorem fl_310 : FLk "FairBlocks" 70 11 9 10 := ⟨RX11, TX11, 12, rfl, inX11, by decide, w_310, by decide, rfl⟩
theorem dX11_see_0 : decode cX11_see 0 = .ok (.aload_n 0, 1) := by decide +kernel
theorem dX11_see_1 : decode cX11_see 1 = .ok (.getfield 27, 3) := by decide +kernel
theorem dX11_see_4 : decode cX11_see 4 = .ok (.iload_n 2, 1) := by decide +kernel
theorem dX11_see_5 : decode cX11_see 5 = .ok (.invokevirtual 113, 3) := by decide +kernel
theorem dX11_see_8 : decode cX11_see 8 = .ok (.ifCond .ne 5, 3) := by decide +kernel
theorem dX11_see_11 : decode cX11_see 11 = .ok (.iconst (-1), 1) := by decide +kernel
theorem dX11_see_12 : decode cX11_see 12 = .ok (.ireturn, 1) := by decide +kernel
theorem dX11_see_13 : decode cX11_see 13 = .ok (.iload_n 1, 1) := by decide +kernel
theorem dX11_see_14 : decode cX11_see 14 = .ok (.iconst 0, 1) := by decide +kernel
theorem dX11_see_15 : decode cX11_see 15 = .ok (.bipush 9, 2) := by decide +kernel
theorem dX11_see_17 : decode cX11_see 17 = .ok (.invokestatic 85, 3) := by decide +kernel
theorem dX11_see_20 : decode cX11_see 20 = .ok (.ifCond .eq 33, 3) := by decide +kernel
theorem dX11_see_23 : decode cX11_see 23 = .ok (.iload_n 3, 1) := by decide +kernel
theorem dX11_see_24 : decode cX11_see 24 = .ok (.iconst 0, 1) := by decide +kernel
theorem dX11_see_25 : decode cX11_see 25 = .ok (.iconst 1, 1) := by decide +kernel
theorem dX11_see_26 : decode cX11_see 26 = .ok (.invokestatic 85, 3) := by decide +kernel
theorem dX11_see_29 : decode cX11_see 29 = .ok (.ifCond .eq 24, 3) := by decide +kernel
theorem dX11_see_32 : decode cX11_see 32 = .ok (.iload 4, 2) := by decide +kernel
theorem dX11_see_34 : decode cX11_see 34 = .ok (.iconst 0, 1) := by decide +kernel
theorem dX11_see_35 : decode cX11_see 35 = .ok (.bipush 99, 2) := by decide +kernel
theorem dX11_see_37 : decode cX11_see 37 = .ok (.invokestatic 85, 3) := by decide +kernel
theorem dX11_see_40 : decode cX11_see 40 = .ok (.ifCond .eq 13, 3) := by decide +kernel
theorem dX11_see_43 : decode cX11_see 43 = .ok (.iload 5, 2) := by decide +kernel
theorem dX11_see_45 : decode cX11_see 45 = .ok (.iconst 0, 1) := by decide +kernel
theorem dX11_see_46 : decode cX11_see 46 = .ok (.iconst 1, 1) := by decide +kernel
theorem dX11_see_47 : decode cX11_see 47 = .ok (.invokestatic 85, 3) := by decide +kernel
theorem dX11_see_50 : decode cX11_see 50 = .ok (.ifCond .ne 6, 3) := by decide +kernel
theorem dX11_see_53 : decode cX11_see 53 = .ok (.bipush (-2), 2) := by decide +kernel
theorem dX11_see_55 : decode cX11_see 55 = .ok (.ireturn, 1) := by decide +kernel
theorem dX11_see_56 : decode cX11_see 56 = .ok (.aload_n 0, 1) := by decide +kernel
theorem dX11_see_57 : decode cX11_see 57 = .ok (.getfield 70, 3) := by decide +kernel
theorem dX11_see_60 : decode cX11_see 60 = .ok (.getfield 200, 3) := by decide +kernel
theorem dX11_see_63 : decode cX11_see 63 = .ok (.bipush 6, 2) := by decide +kernel
theorem dX11_see_65 : decode cX11_see 65 = .ok (.if_icmp .lt 6, 3) := by decide +kernel
theorem dX11_see_68 : decode cX11_see 68 = .ok (.bipush (-4), 2) := by decide +kernel
theorem dX11_see_70 : decode cX11_see 70 = .ok (.ireturn, 1) := by decide +kernel
theorem dX11_see_71 : decode cX11_see 71 = .ok (.aload_n 0, 1) := by decide +kernel
theorem dX11_see_72 : decode cX11_see 72 = .ok (.getfield 70, 3) := by decide +kernel
theorem dX11_see_75 : decode cX11_see 75 = .ok (.iload_n 1, 1) := by decide +kernel
theorem dX11_see_76 : decode cX11_see 76 = .ok (.iload_n 2, 1) := by decide +kernel
theorem dX11_see_77 : decode cX11_see 77 = .ok (.iload_n 3, 1) := by decide +kernel
theorem dX11_see_78 : decode cX11_see 78 = .ok (.iload 4, 2) := by decide +kernel
theorem dX11_see_80 : decode cX11_see 80 = .ok (.iload 5, 2) := by decide +kernel
theorem dX11_see_82 : decode cX11_see 82 = .ok (.invokevirtual 201, 3) := by decide +kernel
theorem dX11_see_85 : decode cX11_see 85 = .ok (.aload_n 0, 1) := by decide +kernel
theorem dX11_see_86 : decode cX11_see 86 = .ok (.getfield 70, 3) := by decide +kernel
theorem dX11_see_89 : decode cX11_see 89 = .ok (.getfield 200, 3) := by decide +kernel
theorem dX11_see_92 : decode cX11_see 92 = .ok (.ireturn, 1) := by decide +kernel
theorem mk_X11_see : MVk yX11_see "FairBlocks" cX11_see 6 (Option.some FieldType.int) 5 := ⟨w_597, w_595, w_596, w_1, rfl, by decide +kernel, by decide +kernel, by decide +kernel⟩
def BX11_see_0 (G : Nat → KT) (Q : Option mV → mM → Prop) : KT := (s_aload 0 (s_getr 11 5 (fun _ => 4) (s_iload 2 (s_callV 5 1 pre_X5_has fn_X5_has (s_if (fun x => x = 0) ((s_iconst (-1) (s_iret Q))) (s_at G 13 [true, true, true, true, true, true]))))))
set_option maxRecDepth 4000 in
theorem bsX11_see_0 {p : Program} {l : Launch} {e : Env} {s : State} {m : MethodId} {args : Array Value} {below : List Frame} {meth : Method} {c : Code} {D : va_G} {ca : Nat → ClassId} {ad : Nat → Nat} {A : Nat → Prop} {Q : Option mV → mM → Prop} (hX : CX p s m args meth c 6 cX11_see "FairBlocks" D ca ad A) (hr : meth.sig.returnType = (Option.some FieldType.int)) : ∀ lv st M, BX11_see_0 (Gd p l e (rmD 1) s m args below meth c 6 D ca ad A 0 0 (MQ below (QC D ca ad A Q) args s 0 0 A)) Q lv st M → Gd p l e (rmD 1) s m args below meth c 6 D ca ad A 0 0 (MQ below (QC D ca ad A Q) args s 0 0 A) 0 lv st M :=
  (sd_aload_n hX dX11_see_0 rfl (sd_getr hX fl_303 (fun _ => rfl) (fun _ _ _ => by decide +kernel) dX11_see_1 (sd_iload_n hX dX11_see_4 rfl (sd_callV hX (kd := 5) rfl (by decide) (ct_X5_has l) mk_X5_has w_397 ⟨⟨by decide, by decide⟩, by decide, by decide⟩ dX11_see_5 (sd_if_ne hX dX11_see_8 (by decide) sd_at (sd_iconst hX dX11_see_11 rfl (sd_iret hX hr dX11_see_12)))))))
def BX11_see_13 (G : Nat → KT) (Q : Option mV → mM → Prop) : KT := (s_iload 1 (s_iconst (0) (s_iconst (9) (s_callS 3 pre_X11_within fn_X11_within (s_if (fun x => x = 0) (s_at G 53 [false, false, false, false, false, false]) (s_iload 3 (s_iconst (0) (s_iconst (1) (s_callS 3 pre_X11_within fn_X11_within (s_if (fun x => x = 0) (s_at G 53 [false, false, false, false, false, false]) (s_iload 4 (s_iconst (0) (s_iconst (99) (s_callS 3 pre_X11_within fn_X11_within (s_if (fun x => x = 0) (s_at G 53 [false, false, false, false, false, false]) (s_iload 5 (s_iconst (0) (s_iconst (1) (s_callS 3 pre_X11_within fn_X11_within (s_if (fun x => x = 0) ((s_at G 53 [false, false, false, false, false, false])) (s_at G 56 [true, true, true, true, true, true])))))))))))))))))))))
set_option maxRecDepth 4000 in
theorem bsX11_see_13 {p : Program} {l : Launch} {e : Env} {s : State} {m : MethodId} {args : Array Value} {below : List Frame} {meth : Method} {c : Code} {D : va_G} {ca : Nat → ClassId} {ad : Nat → Nat} {A : Nat → Prop} {Q : Option mV → mM → Prop} (hX : CX p s m args meth c 6 cX11_see "FairBlocks" D ca ad A) (hr : meth.sig.returnType = (Option.some FieldType.int)) : ∀ lv st M, BX11_see_13 (Gd p l e (rmD 1) s m args below meth c 6 D ca ad A 0 0 (MQ below (QC D ca ad A Q) args s 0 0 A)) Q lv st M → Gd p l e (rmD 1) s m args below meth c 6 D ca ad A 0 0 (MQ below (QC D ca ad A Q) args s 0 0 A) 13 lv st M :=
  (sd_iload_n hX dX11_see_13 rfl (sd_iconst hX dX11_see_14 rfl (sd_bipush hX dX11_see_15 rfl (sd_callS hX (ct_X11_within l) mk_X11_within w_342 ⟨⟨by decide, by decide⟩, by decide, by decide⟩ dX11_see_17 (sd_if_eq hX dX11_see_20 (by decide) sd_at (sd_iload_n hX dX11_see_23 rfl (sd_iconst hX dX11_see_24 rfl (sd_iconst hX dX11_see_25 rfl (sd_callS hX (ct_X11_within l) mk_X11_within w_342 ⟨⟨by decide, by decide⟩, by decide, by decide⟩ dX11_see_26 (sd_if_eq hX dX11_see_29 (by decide) sd_at (sd_iload hX dX11_see_32 (sd_iconst hX dX11_see_34 rfl (sd_bipush hX dX11_see_35 rfl (sd_callS hX (ct_X11_within l) mk_X11_within w_342 ⟨⟨by decide, by decide⟩, by decide, by decide⟩ dX11_see_37 (sd_if_eq hX dX11_see_40 (by decide) sd_at (sd_iload hX dX11_see_43 (sd_iconst hX dX11_see_45 rfl (sd_iconst hX dX11_see_46 rfl (sd_callS hX (ct_X11_within l) mk_X11_within w_342 ⟨⟨by decide, by decide⟩, by decide, by decide⟩ dX11_see_47 (sd_if_ne hX dX11_see_50 (by decide) sd_at sd_at))))))))))))))))))))
def BX11_see_53 (G : Nat → KT) (Q : Option mV → mM → Prop) : KT := (s_iconst (-2) (s_iret Q))
set_option maxRecDepth 4000 in
theorem bsX11_see_53 {p : Program} {l : Launch} {e : Env} {s : State} {m : MethodId} {args : Array Value} {below : List Frame} {meth : Method} {c : Code} {D : va_G} {ca : Nat → ClassId} {ad : Nat → Nat} {A : Nat → Prop} {Q : Option mV → mM → Prop} (hX : CX p s m args meth c 6 cX11_see "FairBlocks" D ca ad A) (hr : meth.sig.returnType = (Option.some FieldType.int)) : ∀ lv st M, BX11_see_53 (Gd p l e (rmD 1) s m args below meth c 6 D ca ad A 0 0 (MQ below (QC D ca ad A Q) args s 0 0 A)) Q lv st M → Gd p l e (rmD 1) s m args below meth c 6 D ca ad A 0 0 (MQ below (QC D ca ad A Q) args s 0 0 A) 53 lv st M :=
  (sd_bipush hX dX11_see_53 rfl (sd_iret hX hr dX11_see_55))
def BX11_see_56 (G : Nat → KT) (Q : Option mV → mM → Prop) : KT := (s_aload 0 (s_getr 11 7 (fun _ => 151) (s_geti 7 6 (s_iconst (6) (s_icmp (fun x y => x < y) (s_at G 71 [true, true, true, true, true, true]) (s_iconst (-4) (s_iret Q)))))))
set_option maxRecDepth 4000 in
theorem bsX11_see_56 {p : Program} {l : Launch} {e : Env} {s : State} {m : MethodId} {args : Array Value} {below : List Frame} {meth : Method} {c : Code} {D : va_G} {ca : Nat → ClassId} {ad : Nat → Nat} {A : Nat → Prop} {Q : Option mV → mM → Prop} (hX : CX p s m args meth c 6 cX11_see "FairBlocks" D ca ad A) (hr : meth.sig.returnType = (Option.some FieldType.int)) : ∀ lv st M, BX11_see_56 (Gd p l e (rmD 1) s m args below meth c 6 D ca ad A 0 0 (MQ below (QC D ca ad A Q) args s 0 0 A)) Q lv st M → Gd p l e (rmD 1) s m args below meth c 6 D ca ad A 0 0 (MQ below (QC D ca ad A Q) args s 0 0 A) 56 lv st M :=
  (sd_aload_n hX dX11_see_56 rfl (sd_getr hX fl_310 (fun _ => rfl) (fun _ _ _ => by decide +kernel) dX11_see_57 (sd_geti hX fl_275 (by decide) dX11_see_60 (sd_bipush hX dX11_see_63 rfl (sd_icmp_lt hX dX11_see_65 (by decide) sd_at (sd_bipush hX dX11_see_68 rfl (sd_iret hX hr dX11_see_70)))))))
def BX11_see_71 (G : Nat → KT) (Q : Option mV → mM → Prop) : KT := (s_aload 0 (s_getr 11 7 (fun _ => 151) (s_iload 1 (s_iload 2 (s_iload 3 (s_iload 4 (s_iload 5 (s_callV 7 5 pre_X7_add fn_X7_add (s_aload 0 (s_getr 11 7 (fun _ => 151) (s_geti 7 6 (s_iret Q))))))))))))
set_option maxRecDepth 4000 in
theorem bsX11_see_71 {p : Program} {l : Launch} {e : Env} {s : State} {m : MethodId} {args : Array Value} {below : List Frame} {meth : Method} {c : Code} {D : va_G} {ca : Nat → ClassId} {ad : Nat → Nat} {A : Nat → Prop} {Q : Option mV → mM → Prop} (hX : CX p s m args meth c 6 cX11_see "FairBlocks" D ca ad A) (hr : meth.sig.returnType = (Option.some FieldType.int)) : ∀ lv st M, BX11_see_71 (Gd p l e (rmD 1) s m args below meth c 6 D ca ad A 0 0 (MQ below (QC D ca ad A Q) args s 0 0 A)) Q lv st M → Gd p l e (rmD 1) s m args below meth c 6 D ca ad A 0 0 (MQ below (QC D ca ad A Q) args s 0 0 A) 71 lv st M :=
  (sd_aload_n hX dX11_see_71 rfl (sd_getr hX fl_310 (fun _ => rfl) (fun _ _ _ => by decide +kernel) dX11_see_72 (sd_iload_n hX dX11_see_75 rfl (sd_iload_n hX dX11_see_76 rfl (sd_iload_n hX dX11_see_77 rfl (sd_iload hX dX11_see_78 (sd_iload hX dX11_see_80 (sd_callV hX (kd := 7) rfl (by decide) (ct_X7_add l) mk_X7_add w_598 ⟨⟨by decide, by decide⟩, by decide, by decide⟩ dX11_see_82 (sd_aload_n hX dX11_see_85 rfl (sd_getr hX fl_310 (fun _ => rfl) (fun _ _ _ => by decide +kernel) dX11_see_86 (sd_geti hX fl_275 (by decide) dX11_see_89 (sd_iret hX hr dX11_see_92))))))))))))
set_option maxHeartbeats 400000 in
theorem pf_X11_see (G : Nat → KT) (Q : Option mV → mM → Prop) (h0 : ∀ lv st M, BX11_see_0 G Q lv st M → G 0 lv st M) (h13 : ∀ lv st M, BX11_see_13 G Q lv st M → G 13 lv st M) (h53 : ∀ lv st M, BX11_see_53 G Q lv st M → G 53 lv st M) (h56 : ∀ lv st M, BX11_see_56 G Q lv st M → G 56 lv st M) (h71 : ∀ lv st M, BX11_see_71 G Q lv st M → G 71 lv st M) (as : List mV) (M : mM) (ho : ∀ v ∈ as, okV v) (hp : pre_X11_see as M) (hQ : Q (fn_X11_see as M).1 (fn_X11_see as M).2) : G 0 (inL as ++ List.replicate (6 - (inL as).length) none) [] M := by
  obtain ⟨c, n, u, w, v, s, rfl, hC⟩ := hp
  simp only [fn_X11_see, c_see] at hQ
  have F : Q (some (.inl (-2))) M → G 53 [none, none, none, none, none, none] [] M := by
    intro hQ
    (apply h53; simp only [BX11_see_53, s_mth, s_mab, s_at, s_iconst, s_lconst, s_iload, s_lload, s_aload, s_istore, s_lstore, s_astore, s_iinc, s_bin, s_binG, s_un, s_lbin, s_lbinG, s_lsh, s_lcmp, s_i2l, s_l2i, s_dup, s_dup2, s_pop, s_if, s_icmp, s_geti, s_getl, s_getr, s_puti, s_putz, s_putl, s_iald, s_zald, s_iast, s_zast, s_aaldS, s_aaldU, s_gets, s_tald, s_tsw, tsw, s_iret, s_zret, s_lret, s_aret, s_vret, s_callV, s_callS, c1, nl1, keepL, csum, pushR, inL, List.getD_cons_zero, List.getD_cons_succ, List.set_cons_zero, List.set_cons_succ, List.cons_append, List.nil_append, List.append_nil, List.replicate, List.length_cons, List.length_nil, List.take_succ_cons, List.take_zero, List.drop_succ_cons, List.drop_zero, List.reverse_cons, List.reverse_nil, true_and, and_true, forall_const, not_true_eq_false, not_false_eq_true, false_implies, true_implies, implies_true, one0, m10, Nat.reduceAdd, Nat.reduceSub, Nat.reduceLeDiff, Nat.zero_add, Nat.add_zero, fn_X11_within, fn_X5_has, fn_X7_add])
    exact hQ
  (apply h0; simp only [BX11_see_0, s_mth, s_mab, s_at, s_iconst, s_lconst, s_iload, s_lload, s_aload, s_istore, s_lstore, s_astore, s_iinc, s_bin, s_binG, s_un, s_lbin, s_lbinG, s_lsh, s_lcmp, s_i2l, s_l2i, s_dup, s_dup2, s_pop, s_if, s_icmp, s_geti, s_getl, s_getr, s_puti, s_putz, s_putl, s_iald, s_zald, s_iast, s_zast, s_aaldS, s_aaldU, s_gets, s_tald, s_tsw, tsw, s_iret, s_zret, s_lret, s_aret, s_vret, s_callV, s_callS, c1, nl1, keepL, csum, pushR, inL, List.getD_cons_zero, List.getD_cons_succ, List.set_cons_zero, List.set_cons_succ, List.cons_append, List.nil_append, List.append_nil, List.replicate, List.length_cons, List.length_nil, List.take_succ_cons, List.take_zero, List.drop_succ_cons, List.drop_zero, List.reverse_cons, List.reverse_nil, true_and, and_true, forall_const, not_true_eq_false, not_false_eq_true, false_implies, true_implies, implies_true, one0, m10, Nat.reduceAdd, Nat.reduceSub, Nat.reduceLeDiff, Nat.zero_add, Nat.add_zero, fn_X11_within, fn_X5_has, fn_X7_add])
  refine ⟨⟨_, _, rfl⟩, fun h => ?_, fun h => ?_⟩
  · rw [if_pos h] at hQ; exact hQ
  · rw [if_neg h] at hQ
    (apply h13; simp only [BX11_see_13, s_mth, s_mab, s_at, s_iconst, s_lconst, s_iload, s_lload, s_aload, s_istore, s_lstore, s_astore, s_iinc, s_bin, s_binG, s_un, s_lbin, s_lbinG, s_lsh, s_lcmp, s_i2l, s_l2i, s_dup, s_dup2, s_pop, s_if, s_icmp, s_geti, s_getl, s_getr, s_puti, s_putz, s_putl, s_iald, s_zald, s_iast, s_zast, s_aaldS, s_aaldU, s_gets, s_tald, s_tsw, tsw, s_iret, s_zret, s_lret, s_aret, s_vret, s_callV, s_callS, c1, nl1, keepL, csum, pushR, inL, List.getD_cons_zero, List.getD_cons_succ, List.set_cons_zero, List.set_cons_succ, List.cons_append, List.nil_append, List.append_nil, List.replicate, List.length_cons, List.length_nil, List.take_succ_cons, List.take_zero, List.drop_succ_cons, List.drop_zero, List.reverse_cons, List.reverse_nil, true_and, and_true, forall_const, not_true_eq_false, not_false_eq_true, false_implies, true_implies, implies_true, one0, m10, Nat.reduceAdd, Nat.reduceSub, Nat.reduceLeDiff, Nat.zero_add, Nat.add_zero, fn_X11_within, fn_X5_has, fn_X7_add])
    refine ⟨⟨_, _, _, rfl⟩, fun h1 => ?_, fun h1 => ⟨⟨_, _, _, rfl⟩, fun h2 => ?_, fun h2 => ⟨⟨_, _, _, rfl⟩, fun h3 => ?_, fun h3 => ⟨⟨_, _, _, rfl⟩, fun h4 => ?_, fun h4 => ?_⟩⟩⟩⟩
    · rw [if_pos h1] at hQ; exact F hQ
    · rw [if_neg h1, if_pos h2] at hQ; exact F hQ
    · rw [if_neg h1, if_neg h2, if_pos h3] at hQ; exact F hQ
    · rw [if_neg h1, if_neg h2, if_neg h3, if_pos h4] at hQ; exact F hQ
    · rw [if_neg h1, if_neg h2, if_neg h3, if_neg h4] at hQ
      (apply h56; simp only [BX11_see_56, s_mth, s_mab, s_at, s_iconst, s_lconst, s_iload, s_lload, s_aload, s_istore, s_lstore, s_astore, s_iinc, s_bin, s_binG, s_un, s_lbin, s_lbinG, s_lsh, s_lcmp, s_i2l, s_l2i, s_dup, s_dup2, s_pop, s_if, s_icmp, s_geti, s_getl, s_getr, s_puti, s_putz, s_putl, s_iald, s_zald, s_iast, s_zast, s_aaldS, s_aaldU, s_gets, s_tald, s_tsw, tsw, s_iret, s_zret, s_lret, s_aret, s_vret, s_callV, s_callS, c1, nl1, keepL, csum, pushR, inL, List.getD_cons_zero, List.getD_cons_succ, List.set_cons_zero, List.set_cons_succ, List.cons_append, List.nil_append, List.append_nil, List.replicate, List.length_cons, List.length_nil, List.take_succ_cons, List.take_zero, List.drop_succ_cons, List.drop_zero, List.reverse_cons, List.reverse_nil, true_and, and_true, forall_const, not_true_eq_false, not_false_eq_true, false_implies, true_implies, implies_true, one0, m10, Nat.reduceAdd, Nat.reduceSub, Nat.reduceLeDiff, Nat.zero_add, Nat.add_zero, fn_X11_within, fn_X5_has, fn_X7_add])
      refine ⟨fun h5 => ?_, fun h5 => ?_⟩
      · rw [if_pos h5] at hQ
        (apply h71; simp only [BX11_see_71, s_mth, s_mab, s_at, s_iconst, s_lconst, s_iload, s_lload, s_aload, s_istore, s_lstore, s_astore, s_iinc, s_bin, s_binG, s_un, s_lbin, s_lbinG, s_lsh, s_lcmp, s_i2l, s_l2i, s_dup, s_dup2, s_pop, s_if, s_icmp, s_geti, s_getl, s_getr, s_puti, s_putz, s_putl, s_iald, s_zald, s_iast, s_zast, s_aaldS, s_aaldU, s_gets, s_tald, s_tsw, tsw, s_iret, s_zret, s_lret, s_aret, s_vret, s_callV, s_callS, c1, nl1, keepL, csum, pushR, inL, List.getD_cons_zero, List.getD_cons_succ, List.set_cons_zero, List.set_cons_succ, List.cons_append, List.nil_append, List.append_nil, List.replicate, List.length_cons, List.length_nil, List.take_succ_cons, List.take_zero, List.drop_succ_cons, List.drop_zero, List.reverse_cons, List.reverse_nil, true_and, and_true, forall_const, not_true_eq_false, not_false_eq_true, false_implies, true_implies, implies_true, one0, m10, Nat.reduceAdd, Nat.reduceSub, Nat.reduceLeDiff, Nat.zero_add, Nat.add_zero, fn_X11_within, fn_X5_has, fn_X7_add])
        exact ⟨⟨_, _, _, _, _, _, rfl, hC.1.2⟩, hQ⟩
      · rw [if_neg h5] at hQ; exact hQ
theorem ct_X11_see (l : Launch) : Con l yX11_see cX11_see 6 (Option.some FieldType.int) 1 pre_X11_see fn_X11_see := con_of (by decide +kernel) ok_X11_see len_X11_see (fun p e s m args below meth c D ca ad A as M hX hr hp ho => pf_X11_see _ _ (bsX11_see_0 hX hr) (bsX11_see_13 hX hr) (bsX11_see_53 hX hr) (bsX11_see_56 hX hr) (bsX11_see_71 hX hr) as M ho hp ⟨rfl, rfl⟩)
def pre_X11_unsee (as : List mV) (M : mM) : Prop := ∃ c, as = [.inr (.inr (11, c))]
def fn_X11_unsee : List mV → mM → Option mV × mM
  | [.inr (.inr (_, c))], M => (some (.inl (M.1 151 6)), mset M 151 6 0)
  | _, M => (none, M)
theorem ok_X11_unsee (as : List mV) (M : mM) (h : pre_X11_unsee as M) (_ : ∀ v ∈ as, okV v) : okR (fn_X11_unsee as M).1 := by
  obtain ⟨c, rfl⟩ := h
  first | trivial | exact (by decide +kernel : kof 14 = 8)
theorem len_X11_unsee (as : List mV) (M : mM) (h : pre_X11_unsee as M) : (inL as).length ≤ 2 := by
  obtain ⟨c, rfl⟩ := h
  exact Nat.le_of_ble_eq_true rfl

theorem fp_275 : FPk "FairBlocks" 200 7 6 0 .int := ⟨RX7, TX7, 7, tyX7, rfl, inX7, by decide, w_275, by decide, rfl, tyX7_ok, nmX7, rfl, rfl⟩
theorem dX11_unsee_0 : decode cX11_unsee 0 = .ok (.aload_n 0, 1) := by decide +kernel
theorem dX11_unsee_1 : decode cX11_unsee 1 = .ok (.getfield 70, 3) := by decide +kernel
theorem dX11_unsee_4 : decode cX11_unsee 4 = .ok (.getfield 200, 3) := by decide +kernel
theorem dX11_unsee_7 : decode cX11_unsee 7 = .ok (.istore_n 1, 1) := by decide +kernel
theorem dX11_unsee_8 : decode cX11_unsee 8 = .ok (.aload_n 0, 1) := by decide +kernel
theorem dX11_unsee_9 : decode cX11_unsee 9 = .ok (.getfield 70, 3) := by decide +kernel
theorem dX11_unsee_12 : decode cX11_unsee 12 = .ok (.iconst 0, 1) := by decide +kernel
theorem dX11_unsee_13 : decode cX11_unsee 13 = .ok (.putfield 200, 3) := by decide +kernel
theorem dX11_unsee_16 : decode cX11_unsee 16 = .ok (.iload_n 1, 1) := by decide +kernel
theorem dX11_unsee_17 : decode cX11_unsee 17 = .ok (.ireturn, 1) := by decide +kernel
theorem mk_X11_unsee : MVk yX11_unsee "FairBlocks" cX11_unsee 2 (Option.some FieldType.int) 0 := ⟨w_605, w_603, w_604, w_1, rfl, by decide +kernel, by decide +kernel, by decide +kernel⟩
def BX11_unsee_0 (G : Nat → KT) (Q : Option mV → mM → Prop) : KT := (s_aload 0 (s_getr 11 7 (fun _ => 151) (s_geti 7 6 (s_istore 1 (s_aload 0 (s_getr 11 7 (fun _ => 151) (s_iconst (0) (s_puti 7 6 (s_iload 1 (s_iret Q))))))))))
set_option maxRecDepth 4000 in
theorem bsX11_unsee_0 {p : Program} {l : Launch} {e : Env} {s : State} {m : MethodId} {args : Array Value} {below : List Frame} {meth : Method} {c : Code} {D : va_G} {ca : Nat → ClassId} {ad : Nat → Nat} {A : Nat → Prop} {Q : Option mV → mM → Prop} (hX : CX p s m args meth c 2 cX11_unsee "FairBlocks" D ca ad A) (hr : meth.sig.returnType = (Option.some FieldType.int)) : ∀ lv st M, BX11_unsee_0 (Gd p l e (rmD 0) s m args below meth c 2 D ca ad A 0 0 (MQ below (QC D ca ad A Q) args s 0 0 A)) Q lv st M → Gd p l e (rmD 0) s m args below meth c 2 D ca ad A 0 0 (MQ below (QC D ca ad A Q) args s 0 0 A) 0 lv st M :=
  (sd_aload_n hX dX11_unsee_0 rfl (sd_getr hX fl_310 (fun _ => rfl) (fun _ _ _ => by decide +kernel) dX11_unsee_1 (sd_geti hX fl_275 (by decide) dX11_unsee_4 (sd_istore_n hX (by decide) dX11_unsee_7 rfl (sd_aload_n hX dX11_unsee_8 rfl (sd_getr hX fl_310 (fun _ => rfl) (fun _ _ _ => by decide +kernel) dX11_unsee_9 (sd_iconst hX dX11_unsee_12 rfl (sd_puti hX fp_275 dX11_unsee_13 (sd_iload_n hX dX11_unsee_16 rfl (sd_iret hX hr dX11_unsee_17))))))))))
set_option maxHeartbeats 400000 in
theorem pf_X11_unsee (G : Nat → KT) (Q : Option mV → mM → Prop) (h0 : ∀ lv st M, BX11_unsee_0 G Q lv st M → G 0 lv st M) (as : List mV) (M : mM) (ho : ∀ v ∈ as, okV v) (hp : pre_X11_unsee as M) (hQ : Q (fn_X11_unsee as M).1 (fn_X11_unsee as M).2) : G 0 (inL as ++ List.replicate (2 - (inL as).length) none) [] M := by
  obtain ⟨c, rfl⟩ := hp
  (apply h0; simp only [BX11_unsee_0, s_mth, s_mab, s_at, s_iconst, s_lconst, s_iload, s_lload, s_aload, s_istore, s_lstore, s_astore, s_iinc, s_bin, s_binG, s_un, s_lbin, s_lbinG, s_lsh, s_lcmp, s_i2l, s_l2i, s_dup, s_dup2, s_pop, s_if, s_icmp, s_geti, s_getl, s_getr, s_puti, s_putz, s_putl, s_iald, s_zald, s_iast, s_zast, s_aaldS, s_aaldU, s_gets, s_tald, s_tsw, tsw, s_iret, s_zret, s_lret, s_aret, s_vret, s_callV, s_callS, c1, nl1, keepL, csum, pushR, inL, List.getD_cons_zero, List.getD_cons_succ, List.set_cons_zero, List.set_cons_succ, List.cons_append, List.nil_append, List.append_nil, List.replicate, List.length_cons, List.length_nil, List.take_succ_cons, List.take_zero, List.drop_succ_cons, List.drop_zero, List.reverse_cons, List.reverse_nil, true_and, and_true, forall_const, not_true_eq_false, not_false_eq_true, false_implies, true_implies, implies_true, one0, m10, Nat.reduceAdd, Nat.reduceSub, Nat.reduceLeDiff, Nat.zero_add, Nat.add_zero])
  exact hQ
theorem ct_X11_unsee (l : Launch) : Con l yX11_unsee cX11_unsee 2 (Option.some FieldType.int) 0 pre_X11_unsee fn_X11_unsee := con_of (by decide +kernel) ok_X11_unsee len_X11_unsee (fun p e s m args below meth c D ca ad A as M hX hr hp ho => pf_X11_unsee _ _ (bsX11_unsee_0 hX hr) as M ho hp ⟨rfl, rfl⟩)
def pre_X11_which (as : List mV) (M : mM) : Prop := ∃ c, as = [.inr (.inr (11, c))] ∧ CI M
def fn_X11_which : List mV → mM → Option mV × mM
  | [.inr (.inr (_, c))], M => (some (.inl (suF M).1), (suF M).2)
  | _, M => (none, M)
theorem ok_X11_which (as : List mV) (M : mM) (h : pre_X11_which as M) (_ : ∀ v ∈ as, okV v) : okR (fn_X11_which as M).1 := by
  obtain ⟨c, rfl, -⟩ := h
  first | trivial | exact (by decide +kernel : kof 14 = 8)
theorem len_X11_which (as : List mV) (M : mM) (h : pre_X11_which as M) : (inL as).length ≤ 1 := by
  obtain ⟨c, rfl, -⟩ := h
  exact Nat.le_of_ble_eq_true rfl


theorem dX11_which_0 : decode cX11_which 0 = .ok (.aload_n 0, 1) := by decide +kernel
theorem dX11_which_1 : decode cX11_which 1 = .ok (.getfield 70, 3) := by decide +kernel
theorem dX11_which_4 : decode cX11_which 4 = .ok (.invokevirtual 204, 3) := by decide +kernel
theorem dX11_which_7 : decode cX11_which 7 = .ok (.ireturn, 1) := by decide +kernel
theorem mk_X11_which : MVk yX11_which "FairBlocks" cX11_which 1 (Option.some FieldType.int) 0 := ⟨w_609, w_607, w_608, w_1, rfl, by decide +kernel, by decide +kernel, by decide +kernel⟩
def BX11_which_0 (G : Nat → KT) (Q : Option mV → mM → Prop) : KT := (s_aload 0 (s_getr 11 7 (fun _ => 151) (s_callV 7 0 pre_X7_suspects fn_X7_suspects (s_iret Q))))
set_option maxRecDepth 4000 in
theorem bsX11_which_0 {p : Program} {l : Launch} {e : Env} {s : State} {m : MethodId} {args : Array Value} {below : List Frame} {meth : Method} {c : Code} {D : va_G} {ca : Nat → ClassId} {ad : Nat → Nat} {A : Nat → Prop} {Q : Option mV → mM → Prop} (hX : CX p s m args meth c 1 cX11_which "FairBlocks" D ca ad A) (hr : meth.sig.returnType = (Option.some FieldType.int)) : ∀ lv st M, BX11_which_0 (Gd p l e (rmD 5) s m args below meth c 1 D ca ad A 0 0 (MQ below (QC D ca ad A Q) args s 0 0 A)) Q lv st M → Gd p l e (rmD 5) s m args below meth c 1 D ca ad A 0 0 (MQ below (QC D ca ad A Q) args s 0 0 A) 0 lv st M :=
  (sd_aload_n hX dX11_which_0 rfl (sd_getr hX fl_310 (fun _ => rfl) (fun _ _ _ => by decide +kernel) dX11_which_1 (sd_callV hX (kd := 7) rfl (by decide) (ct_X7_suspects l) mk_X7_suspects w_610 ⟨⟨by decide, by decide⟩, by decide, by decide⟩ dX11_which_4 (sd_iret hX hr dX11_which_7))))
set_option maxHeartbeats 400000 in
theorem pf_X11_which (G : Nat → KT) (Q : Option mV → mM → Prop) (h0 : ∀ lv st M, BX11_which_0 G Q lv st M → G 0 lv st M) (as : List mV) (M : mM) (ho : ∀ v ∈ as, okV v) (hp : pre_X11_which as M) (hQ : Q (fn_X11_which as M).1 (fn_X11_which as M).2) : G 0 (inL as ++ List.replicate (1 - (inL as).length) none) [] M := by
  obtain ⟨c, rfl, hC⟩ := hp
  (apply h0; simp only [BX11_which_0, s_mth, s_mab, s_at, s_iconst, s_lconst, s_iload, s_lload, s_aload, s_istore, s_lstore, s_astore, s_iinc, s_bin, s_binG, s_un, s_lbin, s_lbinG, s_lsh, s_lcmp, s_i2l, s_l2i, s_dup, s_dup2, s_pop, s_if, s_icmp, s_geti, s_getl, s_getr, s_puti, s_putz, s_putl, s_iald, s_zald, s_iast, s_zast, s_aaldS, s_aaldU, s_gets, s_tald, s_tsw, tsw, s_iret, s_zret, s_lret, s_aret, s_vret, s_callV, s_callS, c1, nl1, keepL, csum, pushR, inL, List.getD_cons_zero, List.getD_cons_succ, List.set_cons_zero, List.set_cons_succ, List.cons_append, List.nil_append, List.append_nil, List.replicate, List.length_cons, List.length_nil, List.take_succ_cons, List.take_zero, List.drop_succ_cons, List.drop_zero, List.reverse_cons, List.reverse_nil, true_and, and_true, forall_const, not_true_eq_false, not_false_eq_true, false_implies, true_implies, implies_true, one0, m10, Nat.reduceAdd, Nat.reduceSub, Nat.reduceLeDiff, Nat.zero_add, Nat.add_zero, fn_X7_suspects])
  exact ⟨⟨_, rfl, hC.1⟩, hQ⟩
theorem ct_X11_which (l : Launch) : Con l yX11_which cX11_which 1 (Option.some FieldType.int) 5 pre_X11_which fn_X11_which := con_of (by decide +kernel) ok_X11_which len_X11_which (fun p e s m args below meth c D ca ad A as M hX hr hp ho => pf_X11_which _ _ (bsX11_which_0 hX hr) as M ho hp ⟨rfl, rfl⟩)
def c_share (M : mM) (u w : Int32) : Int32 × mM := if hasI M u = 0 then (-1, M) else if M.1 (9 + u.toNatClampNeg) 3 = 0 then (fra (shF M u).1 (fac (bc (alB M))) w, (shF M u).2) else (-3, M)
def pre_X11_share (as : List mV) (M : mM) : Prop := ∃ c u w, as = [.inr (.inr (11, c)), .inl u, .inl w] ∧ CI M
def fn_X11_share : List mV → mM → Option mV × mM
  | [.inr (.inr (_, c)), .inl u, .inl w], M => (some (.inl (c_share M u w).1), (c_share M u w).2)
  | _, M => (none, M)
theorem ok_X11_share (as : List mV) (M : mM) (h : pre_X11_share as M) (_ : ∀ v ∈ as, okV v) : okR (fn_X11_share as M).1 := by
  obtain ⟨c, u, w, rfl, -⟩ := h
  first | trivial | exact (by decide +kernel : kof 14 = 8)
theorem len_X11_share (as : List mV) (M : mM) (h : pre_X11_share as M) : (inL as).length ≤ 3 := by
  obtain ⟨c, u, w, rfl, -⟩ := h
  exact Nat.le_of_ble_eq_true rfl

theorem fl_311 : FLk "FairBlocks" 77 11 10 5 := ⟨RX11, TX11, 12, rfl, inX11, by decide, w_311, by decide, rfl⟩
theorem dX11_share_0 : decode cX11_share 0 = .ok (.aload_n 0, 1) := by decide +kernel
theorem dX11_share_1 : decode cX11_share 1 = .ok (.getfield 27, 3) := by decide +kernel
theorem dX11_share_4 : decode cX11_share 4 = .ok (.iload_n 1, 1) := by decide +kernel
theorem dX11_share_5 : decode cX11_share 5 = .ok (.invokevirtual 113, 3) := by decide +kernel
theorem dX11_share_8 : decode cX11_share 8 = .ok (.ifCond .ne 5, 3) := by decide +kernel
theorem dX11_share_11 : decode cX11_share 11 = .ok (.iconst (-1), 1) := by decide +kernel
theorem dX11_share_12 : decode cX11_share 12 = .ok (.ireturn, 1) := by decide +kernel
theorem dX11_share_13 : decode cX11_share 13 = .ok (.aload_n 0, 1) := by decide +kernel
theorem dX11_share_14 : decode cX11_share 14 = .ok (.getfield 32, 3) := by decide +kernel
theorem dX11_share_17 : decode cX11_share 17 = .ok (.getfield 124, 3) := by decide +kernel
theorem dX11_share_20 : decode cX11_share 20 = .ok (.iload_n 1, 1) := by decide +kernel
theorem dX11_share_21 : decode cX11_share 21 = .ok (.aaload, 1) := by decide +kernel
theorem dX11_share_22 : decode cX11_share 22 = .ok (.getfield 147, 3) := by decide +kernel
theorem dX11_share_25 : decode cX11_share 25 = .ok (.ifCond .eq 6, 3) := by decide +kernel
theorem dX11_share_28 : decode cX11_share 28 = .ok (.bipush (-3), 2) := by decide +kernel
theorem dX11_share_30 : decode cX11_share 30 = .ok (.ireturn, 1) := by decide +kernel
theorem dX11_share_31 : decode cX11_share 31 = .ok (.aload_n 0, 1) := by decide +kernel
theorem dX11_share_32 : decode cX11_share 32 = .ok (.getfield 77, 3) := by decide +kernel
theorem dX11_share_35 : decode cX11_share 35 = .ok (.iload_n 1, 1) := by decide +kernel
theorem dX11_share_36 : decode cX11_share 36 = .ok (.iload_n 2, 1) := by decide +kernel
theorem dX11_share_37 : decode cX11_share 37 = .ok (.invokevirtual 207, 3) := by decide +kernel
theorem dX11_share_40 : decode cX11_share 40 = .ok (.ireturn, 1) := by decide +kernel
theorem mk_X11_share : MVk yX11_share "FairBlocks" cX11_share 3 (Option.some FieldType.int) 2 := ⟨w_634, w_632, w_633, w_1, rfl, by decide +kernel, by decide +kernel, by decide +kernel⟩
def BX11_share_0 (G : Nat → KT) (Q : Option mV → mM → Prop) : KT := (s_aload 0 (s_getr 11 5 (fun _ => 4) (s_iload 1 (s_callV 5 1 pre_X5_has fn_X5_has (s_if (fun x => x = 0) ((s_iconst (-1) (s_iret Q))) (s_at G 13 [true, true, true]))))))
set_option maxRecDepth 4000 in
theorem bsX11_share_0 {p : Program} {l : Launch} {e : Env} {s : State} {m : MethodId} {args : Array Value} {below : List Frame} {meth : Method} {c : Code} {D : va_G} {ca : Nat → ClassId} {ad : Nat → Nat} {A : Nat → Prop} {Q : Option mV → mM → Prop} (hX : CX p s m args meth c 3 cX11_share "FairBlocks" D ca ad A) (hr : meth.sig.returnType = (Option.some FieldType.int)) : ∀ lv st M, BX11_share_0 (Gd p l e (rmD 6) s m args below meth c 3 D ca ad A 0 0 (MQ below (QC D ca ad A Q) args s 0 0 A)) Q lv st M → Gd p l e (rmD 6) s m args below meth c 3 D ca ad A 0 0 (MQ below (QC D ca ad A Q) args s 0 0 A) 0 lv st M :=
  (sd_aload_n hX dX11_share_0 rfl (sd_getr hX fl_303 (fun _ => rfl) (fun _ _ _ => by decide +kernel) dX11_share_1 (sd_iload_n hX dX11_share_4 rfl (sd_callV hX (kd := 5) rfl (by decide) (ct_X5_has l) mk_X5_has w_397 ⟨⟨by decide, by decide⟩, by decide, by decide⟩ dX11_share_5 (sd_if_ne hX dX11_share_8 (by decide) sd_at (sd_iconst hX dX11_share_11 rfl (sd_iret hX hr dX11_share_12)))))))
def BX11_share_13 (G : Nat → KT) (Q : Option mV → mM → Prop) : KT := (s_aload 0 (s_getr 11 8 (fun _ => 7) (s_getr 8 16 (fun k => k + 1) (s_iload 1 (s_aaldU (s_geti 10 3 (s_if (fun x => x = 0) (s_at G 31 [true, true, true]) (s_iconst (-3) (s_iret Q)))))))))
set_option maxRecDepth 4000 in
theorem bsX11_share_13 {p : Program} {l : Launch} {e : Env} {s : State} {m : MethodId} {args : Array Value} {below : List Frame} {meth : Method} {c : Code} {D : va_G} {ca : Nat → ClassId} {ad : Nat → Nat} {A : Nat → Prop} {Q : Option mV → mM → Prop} (hX : CX p s m args meth c 3 cX11_share "FairBlocks" D ca ad A) (hr : meth.sig.returnType = (Option.some FieldType.int)) : ∀ lv st M, BX11_share_13 (Gd p l e (rmD 6) s m args below meth c 3 D ca ad A 0 0 (MQ below (QC D ca ad A Q) args s 0 0 A)) Q lv st M → Gd p l e (rmD 6) s m args below meth c 3 D ca ad A 0 0 (MQ below (QC D ca ad A Q) args s 0 0 A) 13 lv st M :=
  (sd_aload_n hX dX11_share_13 rfl (sd_getr hX fl_304 (fun _ => rfl) (fun _ _ _ => by decide +kernel) dX11_share_14 (sd_getr hX fl_148 (fun _ => rfl) okA dX11_share_17 (sd_iload_n hX dX11_share_20 rfl (sd_aaldU hX dX11_share_21 (sd_geti hX fl_106 (by decide) dX11_share_22 (sd_if_eq hX dX11_share_25 (by decide) sd_at (sd_bipush hX dX11_share_28 rfl (sd_iret hX hr dX11_share_30)))))))))
def BX11_share_31 (G : Nat → KT) (Q : Option mV → mM → Prop) : KT := (s_aload 0 (s_getr 11 2 (fun _ => 157) (s_iload 1 (s_iload 2 (s_callV 2 2 pre_X2_shareOf fn_X2_shareOf (s_iret Q))))))
set_option maxRecDepth 4000 in
theorem bsX11_share_31 {p : Program} {l : Launch} {e : Env} {s : State} {m : MethodId} {args : Array Value} {below : List Frame} {meth : Method} {c : Code} {D : va_G} {ca : Nat → ClassId} {ad : Nat → Nat} {A : Nat → Prop} {Q : Option mV → mM → Prop} (hX : CX p s m args meth c 3 cX11_share "FairBlocks" D ca ad A) (hr : meth.sig.returnType = (Option.some FieldType.int)) : ∀ lv st M, BX11_share_31 (Gd p l e (rmD 6) s m args below meth c 3 D ca ad A 0 0 (MQ below (QC D ca ad A Q) args s 0 0 A)) Q lv st M → Gd p l e (rmD 6) s m args below meth c 3 D ca ad A 0 0 (MQ below (QC D ca ad A Q) args s 0 0 A) 31 lv st M :=
  (sd_aload_n hX dX11_share_31 rfl (sd_getr hX fl_311 (fun _ => rfl) (fun _ _ _ => by decide +kernel) dX11_share_32 (sd_iload_n hX dX11_share_35 rfl (sd_iload_n hX dX11_share_36 rfl (sd_callV hX (kd := 2) rfl (by decide) (ct_X2_shareOf l) mk_X2_shareOf w_635 ⟨⟨by decide, by decide⟩, by decide, by decide⟩ dX11_share_37 (sd_iret hX hr dX11_share_40))))))
set_option maxHeartbeats 400000 in
theorem pf_X11_share (G : Nat → KT) (Q : Option mV → mM → Prop) (h0 : ∀ lv st M, BX11_share_0 G Q lv st M → G 0 lv st M) (h13 : ∀ lv st M, BX11_share_13 G Q lv st M → G 13 lv st M) (h31 : ∀ lv st M, BX11_share_31 G Q lv st M → G 31 lv st M) (as : List mV) (M : mM) (ho : ∀ v ∈ as, okV v) (hp : pre_X11_share as M) (hQ : Q (fn_X11_share as M).1 (fn_X11_share as M).2) : G 0 (inL as ++ List.replicate (3 - (inL as).length) none) [] M := by
  obtain ⟨c, u, w, rfl, hC⟩ := hp
  have hPL := hC.1.1.2
  have hn := n5 hPL
  simp only [fn_X11_share, c_share] at hQ
  (apply h0; simp only [BX11_share_0, s_mth, s_mab, s_at, s_iconst, s_lconst, s_iload, s_lload, s_aload, s_istore, s_lstore, s_astore, s_iinc, s_bin, s_binG, s_un, s_lbin, s_lbinG, s_lsh, s_lcmp, s_i2l, s_l2i, s_dup, s_dup2, s_pop, s_if, s_icmp, s_geti, s_getl, s_getr, s_puti, s_putz, s_putl, s_iald, s_zald, s_iast, s_zast, s_aaldS, s_aaldU, s_gets, s_tald, s_tsw, tsw, s_iret, s_zret, s_lret, s_aret, s_vret, s_callV, s_callS, c1, nl1, keepL, csum, pushR, inL, List.getD_cons_zero, List.getD_cons_succ, List.set_cons_zero, List.set_cons_succ, List.cons_append, List.nil_append, List.append_nil, List.replicate, List.length_cons, List.length_nil, List.take_succ_cons, List.take_zero, List.drop_succ_cons, List.drop_zero, List.reverse_cons, List.reverse_nil, true_and, and_true, forall_const, not_true_eq_false, not_false_eq_true, false_implies, true_implies, implies_true, one0, m10, Nat.reduceAdd, Nat.reduceSub, Nat.reduceLeDiff, Nat.zero_add, Nat.add_zero, fn_X2_shareOf, fn_X5_has])
  refine ⟨⟨_, _, rfl⟩, fun h => ?_, fun h => ?_⟩
  · rw [if_pos h] at hQ; exact hQ
  · rw [if_neg h] at hQ
    obtain ⟨j, hj, e⟩ := hasI_1 hPL h
    (apply h13; simp only [BX11_share_13, s_mth, s_mab, s_at, s_iconst, s_lconst, s_iload, s_lload, s_aload, s_istore, s_lstore, s_astore, s_iinc, s_bin, s_binG, s_un, s_lbin, s_lbinG, s_lsh, s_lcmp, s_i2l, s_l2i, s_dup, s_dup2, s_pop, s_if, s_icmp, s_geti, s_getl, s_getr, s_puti, s_putz, s_putl, s_iald, s_zald, s_iast, s_zast, s_aaldS, s_aaldU, s_gets, s_tald, s_tsw, tsw, s_iret, s_zret, s_lret, s_aret, s_vret, s_callV, s_callS, c1, nl1, keepL, csum, pushR, inL, List.getD_cons_zero, List.getD_cons_succ, List.set_cons_zero, List.set_cons_succ, List.cons_append, List.nil_append, List.append_nil, List.replicate, List.length_cons, List.length_nil, List.take_succ_cons, List.take_zero, List.drop_succ_cons, List.drop_zero, List.reverse_cons, List.reverse_nil, true_and, and_true, forall_const, not_true_eq_false, not_false_eq_true, false_implies, true_implies, implies_true, one0, m10, Nat.reduceAdd, Nat.reduceSub, Nat.reduceLeDiff, Nat.zero_add, Nat.add_zero, fn_X2_shareOf, fn_X5_has])
    simp only [l8]
    refine ⟨by rw [e]; exact vp_in_nI (by omega) (by decide), fun h2 => ?_, fun h2 => ?_⟩
    · rw [if_pos h2] at hQ
      (apply h31; simp only [BX11_share_31, s_mth, s_mab, s_at, s_iconst, s_lconst, s_iload, s_lload, s_aload, s_istore, s_lstore, s_astore, s_iinc, s_bin, s_binG, s_un, s_lbin, s_lbinG, s_lsh, s_lcmp, s_i2l, s_l2i, s_dup, s_dup2, s_pop, s_if, s_icmp, s_geti, s_getl, s_getr, s_puti, s_putz, s_putl, s_iald, s_zald, s_iast, s_zast, s_aaldS, s_aaldU, s_gets, s_tald, s_tsw, tsw, s_iret, s_zret, s_lret, s_aret, s_vret, s_callV, s_callS, c1, nl1, keepL, csum, pushR, inL, List.getD_cons_zero, List.getD_cons_succ, List.set_cons_zero, List.set_cons_succ, List.cons_append, List.nil_append, List.append_nil, List.replicate, List.length_cons, List.length_nil, List.take_succ_cons, List.take_zero, List.drop_succ_cons, List.drop_zero, List.reverse_cons, List.reverse_nil, true_and, and_true, forall_const, not_true_eq_false, not_false_eq_true, false_implies, true_implies, implies_true, one0, m10, Nat.reduceAdd, Nat.reduceSub, Nat.reduceLeDiff, Nat.zero_add, Nat.add_zero, fn_X2_shareOf, fn_X5_has])
      exact ⟨⟨_, _, _, rfl, hC.1.1⟩, hQ⟩
    · rw [if_neg h2] at hQ; exact hQ
theorem ct_X11_share (l : Launch) : Con l yX11_share cX11_share 3 (Option.some FieldType.int) 6 pre_X11_share fn_X11_share := con_of (by decide +kernel) ok_X11_share len_X11_share (fun p e s m args below meth c D ca ad A as M hX hr hp ho => pf_X11_share _ _ (bsX11_share_0 hX hr) (bsX11_share_13 hX hr) (bsX11_share_31 hX hr) as M ho hp ⟨rfl, rfl⟩)
def c_fails (M : mM) (u n x w : Int32) : Int32 × mM := if hasI M u = 0 then (-1, M) else if wi n 1 6 = 0 then (-2, M) else if wi x 0 10 = 0 then (-2, M) else (fra (eb M u.toNatClampNeg n.toNatClampNeg x).1 (pw 10 n.toNatClampNeg) w, (eb M u.toNatClampNeg n.toNatClampNeg x).2)
def pre_X11_fails (as : List mV) (M : mM) : Prop := ∃ c u n x w, as = [.inr (.inr (11, c)), .inl u, .inl n, .inl x, .inl w] ∧ CI M
def fn_X11_fails : List mV → mM → Option mV × mM
  | [.inr (.inr (_, c)), .inl u, .inl n, .inl x, .inl w], M => (some (.inl (c_fails M u n x w).1), (c_fails M u n x w).2)
  | _, M => (none, M)
theorem ok_X11_fails (as : List mV) (M : mM) (h : pre_X11_fails as M) (_ : ∀ v ∈ as, okV v) : okR (fn_X11_fails as M).1 := by
  obtain ⟨c, u, n, x, w, rfl, -⟩ := h
  first | trivial | exact (by decide +kernel : kof 14 = 8)
theorem len_X11_fails (as : List mV) (M : mM) (h : pre_X11_fails as M) : (inL as).length ≤ 5 := by
  obtain ⟨c, u, n, x, w, rfl, -⟩ := h
  exact Nat.le_of_ble_eq_true rfl


theorem dX11_fails_0 : decode cX11_fails 0 = .ok (.aload_n 0, 1) := by decide +kernel
theorem dX11_fails_1 : decode cX11_fails 1 = .ok (.getfield 27, 3) := by decide +kernel
theorem dX11_fails_4 : decode cX11_fails 4 = .ok (.iload_n 1, 1) := by decide +kernel
theorem dX11_fails_5 : decode cX11_fails 5 = .ok (.invokevirtual 113, 3) := by decide +kernel
theorem dX11_fails_8 : decode cX11_fails 8 = .ok (.ifCond .ne 5, 3) := by decide +kernel
theorem dX11_fails_11 : decode cX11_fails 11 = .ok (.iconst (-1), 1) := by decide +kernel
theorem dX11_fails_12 : decode cX11_fails 12 = .ok (.ireturn, 1) := by decide +kernel
theorem dX11_fails_13 : decode cX11_fails 13 = .ok (.iload_n 2, 1) := by decide +kernel
theorem dX11_fails_14 : decode cX11_fails 14 = .ok (.iconst 1, 1) := by decide +kernel
theorem dX11_fails_15 : decode cX11_fails 15 = .ok (.bipush 6, 2) := by decide +kernel
theorem dX11_fails_17 : decode cX11_fails 17 = .ok (.invokestatic 85, 3) := by decide +kernel
theorem dX11_fails_20 : decode cX11_fails 20 = .ok (.ifCond .eq 13, 3) := by decide +kernel
theorem dX11_fails_23 : decode cX11_fails 23 = .ok (.iload_n 3, 1) := by decide +kernel
theorem dX11_fails_24 : decode cX11_fails 24 = .ok (.iconst 0, 1) := by decide +kernel
theorem dX11_fails_25 : decode cX11_fails 25 = .ok (.bipush 10, 2) := by decide +kernel
theorem dX11_fails_27 : decode cX11_fails 27 = .ok (.invokestatic 85, 3) := by decide +kernel
theorem dX11_fails_30 : decode cX11_fails 30 = .ok (.ifCond .ne 6, 3) := by decide +kernel
theorem dX11_fails_33 : decode cX11_fails 33 = .ok (.bipush (-2), 2) := by decide +kernel
theorem dX11_fails_35 : decode cX11_fails 35 = .ok (.ireturn, 1) := by decide +kernel
theorem dX11_fails_36 : decode cX11_fails 36 = .ok (.aload_n 0, 1) := by decide +kernel
theorem dX11_fails_37 : decode cX11_fails 37 = .ok (.getfield 77, 3) := by decide +kernel
theorem dX11_fails_40 : decode cX11_fails 40 = .ok (.iload_n 1, 1) := by decide +kernel
theorem dX11_fails_41 : decode cX11_fails 41 = .ok (.iload_n 2, 1) := by decide +kernel
theorem dX11_fails_42 : decode cX11_fails 42 = .ok (.iload_n 3, 1) := by decide +kernel
theorem dX11_fails_43 : decode cX11_fails 43 = .ok (.iload 4, 2) := by decide +kernel
theorem dX11_fails_45 : decode cX11_fails 45 = .ok (.invokevirtual 211, 3) := by decide +kernel
theorem dX11_fails_48 : decode cX11_fails 48 = .ok (.ireturn, 1) := by decide +kernel
theorem mk_X11_fails : MVk yX11_fails "FairBlocks" cX11_fails 5 (Option.some FieldType.int) 4 := ⟨w_673, w_671, w_672, w_1, rfl, by decide +kernel, by decide +kernel, by decide +kernel⟩
def BX11_fails_0 (G : Nat → KT) (Q : Option mV → mM → Prop) : KT := (s_aload 0 (s_getr 11 5 (fun _ => 4) (s_iload 1 (s_callV 5 1 pre_X5_has fn_X5_has (s_if (fun x => x = 0) ((s_iconst (-1) (s_iret Q))) (s_at G 13 [true, true, true, true, true]))))))
set_option maxRecDepth 4000 in
theorem bsX11_fails_0 {p : Program} {l : Launch} {e : Env} {s : State} {m : MethodId} {args : Array Value} {below : List Frame} {meth : Method} {c : Code} {D : va_G} {ca : Nat → ClassId} {ad : Nat → Nat} {A : Nat → Prop} {Q : Option mV → mM → Prop} (hX : CX p s m args meth c 5 cX11_fails "FairBlocks" D ca ad A) (hr : meth.sig.returnType = (Option.some FieldType.int)) : ∀ lv st M, BX11_fails_0 (Gd p l e (rmD 5) s m args below meth c 5 D ca ad A 0 0 (MQ below (QC D ca ad A Q) args s 0 0 A)) Q lv st M → Gd p l e (rmD 5) s m args below meth c 5 D ca ad A 0 0 (MQ below (QC D ca ad A Q) args s 0 0 A) 0 lv st M :=
  (sd_aload_n hX dX11_fails_0 rfl (sd_getr hX fl_303 (fun _ => rfl) (fun _ _ _ => by decide +kernel) dX11_fails_1 (sd_iload_n hX dX11_fails_4 rfl (sd_callV hX (kd := 5) rfl (by decide) (ct_X5_has l) mk_X5_has w_397 ⟨⟨by decide, by decide⟩, by decide, by decide⟩ dX11_fails_5 (sd_if_ne hX dX11_fails_8 (by decide) sd_at (sd_iconst hX dX11_fails_11 rfl (sd_iret hX hr dX11_fails_12)))))))
def BX11_fails_13 (G : Nat → KT) (Q : Option mV → mM → Prop) : KT := (s_iload 2 (s_iconst (1) (s_iconst (6) (s_callS 3 pre_X11_within fn_X11_within (s_if (fun x => x = 0) (s_at G 33 [false, false, false, false, false]) (s_iload 3 (s_iconst (0) (s_iconst (10) (s_callS 3 pre_X11_within fn_X11_within (s_if (fun x => x = 0) ((s_at G 33 [false, false, false, false, false])) (s_at G 36 [true, true, true, true, true])))))))))))
set_option maxRecDepth 4000 in
theorem bsX11_fails_13 {p : Program} {l : Launch} {e : Env} {s : State} {m : MethodId} {args : Array Value} {below : List Frame} {meth : Method} {c : Code} {D : va_G} {ca : Nat → ClassId} {ad : Nat → Nat} {A : Nat → Prop} {Q : Option mV → mM → Prop} (hX : CX p s m args meth c 5 cX11_fails "FairBlocks" D ca ad A) (hr : meth.sig.returnType = (Option.some FieldType.int)) : ∀ lv st M, BX11_fails_13 (Gd p l e (rmD 5) s m args below meth c 5 D ca ad A 0 0 (MQ below (QC D ca ad A Q) args s 0 0 A)) Q lv st M → Gd p l e (rmD 5) s m args below meth c 5 D ca ad A 0 0 (MQ below (QC D ca ad A Q) args s 0 0 A) 13 lv st M :=
  (sd_iload_n hX dX11_fails_13 rfl (sd_iconst hX dX11_fails_14 rfl (sd_bipush hX dX11_fails_15 rfl (sd_callS hX (ct_X11_within l) mk_X11_within w_342 ⟨⟨by decide, by decide⟩, by decide, by decide⟩ dX11_fails_17 (sd_if_eq hX dX11_fails_20 (by decide) sd_at (sd_iload_n hX dX11_fails_23 rfl (sd_iconst hX dX11_fails_24 rfl (sd_bipush hX dX11_fails_25 rfl (sd_callS hX (ct_X11_within l) mk_X11_within w_342 ⟨⟨by decide, by decide⟩, by decide, by decide⟩ dX11_fails_27 (sd_if_ne hX dX11_fails_30 (by decide) sd_at sd_at))))))))))
def BX11_fails_33 (G : Nat → KT) (Q : Option mV → mM → Prop) : KT := (s_iconst (-2) (s_iret Q))
set_option maxRecDepth 4000 in
theorem bsX11_fails_33 {p : Program} {l : Launch} {e : Env} {s : State} {m : MethodId} {args : Array Value} {below : List Frame} {meth : Method} {c : Code} {D : va_G} {ca : Nat → ClassId} {ad : Nat → Nat} {A : Nat → Prop} {Q : Option mV → mM → Prop} (hX : CX p s m args meth c 5 cX11_fails "FairBlocks" D ca ad A) (hr : meth.sig.returnType = (Option.some FieldType.int)) : ∀ lv st M, BX11_fails_33 (Gd p l e (rmD 5) s m args below meth c 5 D ca ad A 0 0 (MQ below (QC D ca ad A Q) args s 0 0 A)) Q lv st M → Gd p l e (rmD 5) s m args below meth c 5 D ca ad A 0 0 (MQ below (QC D ca ad A Q) args s 0 0 A) 33 lv st M :=
  (sd_bipush hX dX11_fails_33 rfl (sd_iret hX hr dX11_fails_35))
def BX11_fails_36 (G : Nat → KT) (Q : Option mV → mM → Prop) : KT := (s_aload 0 (s_getr 11 2 (fun _ => 157) (s_iload 1 (s_iload 2 (s_iload 3 (s_iload 4 (s_callV 2 4 pre_X2_emptyBehind fn_X2_emptyBehind (s_iret Q))))))))
set_option maxRecDepth 4000 in
theorem bsX11_fails_36 {p : Program} {l : Launch} {e : Env} {s : State} {m : MethodId} {args : Array Value} {below : List Frame} {meth : Method} {c : Code} {D : va_G} {ca : Nat → ClassId} {ad : Nat → Nat} {A : Nat → Prop} {Q : Option mV → mM → Prop} (hX : CX p s m args meth c 5 cX11_fails "FairBlocks" D ca ad A) (hr : meth.sig.returnType = (Option.some FieldType.int)) : ∀ lv st M, BX11_fails_36 (Gd p l e (rmD 5) s m args below meth c 5 D ca ad A 0 0 (MQ below (QC D ca ad A Q) args s 0 0 A)) Q lv st M → Gd p l e (rmD 5) s m args below meth c 5 D ca ad A 0 0 (MQ below (QC D ca ad A Q) args s 0 0 A) 36 lv st M :=
  (sd_aload_n hX dX11_fails_36 rfl (sd_getr hX fl_311 (fun _ => rfl) (fun _ _ _ => by decide +kernel) dX11_fails_37 (sd_iload_n hX dX11_fails_40 rfl (sd_iload_n hX dX11_fails_41 rfl (sd_iload_n hX dX11_fails_42 rfl (sd_iload hX dX11_fails_43 (sd_callV hX (kd := 2) rfl (by decide) (ct_X2_emptyBehind l) mk_X2_emptyBehind w_674 ⟨⟨by decide, by decide⟩, by decide, by decide⟩ dX11_fails_45 (sd_iret hX hr dX11_fails_48))))))))
set_option maxHeartbeats 400000 in
theorem pf_X11_fails (G : Nat → KT) (Q : Option mV → mM → Prop) (h0 : ∀ lv st M, BX11_fails_0 G Q lv st M → G 0 lv st M) (h13 : ∀ lv st M, BX11_fails_13 G Q lv st M → G 13 lv st M) (h33 : ∀ lv st M, BX11_fails_33 G Q lv st M → G 33 lv st M) (h36 : ∀ lv st M, BX11_fails_36 G Q lv st M → G 36 lv st M) (as : List mV) (M : mM) (ho : ∀ v ∈ as, okV v) (hp : pre_X11_fails as M) (hQ : Q (fn_X11_fails as M).1 (fn_X11_fails as M).2) : G 0 (inL as ++ List.replicate (5 - (inL as).length) none) [] M := by
  obtain ⟨c, u, n, x, w, rfl, hC⟩ := hp
  have hPL := hC.1.1.2
  have hn := n5 hPL
  simp only [fn_X11_fails, c_fails] at hQ
  have F : Q (some (.inl (-2))) M → G 33 [none, none, none, none, none] [] M := by
    intro hQ
    (apply h33; simp only [BX11_fails_33, s_mth, s_mab, s_at, s_iconst, s_lconst, s_iload, s_lload, s_aload, s_istore, s_lstore, s_astore, s_iinc, s_bin, s_binG, s_un, s_lbin, s_lbinG, s_lsh, s_lcmp, s_i2l, s_l2i, s_dup, s_dup2, s_pop, s_if, s_icmp, s_geti, s_getl, s_getr, s_puti, s_putz, s_putl, s_iald, s_zald, s_iast, s_zast, s_aaldS, s_aaldU, s_gets, s_tald, s_tsw, tsw, s_iret, s_zret, s_lret, s_aret, s_vret, s_callV, s_callS, c1, nl1, keepL, csum, pushR, inL, List.getD_cons_zero, List.getD_cons_succ, List.set_cons_zero, List.set_cons_succ, List.cons_append, List.nil_append, List.append_nil, List.replicate, List.length_cons, List.length_nil, List.take_succ_cons, List.take_zero, List.drop_succ_cons, List.drop_zero, List.reverse_cons, List.reverse_nil, true_and, and_true, forall_const, not_true_eq_false, not_false_eq_true, false_implies, true_implies, implies_true, one0, m10, Nat.reduceAdd, Nat.reduceSub, Nat.reduceLeDiff, Nat.zero_add, Nat.add_zero, fn_X11_within, fn_X2_emptyBehind, fn_X5_has])
    exact hQ
  (apply h0; simp only [BX11_fails_0, s_mth, s_mab, s_at, s_iconst, s_lconst, s_iload, s_lload, s_aload, s_istore, s_lstore, s_astore, s_iinc, s_bin, s_binG, s_un, s_lbin, s_lbinG, s_lsh, s_lcmp, s_i2l, s_l2i, s_dup, s_dup2, s_pop, s_if, s_icmp, s_geti, s_getl, s_getr, s_puti, s_putz, s_putl, s_iald, s_zald, s_iast, s_zast, s_aaldS, s_aaldU, s_gets, s_tald, s_tsw, tsw, s_iret, s_zret, s_lret, s_aret, s_vret, s_callV, s_callS, c1, nl1, keepL, csum, pushR, inL, List.getD_cons_zero, List.getD_cons_succ, List.set_cons_zero, List.set_cons_succ, List.cons_append, List.nil_append, List.append_nil, List.replicate, List.length_cons, List.length_nil, List.take_succ_cons, List.take_zero, List.drop_succ_cons, List.drop_zero, List.reverse_cons, List.reverse_nil, true_and, and_true, forall_const, not_true_eq_false, not_false_eq_true, false_implies, true_implies, implies_true, one0, m10, Nat.reduceAdd, Nat.reduceSub, Nat.reduceLeDiff, Nat.zero_add, Nat.add_zero, fn_X11_within, fn_X2_emptyBehind, fn_X5_has])
  refine ⟨⟨_, _, rfl⟩, fun h => ?_, fun h => ?_⟩
  · rw [if_pos h] at hQ; exact hQ
  · rw [if_neg h] at hQ
    obtain ⟨j, hj, e⟩ := hasI_1 hPL h
    (apply h13; simp only [BX11_fails_13, s_mth, s_mab, s_at, s_iconst, s_lconst, s_iload, s_lload, s_aload, s_istore, s_lstore, s_astore, s_iinc, s_bin, s_binG, s_un, s_lbin, s_lbinG, s_lsh, s_lcmp, s_i2l, s_l2i, s_dup, s_dup2, s_pop, s_if, s_icmp, s_geti, s_getl, s_getr, s_puti, s_putz, s_putl, s_iald, s_zald, s_iast, s_zast, s_aaldS, s_aaldU, s_gets, s_tald, s_tsw, tsw, s_iret, s_zret, s_lret, s_aret, s_vret, s_callV, s_callS, c1, nl1, keepL, csum, pushR, inL, List.getD_cons_zero, List.getD_cons_succ, List.set_cons_zero, List.set_cons_succ, List.cons_append, List.nil_append, List.append_nil, List.replicate, List.length_cons, List.length_nil, List.take_succ_cons, List.take_zero, List.drop_succ_cons, List.drop_zero, List.reverse_cons, List.reverse_nil, true_and, and_true, forall_const, not_true_eq_false, not_false_eq_true, false_implies, true_implies, implies_true, one0, m10, Nat.reduceAdd, Nat.reduceSub, Nat.reduceLeDiff, Nat.zero_add, Nat.add_zero, fn_X11_within, fn_X2_emptyBehind, fn_X5_has])
    refine ⟨⟨_, _, _, rfl⟩, fun h2 => ?_, fun h2 => ⟨⟨_, _, _, rfl⟩, fun h3 => ?_, fun h3 => ?_⟩⟩
    · rw [if_pos h2] at hQ; exact F hQ
    · rw [if_neg h2, if_pos h3] at hQ; exact F hQ
    · rw [if_neg h2, if_neg h3] at hQ
      obtain ⟨i, -, h6, ei⟩ := wi_g (d := 1) (c := 6) rfl rfl (by decide) (by decide) h2
      (apply h36; simp only [BX11_fails_36, s_mth, s_mab, s_at, s_iconst, s_lconst, s_iload, s_lload, s_aload, s_istore, s_lstore, s_astore, s_iinc, s_bin, s_binG, s_un, s_lbin, s_lbinG, s_lsh, s_lcmp, s_i2l, s_l2i, s_dup, s_dup2, s_pop, s_if, s_icmp, s_geti, s_getl, s_getr, s_puti, s_putz, s_putl, s_iald, s_zald, s_iast, s_zast, s_aaldS, s_aaldU, s_gets, s_tald, s_tsw, tsw, s_iret, s_zret, s_lret, s_aret, s_vret, s_callV, s_callS, c1, nl1, keepL, csum, pushR, inL, List.getD_cons_zero, List.getD_cons_succ, List.set_cons_zero, List.set_cons_succ, List.cons_append, List.nil_append, List.append_nil, List.replicate, List.length_cons, List.length_nil, List.take_succ_cons, List.take_zero, List.drop_succ_cons, List.drop_zero, List.reverse_cons, List.reverse_nil, true_and, and_true, forall_const, not_true_eq_false, not_false_eq_true, false_implies, true_implies, implies_true, one0, m10, Nat.reduceAdd, Nat.reduceSub, Nat.reduceLeDiff, Nat.zero_add, Nat.add_zero, fn_X11_within, fn_X2_emptyBehind, fn_X5_has])
      exact ⟨⟨_, _, _, _, _, rfl, hC.1.1, ⟨j, by omega, e⟩, i, h6, ei⟩, hQ⟩
theorem ct_X11_fails (l : Launch) : Con l yX11_fails cX11_fails 5 (Option.some FieldType.int) 5 pre_X11_fails fn_X11_fails := con_of (by decide +kernel) ok_X11_fails len_X11_fails (fun p e s m args below meth c D ca ad A as M hX hr hp ho => pf_X11_fails _ _ (bsX11_fails_0 hX hr) (bsX11_fails_13 hX hr) (bsX11_fails_33 hX hr) (bsX11_fails_36 hX hr) as M ho hp ⟨rfl, rfl⟩)
def pre_X11_seed (as : List mV) (M : mM) : Prop := ∃ c v, as = [.inr (.inr (11, c)), .inr (.inl v)]
def fn_X11_seed : List mV → mM → Option mV × mM
  | [.inr (.inr (_, c)), .inr (.inl v)], M => (some (.inr (.inl (M.2 c))), lset M c v)
  | _, M => (none, M)
theorem ok_X11_seed (as : List mV) (M : mM) (h : pre_X11_seed as M) (_ : ∀ v ∈ as, okV v) : okR (fn_X11_seed as M).1 := by
  obtain ⟨c, v, rfl⟩ := h
  first | trivial | exact (by decide +kernel : kof 14 = 8)
theorem len_X11_seed (as : List mV) (M : mM) (h : pre_X11_seed as M) : (inL as).length ≤ 5 := by
  obtain ⟨c, v, rfl⟩ := h
  exact Nat.le_of_ble_eq_true rfl

theorem fl_312 : FLk "FairBlocks" 81 11 11 2 := ⟨RX11, TX11, 12, rfl, inX11, by decide, w_312, by decide, rfl⟩
theorem fp_312 : FPk "FairBlocks" 81 11 11 2 .long := ⟨RX11, TX11, 12, tyX11, rfl, inX11, by decide, w_312, by decide, rfl, tyX11_ok, nmX11, rfl, rfl⟩
theorem dX11_seed_0 : decode cX11_seed 0 = .ok (.aload_n 0, 1) := by decide +kernel
theorem dX11_seed_1 : decode cX11_seed 1 = .ok (.getfield 81, 3) := by decide +kernel
theorem dX11_seed_4 : decode cX11_seed 4 = .ok (.lstore_n 3, 1) := by decide +kernel
theorem dX11_seed_5 : decode cX11_seed 5 = .ok (.aload_n 0, 1) := by decide +kernel
theorem dX11_seed_6 : decode cX11_seed 6 = .ok (.lload_n 1, 1) := by decide +kernel
theorem dX11_seed_7 : decode cX11_seed 7 = .ok (.putfield 81, 3) := by decide +kernel
theorem dX11_seed_10 : decode cX11_seed 10 = .ok (.lload_n 3, 1) := by decide +kernel
theorem dX11_seed_11 : decode cX11_seed 11 = .ok (.lreturn, 1) := by decide +kernel
theorem mk_X11_seed : MVk yX11_seed "FairBlocks" cX11_seed 5 (Option.some FieldType.long) 1 := ⟨w_690, w_688, w_689, w_1, rfl, by decide +kernel, by decide +kernel, by decide +kernel⟩
def BX11_seed_0 (G : Nat → KT) (Q : Option mV → mM → Prop) : KT := (s_aload 0 (s_getl 11 (s_lstore 3 (s_aload 0 (s_lload 1 (s_putl 11 (s_lload 3 (s_lret Q))))))))
set_option maxRecDepth 4000 in
theorem bsX11_seed_0 {p : Program} {l : Launch} {e : Env} {s : State} {m : MethodId} {args : Array Value} {below : List Frame} {meth : Method} {c : Code} {D : va_G} {ca : Nat → ClassId} {ad : Nat → Nat} {A : Nat → Prop} {Q : Option mV → mM → Prop} (hX : CX p s m args meth c 5 cX11_seed "FairBlocks" D ca ad A) (hr : meth.sig.returnType = (Option.some FieldType.long)) : ∀ lv st M, BX11_seed_0 (Gd p l e (rmD 0) s m args below meth c 5 D ca ad A 0 0 (MQ below (QC D ca ad A Q) args s 0 0 A)) Q lv st M → Gd p l e (rmD 0) s m args below meth c 5 D ca ad A 0 0 (MQ below (QC D ca ad A Q) args s 0 0 A) 0 lv st M :=
  (sd_aload_n hX dX11_seed_0 rfl (sd_getl hX fl_312 dX11_seed_1 (sd_lstore_n hX (by decide) dX11_seed_4 rfl (sd_aload_n hX dX11_seed_5 rfl (sd_lload_n hX dX11_seed_6 rfl (sd_putl hX fp_312 l1_11 dX11_seed_7 (sd_lload_n hX dX11_seed_10 rfl (sd_lret hX hr dX11_seed_11))))))))
set_option maxHeartbeats 400000 in
theorem pf_X11_seed (G : Nat → KT) (Q : Option mV → mM → Prop) (h0 : ∀ lv st M, BX11_seed_0 G Q lv st M → G 0 lv st M) (as : List mV) (M : mM) (ho : ∀ v ∈ as, okV v) (hp : pre_X11_seed as M) (hQ : Q (fn_X11_seed as M).1 (fn_X11_seed as M).2) : G 0 (inL as ++ List.replicate (5 - (inL as).length) none) [] M := by
  obtain ⟨c, v, rfl⟩ := hp
  (apply h0; simp only [BX11_seed_0, s_mth, s_mab, s_at, s_iconst, s_lconst, s_iload, s_lload, s_aload, s_istore, s_lstore, s_astore, s_iinc, s_bin, s_binG, s_un, s_lbin, s_lbinG, s_lsh, s_lcmp, s_i2l, s_l2i, s_dup, s_dup2, s_pop, s_if, s_icmp, s_geti, s_getl, s_getr, s_puti, s_putz, s_putl, s_iald, s_zald, s_iast, s_zast, s_aaldS, s_aaldU, s_gets, s_tald, s_tsw, tsw, s_iret, s_zret, s_lret, s_aret, s_vret, s_callV, s_callS, c1, nl1, keepL, csum, pushR, inL, List.getD_cons_zero, List.getD_cons_succ, List.set_cons_zero, List.set_cons_succ, List.cons_append, List.nil_append, List.append_nil, List.replicate, List.length_cons, List.length_nil, List.take_succ_cons, List.take_zero, List.drop_succ_cons, List.drop_zero, List.reverse_cons, List.reverse_nil, true_and, and_true, forall_const, not_true_eq_false, not_false_eq_true, false_implies, true_implies, implies_true, one0, m10, Nat.reduceAdd, Nat.reduceSub, Nat.reduceLeDiff, Nat.zero_add, Nat.add_zero])
  exact hQ
theorem ct_X11_seed (l : Launch) : Con l yX11_seed cX11_seed 5 (Option.some FieldType.long) 0 pre_X11_seed fn_X11_seed := con_of (by decide +kernel) ok_X11_seed len_X11_seed (fun p e s m args below meth c D ca ad A as M hX hr hp ho => pf_X11_seed _ _ (bsX11_seed_0 hX hr) as M ho hp ⟨rfl, rfl⟩)
def dw1 (s : Int64) : Int64 := s * 6364136223846793005 + 1442695040888963407
def dw2 (s : Int64) : Int32 := (s.toUInt64 >>> ((33 : Int32).toInt64.toUInt64 &&& Int64.toUInt64 63)).toInt64.toInt32
theorem dw2_v (s : Int64) : ∃ w, w < 2 ^ 31 ∧ dw2 s = nI w := by
  unfold dw2
  rw [show ((33 : Int32).toInt64.toUInt64 &&& Int64.toUInt64 63) = 33 by decide]
  have h1 : (s.toUInt64 >>> 33).toNat = s.toUInt64.toNat / 2 ^ 33 := by rw [UInt64.toNat_shiftRight, show UInt64.toNat 33 % 64 = 33 by decide, Nat.shiftRight_eq_div_pow]
  have h2 := s.toUInt64.toNat_lt
  refine ⟨(s.toUInt64 >>> 33).toNat, by omega, ?_⟩
  rw [show (s.toUInt64 >>> 33).toInt64 = lN (s.toUInt64 >>> 33).toNat from ?_, lN_i]
  unfold lN
  apply Int64.toBitVec_inj.mp
  apply BitVec.eq_of_toNat_eq
  show (s.toUInt64 >>> 33).toNat = (BitVec.ofNat 64 (s.toUInt64 >>> 33).toNat).toNat
  rw [BitVec.toNat_ofNat, Nat.mod_eq_of_lt (by omega)]
def dwT (M : mM) (s : Int64) : mM := if M.1 4 2 ≤ 0 then M else mset M (16 + (rm (dw2 s / 16) (M.1 4 2)).toNatClampNeg) 4 (if M.1 (16 + (rm (dw2 s / 16) (M.1 4 2)).toNatClampNeg) 4 + rm (dw2 s) 10 ≤ 999 then M.1 (16 + (rm (dw2 s / 16) (M.1 4 2)).toNatClampNeg) 4 + rm (dw2 s) 10 else 999)
def dwM (M : mM) : mM := dwT (lset M 0 (dw1 (M.2 0))) (dw1 (M.2 0))
def dwS (_ : Nat) (q : Int32 × mM) : Int32 × mM := (q.1 + (ro (dwM q.2) 14 0).1, (ro (dwM q.2) 14 0).2)
def c_drawn (M : mM) (m : Int32) : Int32 × mM := if wi m 1 20 = 0 then (-2, M) else itr dwS 0 m.toNatClampNeg (0, stc M 14 7)
theorem GD_lset {M : mM} {k : Nat} {v : Int64} (h : GD M) : GD (lset M k v) := h
theorem dw_ix {M : mM} (hPL : PL M) (s : Int64) (h : ¬ M.1 4 2 ≤ 0) : ¬ M.1 4 2 = 0 ∧ ∃ j, j < 5 ∧ rm (dw2 s / 16) (M.1 4 2) = nI j := by
  obtain ⟨w, hw, e⟩ := dw2_v s
  obtain ⟨N, hN, eN⟩ := hPL.1
  have h0 : 0 < N := by
    rcases Nat.eq_zero_or_pos N with g | g
    · subst g; rw [eN] at h; exact absurd (by decide) h
    · exact g
  rw [eN]
  refine ⟨nI_ne0 h0 (by omega), w / 16 % N, Nat.lt_of_lt_of_le (Nat.mod_lt _ h0) hN, ?_⟩
  rw [e, show (16 : Int32) = nI 16 from rfl, pk_div hw (by decide) (by decide)]
  exact pk_rem (by omega) h0 (by omega)
theorem GD_dwM {M : mM} (h : GD M) : GD (dwM M) := by
  have h1 : GD (lset M 0 (dw1 (M.2 0))) := h
  unfold dwM dwT
  split
  · exact h1
  · next hn =>
    obtain ⟨-, j, hj, e⟩ := dw_ix h1.2 (dw1 (M.2 0)) hn
    rw [e, nI_clamp (by omega)]
    exact GD_u (k := 14) (j := j) k14 hj h1 (Or.inl (by decide))
def pre_X11_drawn (as : List mV) (M : mM) : Prop := ∃ c m, as = [.inr (.inr (11, c)), .inl m] ∧ CI M
def fn_X11_drawn : List mV → mM → Option mV × mM
  | [.inr (.inr (_, c)), .inl m], M => (some (.inl (c_drawn M m).1), (c_drawn M m).2)
  | _, M => (none, M)
theorem ok_X11_drawn (as : List mV) (M : mM) (h : pre_X11_drawn as M) (_ : ∀ v ∈ as, okV v) : okR (fn_X11_drawn as M).1 := by
  obtain ⟨c, m, rfl, -⟩ := h
  first | trivial | exact (by decide +kernel : kof 14 = 8)
theorem len_X11_drawn (as : List mV) (M : mM) (h : pre_X11_drawn as M) : (inL as).length ≤ 6 := by
  obtain ⟨c, m, rfl, -⟩ := h
  exact Nat.le_of_ble_eq_true rfl


theorem dX11_drawn_0 : decode cX11_drawn 0 = .ok (.iload_n 1, 1) := by decide +kernel
theorem dX11_drawn_1 : decode cX11_drawn 1 = .ok (.iconst 1, 1) := by decide +kernel
theorem dX11_drawn_2 : decode cX11_drawn 2 = .ok (.bipush 20, 2) := by decide +kernel
theorem dX11_drawn_4 : decode cX11_drawn 4 = .ok (.invokestatic 85, 3) := by decide +kernel
theorem dX11_drawn_7 : decode cX11_drawn 7 = .ok (.ifCond .ne 6, 3) := by decide +kernel
theorem dX11_drawn_10 : decode cX11_drawn 10 = .ok (.bipush (-2), 2) := by decide +kernel
theorem dX11_drawn_12 : decode cX11_drawn 12 = .ok (.ireturn, 1) := by decide +kernel
theorem dX11_drawn_13 : decode cX11_drawn 13 = .ok (.aload_n 0, 1) := by decide +kernel
theorem dX11_drawn_14 : decode cX11_drawn 14 = .ok (.getfield 19, 3) := by decide +kernel
theorem dX11_drawn_17 : decode cX11_drawn 17 = .ok (.invokevirtual 169, 3) := by decide +kernel
theorem dX11_drawn_20 : decode cX11_drawn 20 = .ok (.astore_n 2, 1) := by decide +kernel
theorem dX11_drawn_21 : decode cX11_drawn 21 = .ok (.iconst 0, 1) := by decide +kernel
theorem dX11_drawn_22 : decode cX11_drawn 22 = .ok (.istore_n 3, 1) := by decide +kernel
theorem dX11_drawn_23 : decode cX11_drawn 23 = .ok (.iconst 0, 1) := by decide +kernel
theorem dX11_drawn_24 : decode cX11_drawn 24 = .ok (.istore 4, 2) := by decide +kernel
theorem dX11_drawn_26 : decode cX11_drawn 26 = .ok (.iload 4, 2) := by decide +kernel
theorem dX11_drawn_28 : decode cX11_drawn 28 = .ok (.iload_n 1, 1) := by decide +kernel
theorem dX11_drawn_29 : decode cX11_drawn 29 = .ok (.if_icmp .ge 86, 3) := by decide +kernel
theorem dX11_drawn_32 : decode cX11_drawn 32 = .ok (.aload_n 0, 1) := by decide +kernel
theorem dX11_drawn_33 : decode cX11_drawn 33 = .ok (.aload_n 0, 1) := by decide +kernel
theorem dX11_drawn_34 : decode cX11_drawn 34 = .ok (.getfield 81, 3) := by decide +kernel
theorem dX11_drawn_37 : decode cX11_drawn 37 = .ok (.ldc2_w 215, 3) := by decide +kernel
theorem dX11_drawn_40 : decode cX11_drawn 40 = .ok (.lmul, 1) := by decide +kernel
theorem dX11_drawn_41 : decode cX11_drawn 41 = .ok (.ldc2_w 217, 3) := by decide +kernel
theorem dX11_drawn_44 : decode cX11_drawn 44 = .ok (.ladd, 1) := by decide +kernel
theorem dX11_drawn_45 : decode cX11_drawn 45 = .ok (.putfield 81, 3) := by decide +kernel
theorem dX11_drawn_48 : decode cX11_drawn 48 = .ok (.aload_n 0, 1) := by decide +kernel
theorem dX11_drawn_49 : decode cX11_drawn 49 = .ok (.getfield 81, 3) := by decide +kernel
theorem dX11_drawn_52 : decode cX11_drawn 52 = .ok (.bipush 33, 2) := by decide +kernel
theorem dX11_drawn_54 : decode cX11_drawn 54 = .ok (.lushr, 1) := by decide +kernel
theorem dX11_drawn_55 : decode cX11_drawn 55 = .ok (.l2i, 1) := by decide +kernel
theorem dX11_drawn_56 : decode cX11_drawn 56 = .ok (.istore 5, 2) := by decide +kernel
theorem dX11_drawn_58 : decode cX11_drawn 58 = .ok (.aload_n 0, 1) := by decide +kernel
theorem dX11_drawn_59 : decode cX11_drawn 59 = .ok (.getfield 27, 3) := by decide +kernel
theorem dX11_drawn_62 : decode cX11_drawn 62 = .ok (.getfield 108, 3) := by decide +kernel
theorem dX11_drawn_65 : decode cX11_drawn 65 = .ok (.ifCond .le 29, 3) := by decide +kernel
theorem dX11_drawn_68 : decode cX11_drawn 68 = .ok (.aload_n 2, 1) := by decide +kernel
theorem dX11_drawn_69 : decode cX11_drawn 69 = .ok (.getfield 124, 3) := by decide +kernel
theorem dX11_drawn_72 : decode cX11_drawn 72 = .ok (.iload 5, 2) := by decide +kernel
theorem dX11_drawn_74 : decode cX11_drawn 74 = .ok (.bipush 16, 2) := by decide +kernel
theorem dX11_drawn_76 : decode cX11_drawn 76 = .ok (.idiv, 1) := by decide +kernel
theorem dX11_drawn_77 : decode cX11_drawn 77 = .ok (.aload_n 0, 1) := by decide +kernel
theorem dX11_drawn_78 : decode cX11_drawn 78 = .ok (.getfield 27, 3) := by decide +kernel
theorem dX11_drawn_81 : decode cX11_drawn 81 = .ok (.getfield 108, 3) := by decide +kernel
theorem dX11_drawn_84 : decode cX11_drawn 84 = .ok (.irem, 1) := by decide +kernel
theorem dX11_drawn_85 : decode cX11_drawn 85 = .ok (.aaload, 1) := by decide +kernel
theorem dX11_drawn_86 : decode cX11_drawn 86 = .ok (.iload 5, 2) := by decide +kernel
theorem dX11_drawn_88 : decode cX11_drawn 88 = .ok (.bipush 10, 2) := by decide +kernel
theorem dX11_drawn_90 : decode cX11_drawn 90 = .ok (.irem, 1) := by decide +kernel
theorem dX11_drawn_91 : decode cX11_drawn 91 = .ok (.invokevirtual 219, 3) := by decide +kernel
theorem dX11_drawn_94 : decode cX11_drawn 94 = .ok (.iload_n 3, 1) := by decide +kernel
theorem dX11_drawn_95 : decode cX11_drawn 95 = .ok (.aload_n 0, 1) := by decide +kernel
theorem dX11_drawn_96 : decode cX11_drawn 96 = .ok (.getfield 19, 3) := by decide +kernel
theorem dX11_drawn_99 : decode cX11_drawn 99 = .ok (.getfield 137, 3) := by decide +kernel
theorem dX11_drawn_102 : decode cX11_drawn 102 = .ok (.aload_n 2, 1) := by decide +kernel
theorem dX11_drawn_103 : decode cX11_drawn 103 = .ok (.iconst 0, 1) := by decide +kernel
theorem dX11_drawn_104 : decode cX11_drawn 104 = .ok (.invokevirtual 176, 3) := by decide +kernel
theorem dX11_drawn_107 : decode cX11_drawn 107 = .ok (.iadd, 1) := by decide +kernel
theorem dX11_drawn_108 : decode cX11_drawn 108 = .ok (.istore_n 3, 1) := by decide +kernel
theorem dX11_drawn_109 : decode cX11_drawn 109 = .ok (.iinc 4 1, 3) := by decide +kernel
theorem dX11_drawn_112 : decode cX11_drawn 112 = .ok (.goto (-86), 3) := by decide +kernel
theorem dX11_drawn_115 : decode cX11_drawn 115 = .ok (.iload_n 3, 1) := by decide +kernel
theorem dX11_drawn_116 : decode cX11_drawn 116 = .ok (.ireturn, 1) := by decide +kernel
theorem mk_X11_drawn : MVk yX11_drawn "FairBlocks" cX11_drawn 6 (Option.some FieldType.int) 1 := ⟨w_694, w_692, w_693, w_1, rfl, by decide +kernel, by decide +kernel, by decide +kernel⟩
def BX11_drawn_0 (G : Nat → KT) (Q : Option mV → mM → Prop) : KT := (s_iload 1 (s_iconst (1) (s_iconst (20) (s_callS 3 pre_X11_within fn_X11_within (s_if (fun x => x = 0) ((s_iconst (-2) (s_iret Q))) (s_at G 13 [true, true, false, false, false, false]))))))
set_option maxRecDepth 4000 in
theorem bsX11_drawn_0 {p : Program} {l : Launch} {e : Env} {s : State} {m : MethodId} {args : Array Value} {below : List Frame} {meth : Method} {c : Code} {D : va_G} {ca : Nat → ClassId} {ad : Nat → Nat} {A : Nat → Prop} {Q : Option mV → mM → Prop} (hX : CX p s m args meth c 6 cX11_drawn "FairBlocks" D ca ad A) (hr : meth.sig.returnType = (Option.some FieldType.int)) : ∀ lv st M, BX11_drawn_0 (Gd p l e (rmD 3) s m args below meth c 6 D ca ad A 0 0 (MQ below (QC D ca ad A Q) args s 0 0 A)) Q lv st M → Gd p l e (rmD 3) s m args below meth c 6 D ca ad A 0 0 (MQ below (QC D ca ad A Q) args s 0 0 A) 0 lv st M :=
  (sd_iload_n hX dX11_drawn_0 rfl (sd_iconst hX dX11_drawn_1 rfl (sd_bipush hX dX11_drawn_2 rfl (sd_callS hX (ct_X11_within l) mk_X11_within w_342 ⟨⟨by decide, by decide⟩, by decide, by decide⟩ dX11_drawn_4 (sd_if_ne hX dX11_drawn_7 (by decide) sd_at (sd_bipush hX dX11_drawn_10 rfl (sd_iret hX hr dX11_drawn_12)))))))
def BX11_drawn_13 (G : Nat → KT) (Q : Option mV → mM → Prop) : KT := (s_aload 0 (s_getr 11 1 (fun _ => 3) (s_callV 1 0 pre_X1_freshTrial fn_X1_freshTrial (s_astore 2 (s_iconst (0) (s_istore 3 (s_iconst (0) (s_istore 4 (s_at G 26 [true, true, true, true, true, false])))))))))
set_option maxRecDepth 4000 in
theorem bsX11_drawn_13 {p : Program} {l : Launch} {e : Env} {s : State} {m : MethodId} {args : Array Value} {below : List Frame} {meth : Method} {c : Code} {D : va_G} {ca : Nat → ClassId} {ad : Nat → Nat} {A : Nat → Prop} {Q : Option mV → mM → Prop} (hX : CX p s m args meth c 6 cX11_drawn "FairBlocks" D ca ad A) (hr : meth.sig.returnType = (Option.some FieldType.int)) : ∀ lv st M, BX11_drawn_13 (Gd p l e (rmD 3) s m args below meth c 6 D ca ad A 0 0 (MQ below (QC D ca ad A Q) args s 0 0 A)) Q lv st M → Gd p l e (rmD 3) s m args below meth c 6 D ca ad A 0 0 (MQ below (QC D ca ad A Q) args s 0 0 A) 13 lv st M :=
  (sd_aload_n hX dX11_drawn_13 rfl (sd_getr hX fl_302 (fun _ => rfl) (fun _ _ _ => by decide +kernel) dX11_drawn_14 (sd_callV hX (kd := 1) rfl (by decide) (ct_X1_freshTrial l) mk_X1_freshTrial w_506 ⟨⟨by decide, by decide⟩, by decide, by decide⟩ dX11_drawn_17 (sd_astore_n hX (by decide) dX11_drawn_20 rfl (sd_iconst hX dX11_drawn_21 rfl (sd_istore_n hX (by decide) dX11_drawn_22 rfl (sd_iconst hX dX11_drawn_23 rfl (sd_istore hX (by decide) dX11_drawn_24 sd_at))))))))
def BX11_drawn_26 (G : Nat → KT) (Q : Option mV → mM → Prop) : KT := (s_iload 4 (s_iload 1 (s_icmp (fun x y => y ≤ x) (s_at G 115 [false, false, false, true, false, false]) (s_aload 0 (s_aload 0 (s_getl 11 (s_lconst (6364136223846793005) (s_lbin (fun x y => x * y) (s_lconst (1442695040888963407) (s_lbin (fun x y => x + y) (s_putl 11 (s_aload 0 (s_getl 11 (s_iconst (33) (s_lsh (fun x y => (x.toUInt64 >>> (y.toInt64.toUInt64 &&& Int64.toUInt64 63)).toInt64) (s_l2i (s_istore 5 (s_aload 0 (s_getr 11 5 (fun _ => 4) (s_geti 5 2 (s_if (fun x => x ≤ 0) (s_at G 94 [true, true, true, true, true, false]) (s_aload 2 (s_getr 8 16 (fun k => k + 1) (s_iload 5 (s_iconst (16) (s_binG (fun x y => x / y) (s_aload 0 (s_getr 11 5 (fun _ => 4) (s_geti 5 2 (s_binG (fun x y => x - x / y * y) (s_aaldU (s_iload 5 (s_iconst (10) (s_binG (fun x y => x - x / y * y) (s_callV 10 1 pre_X10_takeIn fn_X10_takeIn (s_at G 94 [true, true, true, true, true, false]))))))))))))))))))))))))))))))))))))
set_option maxRecDepth 4000 in
theorem bsX11_drawn_26 {p : Program} {l : Launch} {e : Env} {s : State} {m : MethodId} {args : Array Value} {below : List Frame} {meth : Method} {c : Code} {D : va_G} {ca : Nat → ClassId} {ad : Nat → Nat} {A : Nat → Prop} {Q : Option mV → mM → Prop} (hX : CX p s m args meth c 6 cX11_drawn "FairBlocks" D ca ad A) (hr : meth.sig.returnType = (Option.some FieldType.int)) : ∀ lv st M, BX11_drawn_26 (Gd p l e (rmD 3) s m args below meth c 6 D ca ad A 0 0 (MQ below (QC D ca ad A Q) args s 0 0 A)) Q lv st M → Gd p l e (rmD 3) s m args below meth c 6 D ca ad A 0 0 (MQ below (QC D ca ad A Q) args s 0 0 A) 26 lv st M :=
  (sd_iload hX dX11_drawn_26 (sd_iload_n hX dX11_drawn_28 rfl (sd_icmp_ge hX dX11_drawn_29 (by decide) sd_at (sd_aload_n hX dX11_drawn_32 rfl (sd_aload_n hX dX11_drawn_33 rfl (sd_getl hX fl_312 dX11_drawn_34 (sd_ldc2 hX w_695 dX11_drawn_37 (sd_lmul hX dX11_drawn_40 (sd_ldc2 hX w_696 dX11_drawn_41 (sd_ladd hX dX11_drawn_44 (sd_putl hX fp_312 l1_11 dX11_drawn_45 (sd_aload_n hX dX11_drawn_48 rfl (sd_getl hX fl_312 dX11_drawn_49 (sd_bipush hX dX11_drawn_52 rfl (sd_lushr hX dX11_drawn_54 (sd_l2i hX dX11_drawn_55 (sd_istore hX (by decide) dX11_drawn_56 (sd_aload_n hX dX11_drawn_58 rfl (sd_getr hX fl_303 (fun _ => rfl) (fun _ _ _ => by decide +kernel) dX11_drawn_59 (sd_geti hX fl_65 (by decide) dX11_drawn_62 (sd_if_le hX dX11_drawn_65 (by decide) sd_at (sd_aload_n hX dX11_drawn_68 rfl (sd_getr hX fl_148 (fun _ => rfl) okA dX11_drawn_69 (sd_iload hX dX11_drawn_72 (sd_bipush hX dX11_drawn_74 rfl (sd_idiv hX dX11_drawn_76 (sd_aload_n hX dX11_drawn_77 rfl (sd_getr hX fl_303 (fun _ => rfl) (fun _ _ _ => by decide +kernel) dX11_drawn_78 (sd_geti hX fl_65 (by decide) dX11_drawn_81 (sd_irem hX dX11_drawn_84 (sd_aaldU hX dX11_drawn_85 (sd_iload hX dX11_drawn_86 (sd_bipush hX dX11_drawn_88 rfl (sd_irem hX dX11_drawn_90 (sd_callV hX (kd := 10) rfl (by decide) (ct_X10_takeIn l) mk_X10_takeIn w_697 ⟨⟨by decide, by decide⟩, by decide, by decide⟩ dX11_drawn_91 sd_at)))))))))))))))))))))))))))))))))))
def BX11_drawn_94 (G : Nat → KT) (Q : Option mV → mM → Prop) : KT := (s_iload 3 (s_aload 0 (s_getr 11 1 (fun _ => 3) (s_getr 1 6 (fun _ => 21) (s_aload 2 (s_iconst (0) (s_callV 6 2 pre_X6_runOne fn_X6_runOne (s_bin (fun x y => x + y) (s_istore 3 (s_iinc 4 (1) (s_at G 26 [true, true, true, true, true, false])))))))))))
set_option maxRecDepth 4000 in
theorem bsX11_drawn_94 {p : Program} {l : Launch} {e : Env} {s : State} {m : MethodId} {args : Array Value} {below : List Frame} {meth : Method} {c : Code} {D : va_G} {ca : Nat → ClassId} {ad : Nat → Nat} {A : Nat → Prop} {Q : Option mV → mM → Prop} (hX : CX p s m args meth c 6 cX11_drawn "FairBlocks" D ca ad A) (hr : meth.sig.returnType = (Option.some FieldType.int)) : ∀ lv st M, BX11_drawn_94 (Gd p l e (rmD 3) s m args below meth c 6 D ca ad A 0 0 (MQ below (QC D ca ad A Q) args s 0 0 A)) Q lv st M → Gd p l e (rmD 3) s m args below meth c 6 D ca ad A 0 0 (MQ below (QC D ca ad A Q) args s 0 0 A) 94 lv st M :=
  (sd_iload_n hX dX11_drawn_94 rfl (sd_aload_n hX dX11_drawn_95 rfl (sd_getr hX fl_302 (fun _ => rfl) (fun _ _ _ => by decide +kernel) dX11_drawn_96 (sd_getr hX fl_204 (fun _ => rfl) (fun _ _ _ => by decide +kernel) dX11_drawn_99 (sd_aload_n hX dX11_drawn_102 rfl (sd_iconst hX dX11_drawn_103 rfl (sd_callV hX (kd := 6) rfl (by decide) (ct_X6_runOne l) mk_X6_runOne w_515 ⟨⟨by decide, by decide⟩, by decide, by decide⟩ dX11_drawn_104 (sd_iadd hX dX11_drawn_107 (sd_istore_n hX (by decide) dX11_drawn_108 rfl (sd_iinc hX (by decide) dX11_drawn_109 rfl (sd_goto hX dX11_drawn_112 (by decide) sd_at)))))))))))
def BX11_drawn_115 (G : Nat → KT) (Q : Option mV → mM → Prop) : KT := (s_iload 3 (s_iret Q))
set_option maxRecDepth 4000 in
theorem bsX11_drawn_115 {p : Program} {l : Launch} {e : Env} {s : State} {m : MethodId} {args : Array Value} {below : List Frame} {meth : Method} {c : Code} {D : va_G} {ca : Nat → ClassId} {ad : Nat → Nat} {A : Nat → Prop} {Q : Option mV → mM → Prop} (hX : CX p s m args meth c 6 cX11_drawn "FairBlocks" D ca ad A) (hr : meth.sig.returnType = (Option.some FieldType.int)) : ∀ lv st M, BX11_drawn_115 (Gd p l e (rmD 3) s m args below meth c 6 D ca ad A 0 0 (MQ below (QC D ca ad A Q) args s 0 0 A)) Q lv st M → Gd p l e (rmD 3) s m args below meth c 6 D ca ad A 0 0 (MQ below (QC D ca ad A Q) args s 0 0 A) 115 lv st M :=
  (sd_iload_n hX dX11_drawn_115 rfl (sd_iret hX hr dX11_drawn_116))
set_option maxHeartbeats 400000 in
theorem pf_X11_drawn (G : Nat → KT) (Q : Option mV → mM → Prop) (h0 : ∀ lv st M, BX11_drawn_0 G Q lv st M → G 0 lv st M) (h13 : ∀ lv st M, BX11_drawn_13 G Q lv st M → G 13 lv st M) (h26 : ∀ lv st M, BX11_drawn_26 G Q lv st M → G 26 lv st M) (h94 : ∀ lv st M, BX11_drawn_94 G Q lv st M → G 94 lv st M) (h115 : ∀ lv st M, BX11_drawn_115 G Q lv st M → G 115 lv st M) (as : List mV) (M : mM) (ho : ∀ v ∈ as, okV v) (hp : pre_X11_drawn as M) (hQ : Q (fn_X11_drawn as M).1 (fn_X11_drawn as M).2) : G 0 (inL as ++ List.replicate (6 - (inL as).length) none) [] M := by
  obtain ⟨c, m, rfl, hC⟩ := hp
  obtain rfl : c = 0 := k11 (ho (.inr (.inr (11, c))) (by simp))
  simp only [fn_X11_drawn, c_drawn] at hQ
  (apply h0; simp only [BX11_drawn_0, s_mth, s_mab, s_at, s_iconst, s_lconst, s_iload, s_lload, s_aload, s_istore, s_lstore, s_astore, s_iinc, s_bin, s_binG, s_un, s_lbin, s_lbinG, s_lsh, s_lcmp, s_i2l, s_l2i, s_dup, s_dup2, s_pop, s_if, s_icmp, s_geti, s_getl, s_getr, s_puti, s_putz, s_putl, s_iald, s_zald, s_iast, s_zast, s_aaldS, s_aaldU, s_gets, s_tald, s_tsw, tsw, s_iret, s_zret, s_lret, s_aret, s_vret, s_callV, s_callS, c1, nl1, keepL, csum, pushR, inL, List.getD_cons_zero, List.getD_cons_succ, List.set_cons_zero, List.set_cons_succ, List.cons_append, List.nil_append, List.append_nil, List.replicate, List.length_cons, List.length_nil, List.take_succ_cons, List.take_zero, List.drop_succ_cons, List.drop_zero, List.reverse_cons, List.reverse_nil, true_and, and_true, forall_const, not_true_eq_false, not_false_eq_true, false_implies, true_implies, implies_true, one0, m10, Nat.reduceAdd, Nat.reduceSub, Nat.reduceLeDiff, Nat.zero_add, Nat.add_zero, fn_X10_takeIn, fn_X11_within, fn_X1_freshTrial, fn_X6_runOne])
  refine ⟨⟨_, _, _, rfl⟩, fun h => ?_, fun h => ?_⟩
  · rw [if_pos h] at hQ; exact hQ
  · rw [if_neg h] at hQ
    obtain ⟨N, -, h20, rfl⟩ := wi_g (d := 1) (c := 20) rfl rfl (by decide) (by decide) h
    rw [nI_clamp (by omega)] at hQ
    have loop : ∀ (n i : Nat) (t : Int32) (M : mM), i + n = N → GD M → Q (some (.inl (itr dwS i n (t, M)).1)) (itr dwS i n (t, M)).2 → G 26 [some (.inr (.inr (11, 0))), some (.inl (nI N)), some (.inr (.inr (8, 14))), some (.inl t), some (.inl (nI i)), none] [] M := by
      intro n
      induction n with
      | zero =>
        intro i t M hi hG hq
        obtain rfl : i = N := by omega
        (apply h26; simp only [BX11_drawn_26, s_mth, s_mab, s_at, s_iconst, s_lconst, s_iload, s_lload, s_aload, s_istore, s_lstore, s_astore, s_iinc, s_bin, s_binG, s_un, s_lbin, s_lbinG, s_lsh, s_lcmp, s_i2l, s_l2i, s_dup, s_dup2, s_pop, s_if, s_icmp, s_geti, s_getl, s_getr, s_puti, s_putz, s_putl, s_iald, s_zald, s_iast, s_zast, s_aaldS, s_aaldU, s_gets, s_tald, s_tsw, tsw, s_iret, s_zret, s_lret, s_aret, s_vret, s_callV, s_callS, c1, nl1, keepL, csum, pushR, inL, List.getD_cons_zero, List.getD_cons_succ, List.set_cons_zero, List.set_cons_succ, List.cons_append, List.nil_append, List.append_nil, List.replicate, List.length_cons, List.length_nil, List.take_succ_cons, List.take_zero, List.drop_succ_cons, List.drop_zero, List.reverse_cons, List.reverse_nil, true_and, and_true, forall_const, not_true_eq_false, not_false_eq_true, false_implies, true_implies, implies_true, one0, m10, Nat.reduceAdd, Nat.reduceSub, Nat.reduceLeDiff, Nat.zero_add, Nat.add_zero, fn_X10_takeIn, fn_X11_within, fn_X1_freshTrial, fn_X6_runOne])
        refine ⟨fun _ => ?_, fun h => absurd (nI_le (Nat.le_refl _) (by omega)) h⟩
        (apply h115; simp only [BX11_drawn_115, s_mth, s_mab, s_at, s_iconst, s_lconst, s_iload, s_lload, s_aload, s_istore, s_lstore, s_astore, s_iinc, s_bin, s_binG, s_un, s_lbin, s_lbinG, s_lsh, s_lcmp, s_i2l, s_l2i, s_dup, s_dup2, s_pop, s_if, s_icmp, s_geti, s_getl, s_getr, s_puti, s_putz, s_putl, s_iald, s_zald, s_iast, s_zast, s_aaldS, s_aaldU, s_gets, s_tald, s_tsw, tsw, s_iret, s_zret, s_lret, s_aret, s_vret, s_callV, s_callS, c1, nl1, keepL, csum, pushR, inL, List.getD_cons_zero, List.getD_cons_succ, List.set_cons_zero, List.set_cons_succ, List.cons_append, List.nil_append, List.append_nil, List.replicate, List.length_cons, List.length_nil, List.take_succ_cons, List.take_zero, List.drop_succ_cons, List.drop_zero, List.reverse_cons, List.reverse_nil, true_and, and_true, forall_const, not_true_eq_false, not_false_eq_true, false_implies, true_implies, implies_true, one0, m10, Nat.reduceAdd, Nat.reduceSub, Nat.reduceLeDiff, Nat.zero_add, Nat.add_zero, fn_X10_takeIn, fn_X11_within, fn_X1_freshTrial, fn_X6_runOne])
        exact hq
      | succ n ih =>
        intro i t M hi hG hq
        have hd := GD_dwM hG
        have L : G 94 [some (.inr (.inr (11, 0))), some (.inl (nI N)), some (.inr (.inr (8, 14))), some (.inl t), some (.inl (nI i)), none] [] (dwM M) := by
          (apply h94; simp only [BX11_drawn_94, s_mth, s_mab, s_at, s_iconst, s_lconst, s_iload, s_lload, s_aload, s_istore, s_lstore, s_astore, s_iinc, s_bin, s_binG, s_un, s_lbin, s_lbinG, s_lsh, s_lcmp, s_i2l, s_l2i, s_dup, s_dup2, s_pop, s_if, s_icmp, s_geti, s_getl, s_getr, s_puti, s_putz, s_putl, s_iald, s_zald, s_iast, s_zast, s_aaldS, s_aaldU, s_gets, s_tald, s_tsw, tsw, s_iret, s_zret, s_lret, s_aret, s_vret, s_callV, s_callS, c1, nl1, keepL, csum, pushR, inL, List.getD_cons_zero, List.getD_cons_succ, List.set_cons_zero, List.set_cons_succ, List.cons_append, List.nil_append, List.append_nil, List.replicate, List.length_cons, List.length_nil, List.take_succ_cons, List.take_zero, List.drop_succ_cons, List.drop_zero, List.reverse_cons, List.reverse_nil, true_and, and_true, forall_const, not_true_eq_false, not_false_eq_true, false_implies, true_implies, implies_true, one0, m10, Nat.reduceAdd, Nat.reduceSub, Nat.reduceLeDiff, Nat.zero_add, Nat.add_zero, fn_X10_takeIn, fn_X11_within, fn_X1_freshTrial, fn_X6_runOne])
          refine ⟨⟨_, _, _, rfl, hd.2⟩, ?_⟩
          rw [nI_1]
          exact ih (i + 1) _ _ (by omega) (GD_ro k14 hd) hq
        have h1 : GD (lset M 0 (dw1 (M.2 0))) := hG
        have el : (lset M 0 (dw1 (M.2 0))).2 0 = dw1 (M.2 0) := by rw [lset_2, if_pos rfl]
        have e1 : M.2 0 * 6364136223846793005 + 1442695040888963407 = dw1 (M.2 0) := rfl
        unfold dwM at L
        (apply h26; simp only [BX11_drawn_26, s_mth, s_mab, s_at, s_iconst, s_lconst, s_iload, s_lload, s_aload, s_istore, s_lstore, s_astore, s_iinc, s_bin, s_binG, s_un, s_lbin, s_lbinG, s_lsh, s_lcmp, s_i2l, s_l2i, s_dup, s_dup2, s_pop, s_if, s_icmp, s_geti, s_getl, s_getr, s_puti, s_putz, s_putl, s_iald, s_zald, s_iast, s_zast, s_aaldS, s_aaldU, s_gets, s_tald, s_tsw, tsw, s_iret, s_zret, s_lret, s_aret, s_vret, s_callV, s_callS, c1, nl1, keepL, csum, pushR, inL, List.getD_cons_zero, List.getD_cons_succ, List.set_cons_zero, List.set_cons_succ, List.cons_append, List.nil_append, List.append_nil, List.replicate, List.length_cons, List.length_nil, List.take_succ_cons, List.take_zero, List.drop_succ_cons, List.drop_zero, List.reverse_cons, List.reverse_nil, true_and, and_true, forall_const, not_true_eq_false, not_false_eq_true, false_implies, true_implies, implies_true, one0, m10, Nat.reduceAdd, Nat.reduceSub, Nat.reduceLeDiff, Nat.zero_add, Nat.add_zero, fn_X10_takeIn, fn_X11_within, fn_X1_freshTrial, fn_X6_runOne])
        simp only [e1, el]
        generalize lset M 0 (dw1 (M.2 0)) = M1 at *
        generalize dw1 (M.2 0) = s at *
        refine ⟨fun h => absurd h (nI_ge (by omega) (by omega)), fun _ => ⟨fun h2 => ?_, fun h2 => ?_⟩⟩
        · rw [dwT, if_pos h2] at L
          exact L
        · rw [dwT, if_neg h2] at L
          obtain ⟨hz, j, hj, ej⟩ := dw_ix h1.2 s h2
          refine ⟨by decide, hz, ?_, by decide, ⟨_, _, rfl⟩, L⟩
          rw [l15]
          have e3 : vp_in (rm (dw2 s / 16) (M1.1 4 2)) 5 := by rw [ej]; exact vp_in_nI hj (by decide)
          exact e3
    (apply h13; simp only [BX11_drawn_13, s_mth, s_mab, s_at, s_iconst, s_lconst, s_iload, s_lload, s_aload, s_istore, s_lstore, s_astore, s_iinc, s_bin, s_binG, s_un, s_lbin, s_lbinG, s_lsh, s_lcmp, s_i2l, s_l2i, s_dup, s_dup2, s_pop, s_if, s_icmp, s_geti, s_getl, s_getr, s_puti, s_putz, s_putl, s_iald, s_zald, s_iast, s_zast, s_aaldS, s_aaldU, s_gets, s_tald, s_tsw, tsw, s_iret, s_zret, s_lret, s_aret, s_vret, s_callV, s_callS, c1, nl1, keepL, csum, pushR, inL, List.getD_cons_zero, List.getD_cons_succ, List.set_cons_zero, List.set_cons_succ, List.cons_append, List.nil_append, List.append_nil, List.replicate, List.length_cons, List.length_nil, List.take_succ_cons, List.take_zero, List.drop_succ_cons, List.drop_zero, List.reverse_cons, List.reverse_nil, true_and, and_true, forall_const, not_true_eq_false, not_false_eq_true, false_implies, true_implies, implies_true, one0, m10, Nat.reduceAdd, Nat.reduceSub, Nat.reduceLeDiff, Nat.zero_add, Nat.add_zero, fn_X10_takeIn, fn_X11_within, fn_X1_freshTrial, fn_X6_runOne])
    exact ⟨⟨_, rfl, hC.1.1.1⟩, loop N 0 0 _ (by omega) (GD_stc k14 k7 hC.1.1) hQ⟩
theorem ct_X11_drawn (l : Launch) : Con l yX11_drawn cX11_drawn 6 (Option.some FieldType.int) 3 pre_X11_drawn fn_X11_drawn := con_of (by decide +kernel) ok_X11_drawn len_X11_drawn (fun p e s m args below meth c D ca ad A as M hX hr hp ho => pf_X11_drawn _ _ (bsX11_drawn_0 hX hr) (bsX11_drawn_13 hX hr) (bsX11_drawn_26 hX hr) (bsX11_drawn_94 hX hr) (bsX11_drawn_115 hX hr) as M ho hp ⟨rfl, rfl⟩)
theorem l126 : ln 126 = 2 := by decide +kernel
theorem k127 {j : Nat} (h : j < 2) : kof (127 + 7 * j) = 8 := okS 126 (by decide) (by decide +kernel) j (by rw [l126]; exact h)
def c_keep (M : mM) (s : Int32) : Int32 × mM := if wi s 0 1 = 0 then (-1, M) else ((mset (stc M (127 + 7 * s.toNatClampNeg) 7) 141 s.toNatClampNeg 1).1 7 2, mset (stc M (127 + 7 * s.toNatClampNeg) 7) 141 s.toNatClampNeg 1)
def pre_X11_keep (as : List mV) (M : mM) : Prop := ∃ c s, as = [.inr (.inr (11, c)), .inl s] ∧ CI M
def fn_X11_keep : List mV → mM → Option mV × mM
  | [.inr (.inr (_, c)), .inl s], M => (some (.inl (c_keep M s).1), (c_keep M s).2)
  | _, M => (none, M)
theorem ok_X11_keep (as : List mV) (M : mM) (h : pre_X11_keep as M) (_ : ∀ v ∈ as, okV v) : okR (fn_X11_keep as M).1 := by
  obtain ⟨c, s, rfl, -⟩ := h
  first | trivial | exact (by decide +kernel : kof 14 = 8)
theorem len_X11_keep (as : List mV) (M : mM) (h : pre_X11_keep as M) : (inL as).length ≤ 2 := by
  obtain ⟨c, s, rfl, -⟩ := h
  exact Nat.le_of_ble_eq_true rfl

theorem fl_306 : FLk "FairBlocks" 42 11 5 18 := ⟨RX11, TX11, 12, rfl, inX11, by decide, w_306, by decide, rfl⟩
theorem dX11_keep_0 : decode cX11_keep 0 = .ok (.iload_n 1, 1) := by decide +kernel
theorem dX11_keep_1 : decode cX11_keep 1 = .ok (.iconst 0, 1) := by decide +kernel
theorem dX11_keep_2 : decode cX11_keep 2 = .ok (.iconst 1, 1) := by decide +kernel
theorem dX11_keep_3 : decode cX11_keep 3 = .ok (.invokestatic 85, 3) := by decide +kernel
theorem dX11_keep_6 : decode cX11_keep 6 = .ok (.ifCond .ne 5, 3) := by decide +kernel
theorem dX11_keep_9 : decode cX11_keep 9 = .ok (.iconst (-1), 1) := by decide +kernel
theorem dX11_keep_10 : decode cX11_keep 10 = .ok (.ireturn, 1) := by decide +kernel
theorem dX11_keep_11 : decode cX11_keep 11 = .ok (.aload_n 0, 1) := by decide +kernel
theorem dX11_keep_12 : decode cX11_keep 12 = .ok (.getfield 42, 3) := by decide +kernel
theorem dX11_keep_15 : decode cX11_keep 15 = .ok (.iload_n 1, 1) := by decide +kernel
theorem dX11_keep_16 : decode cX11_keep 16 = .ok (.aaload, 1) := by decide +kernel
theorem dX11_keep_17 : decode cX11_keep 17 = .ok (.aload_n 0, 1) := by decide +kernel
theorem dX11_keep_18 : decode cX11_keep 18 = .ok (.getfield 32, 3) := by decide +kernel
theorem dX11_keep_21 : decode cX11_keep 21 = .ok (.invokevirtual 222, 3) := by decide +kernel
theorem dX11_keep_24 : decode cX11_keep 24 = .ok (.aload_n 0, 1) := by decide +kernel
theorem dX11_keep_25 : decode cX11_keep 25 = .ok (.getfield 47, 3) := by decide +kernel
theorem dX11_keep_28 : decode cX11_keep 28 = .ok (.iload_n 1, 1) := by decide +kernel
theorem dX11_keep_29 : decode cX11_keep 29 = .ok (.iconst 1, 1) := by decide +kernel
theorem dX11_keep_30 : decode cX11_keep 30 = .ok (.bastore, 1) := by decide +kernel
theorem dX11_keep_31 : decode cX11_keep 31 = .ok (.aload_n 0, 1) := by decide +kernel
theorem dX11_keep_32 : decode cX11_keep 32 = .ok (.getfield 32, 3) := by decide +kernel
theorem dX11_keep_35 : decode cX11_keep 35 = .ok (.getfield 117, 3) := by decide +kernel
theorem dX11_keep_38 : decode cX11_keep 38 = .ok (.ireturn, 1) := by decide +kernel
theorem mk_X11_keep : MVk yX11_keep "FairBlocks" cX11_keep 2 (Option.some FieldType.int) 1 := ⟨w_701, w_699, w_700, w_1, rfl, by decide +kernel, by decide +kernel, by decide +kernel⟩
def BX11_keep_0 (G : Nat → KT) (Q : Option mV → mM → Prop) : KT := (s_iload 1 (s_iconst (0) (s_iconst (1) (s_callS 3 pre_X11_within fn_X11_within (s_if (fun x => x = 0) ((s_iconst (-1) (s_iret Q))) (s_at G 11 [true, true]))))))
set_option maxRecDepth 4000 in
theorem bsX11_keep_0 {p : Program} {l : Launch} {e : Env} {s : State} {m : MethodId} {args : Array Value} {below : List Frame} {meth : Method} {c : Code} {D : va_G} {ca : Nat → ClassId} {ad : Nat → Nat} {A : Nat → Prop} {Q : Option mV → mM → Prop} (hX : CX p s m args meth c 2 cX11_keep "FairBlocks" D ca ad A) (hr : meth.sig.returnType = (Option.some FieldType.int)) : ∀ lv st M, BX11_keep_0 (Gd p l e (rmD 2) s m args below meth c 2 D ca ad A 0 0 (MQ below (QC D ca ad A Q) args s 0 0 A)) Q lv st M → Gd p l e (rmD 2) s m args below meth c 2 D ca ad A 0 0 (MQ below (QC D ca ad A Q) args s 0 0 A) 0 lv st M :=
  (sd_iload_n hX dX11_keep_0 rfl (sd_iconst hX dX11_keep_1 rfl (sd_iconst hX dX11_keep_2 rfl (sd_callS hX (ct_X11_within l) mk_X11_within w_342 ⟨⟨by decide, by decide⟩, by decide, by decide⟩ dX11_keep_3 (sd_if_ne hX dX11_keep_6 (by decide) sd_at (sd_iconst hX dX11_keep_9 rfl (sd_iret hX hr dX11_keep_10)))))))
def BX11_keep_11 (G : Nat → KT) (Q : Option mV → mM → Prop) : KT := (s_aload 0 (s_getr 11 15 (fun _ => 126) (s_iload 1 (s_aaldS (s_aload 0 (s_getr 11 8 (fun _ => 7) (s_callV 8 1 pre_X8_copyFrom fn_X8_copyFrom (s_aload 0 (s_getr 11 14 (fun _ => 141) (s_iload 1 (s_iconst (1) (s_zast (s_aload 0 (s_getr 11 8 (fun _ => 7) (s_geti 8 2 (s_iret Q))))))))))))))))
set_option maxRecDepth 4000 in
theorem bsX11_keep_11 {p : Program} {l : Launch} {e : Env} {s : State} {m : MethodId} {args : Array Value} {below : List Frame} {meth : Method} {c : Code} {D : va_G} {ca : Nat → ClassId} {ad : Nat → Nat} {A : Nat → Prop} {Q : Option mV → mM → Prop} (hX : CX p s m args meth c 2 cX11_keep "FairBlocks" D ca ad A) (hr : meth.sig.returnType = (Option.some FieldType.int)) : ∀ lv st M, BX11_keep_11 (Gd p l e (rmD 2) s m args below meth c 2 D ca ad A 0 0 (MQ below (QC D ca ad A Q) args s 0 0 A)) Q lv st M → Gd p l e (rmD 2) s m args below meth c 2 D ca ad A 0 0 (MQ below (QC D ca ad A Q) args s 0 0 A) 11 lv st M :=
  (sd_aload_n hX dX11_keep_11 rfl (sd_getr hX fl_306 (fun _ => rfl) (fun _ _ _ => by decide +kernel) dX11_keep_12 (sd_iload_n hX dX11_keep_15 rfl (sd_aaldS hX dX11_keep_16 (sd_aload_n hX dX11_keep_17 rfl (sd_getr hX fl_304 (fun _ => rfl) (fun _ _ _ => by decide +kernel) dX11_keep_18 (sd_callV hX (kd := 8) rfl (by decide) (ct_X8_copyFrom l) mk_X8_copyFrom w_702 ⟨⟨by decide, by decide⟩, by decide, by decide⟩ dX11_keep_21 (sd_aload_n hX dX11_keep_24 rfl (sd_getr hX fl_307 (fun _ => rfl) (fun _ _ _ => by decide +kernel) dX11_keep_25 (sd_iload_n hX dX11_keep_28 rfl (sd_iconst hX dX11_keep_29 rfl (sd_zast hX dX11_keep_30 (sd_aload_n hX dX11_keep_31 rfl (sd_getr hX fl_304 (fun _ => rfl) (fun _ _ _ => by decide +kernel) dX11_keep_32 (sd_geti hX fl_157 (by decide) dX11_keep_35 (sd_iret hX hr dX11_keep_38))))))))))))))))
set_option maxHeartbeats 400000 in
theorem pf_X11_keep (G : Nat → KT) (Q : Option mV → mM → Prop) (h0 : ∀ lv st M, BX11_keep_0 G Q lv st M → G 0 lv st M) (h11 : ∀ lv st M, BX11_keep_11 G Q lv st M → G 11 lv st M) (as : List mV) (M : mM) (ho : ∀ v ∈ as, okV v) (hp : pre_X11_keep as M) (hQ : Q (fn_X11_keep as M).1 (fn_X11_keep as M).2) : G 0 (inL as ++ List.replicate (2 - (inL as).length) none) [] M := by
  obtain ⟨c, s, rfl, hC⟩ := hp
  simp only [fn_X11_keep, c_keep] at hQ
  (apply h0; simp only [BX11_keep_0, s_mth, s_mab, s_at, s_iconst, s_lconst, s_iload, s_lload, s_aload, s_istore, s_lstore, s_astore, s_iinc, s_bin, s_binG, s_un, s_lbin, s_lbinG, s_lsh, s_lcmp, s_i2l, s_l2i, s_dup, s_dup2, s_pop, s_if, s_icmp, s_geti, s_getl, s_getr, s_puti, s_putz, s_putl, s_iald, s_zald, s_iast, s_zast, s_aaldS, s_aaldU, s_gets, s_tald, s_tsw, tsw, s_iret, s_zret, s_lret, s_aret, s_vret, s_callV, s_callS, c1, nl1, keepL, csum, pushR, inL, List.getD_cons_zero, List.getD_cons_succ, List.set_cons_zero, List.set_cons_succ, List.cons_append, List.nil_append, List.append_nil, List.replicate, List.length_cons, List.length_nil, List.take_succ_cons, List.take_zero, List.drop_succ_cons, List.drop_zero, List.reverse_cons, List.reverse_nil, true_and, and_true, forall_const, not_true_eq_false, not_false_eq_true, false_implies, true_implies, implies_true, one0, m10, Nat.reduceAdd, Nat.reduceSub, Nat.reduceLeDiff, Nat.zero_add, Nat.add_zero, fn_X11_within, fn_X8_copyFrom])
  refine ⟨⟨_, _, _, rfl⟩, fun h => ?_, fun h => ?_⟩
  · rw [if_pos h] at hQ; exact hQ
  · rw [if_neg h] at hQ
    obtain ⟨j, -, h1, e⟩ := wi_g (d := 0) (c := 1) rfl rfl (by decide) (by decide) h
    have hv : vp_in s 2 := by rw [e]; exact vp_in_nI (by omega) (by decide)
    (apply h11; simp only [BX11_keep_11, s_mth, s_mab, s_at, s_iconst, s_lconst, s_iload, s_lload, s_aload, s_istore, s_lstore, s_astore, s_iinc, s_bin, s_binG, s_un, s_lbin, s_lbinG, s_lsh, s_lcmp, s_i2l, s_l2i, s_dup, s_dup2, s_pop, s_if, s_icmp, s_geti, s_getl, s_getr, s_puti, s_putz, s_putl, s_iald, s_zald, s_iast, s_zast, s_aaldS, s_aaldU, s_gets, s_tald, s_tsw, tsw, s_iret, s_zret, s_lret, s_aret, s_vret, s_callV, s_callS, c1, nl1, keepL, csum, pushR, inL, List.getD_cons_zero, List.getD_cons_succ, List.set_cons_zero, List.set_cons_succ, List.cons_append, List.nil_append, List.append_nil, List.replicate, List.length_cons, List.length_nil, List.take_succ_cons, List.take_zero, List.drop_succ_cons, List.drop_zero, List.reverse_cons, List.reverse_nil, true_and, and_true, forall_const, not_true_eq_false, not_false_eq_true, false_implies, true_implies, implies_true, one0, m10, Nat.reduceAdd, Nat.reduceSub, Nat.reduceLeDiff, Nat.zero_add, Nat.add_zero, fn_X11_within, fn_X8_copyFrom])
    simp only [l126, l141, z11]
    exact ⟨hv, ⟨_, _, rfl, hC.1.1.1⟩, hv, hQ⟩
theorem ct_X11_keep (l : Launch) : Con l yX11_keep cX11_keep 2 (Option.some FieldType.int) 2 pre_X11_keep fn_X11_keep := con_of (by decide +kernel) ok_X11_keep len_X11_keep (fun p e s m args below meth c D ca ad A as M hX hr hp ho => pf_X11_keep _ _ (bsX11_keep_0 hX hr) (bsX11_keep_11 hX hr) as M ho hp ⟨rfl, rfl⟩)
def c_again (M : mM) (s : Int32) : Int32 × mM := if wi s 0 1 = 0 then (-1, M) else if M.1 141 s.toNatClampNeg = 0 then (-3, M) else ((mset (stc M 7 (127 + 7 * s.toNatClampNeg)) 26 2 0).1 7 2, mset (stc M 7 (127 + 7 * s.toNatClampNeg)) 26 2 0)
def pre_X11_again (as : List mV) (M : mM) : Prop := ∃ c s, as = [.inr (.inr (11, c)), .inl s] ∧ CI M
def fn_X11_again : List mV → mM → Option mV × mM
  | [.inr (.inr (_, c)), .inl s], M => (some (.inl (c_again M s).1), (c_again M s).2)
  | _, M => (none, M)
theorem ok_X11_again (as : List mV) (M : mM) (h : pre_X11_again as M) (_ : ∀ v ∈ as, okV v) : okR (fn_X11_again as M).1 := by
  obtain ⟨c, s, rfl, -⟩ := h
  first | trivial | exact (by decide +kernel : kof 14 = 8)
theorem len_X11_again (as : List mV) (M : mM) (h : pre_X11_again as M) : (inL as).length ≤ 2 := by
  obtain ⟨c, s, rfl, -⟩ := h
  exact Nat.le_of_ble_eq_true rfl


theorem dX11_again_0 : decode cX11_again 0 = .ok (.iload_n 1, 1) := by decide +kernel
theorem dX11_again_1 : decode cX11_again 1 = .ok (.iconst 0, 1) := by decide +kernel
theorem dX11_again_2 : decode cX11_again 2 = .ok (.iconst 1, 1) := by decide +kernel
theorem dX11_again_3 : decode cX11_again 3 = .ok (.invokestatic 85, 3) := by decide +kernel
theorem dX11_again_6 : decode cX11_again 6 = .ok (.ifCond .ne 5, 3) := by decide +kernel
theorem dX11_again_9 : decode cX11_again 9 = .ok (.iconst (-1), 1) := by decide +kernel
theorem dX11_again_10 : decode cX11_again 10 = .ok (.ireturn, 1) := by decide +kernel
theorem dX11_again_11 : decode cX11_again 11 = .ok (.aload_n 0, 1) := by decide +kernel
theorem dX11_again_12 : decode cX11_again 12 = .ok (.getfield 47, 3) := by decide +kernel
theorem dX11_again_15 : decode cX11_again 15 = .ok (.iload_n 1, 1) := by decide +kernel
theorem dX11_again_16 : decode cX11_again 16 = .ok (.baload, 1) := by decide +kernel
theorem dX11_again_17 : decode cX11_again 17 = .ok (.ifCond .ne 6, 3) := by decide +kernel
theorem dX11_again_20 : decode cX11_again 20 = .ok (.bipush (-3), 2) := by decide +kernel
theorem dX11_again_22 : decode cX11_again 22 = .ok (.ireturn, 1) := by decide +kernel
theorem dX11_again_23 : decode cX11_again 23 = .ok (.aload_n 0, 1) := by decide +kernel
theorem dX11_again_24 : decode cX11_again 24 = .ok (.getfield 32, 3) := by decide +kernel
theorem dX11_again_27 : decode cX11_again 27 = .ok (.aload_n 0, 1) := by decide +kernel
theorem dX11_again_28 : decode cX11_again 28 = .ok (.getfield 42, 3) := by decide +kernel
theorem dX11_again_31 : decode cX11_again 31 = .ok (.iload_n 1, 1) := by decide +kernel
theorem dX11_again_32 : decode cX11_again 32 = .ok (.aaload, 1) := by decide +kernel
theorem dX11_again_33 : decode cX11_again 33 = .ok (.invokevirtual 222, 3) := by decide +kernel
theorem dX11_again_36 : decode cX11_again 36 = .ok (.aload_n 0, 1) := by decide +kernel
theorem dX11_again_37 : decode cX11_again 37 = .ok (.getfield 36, 3) := by decide +kernel
theorem dX11_again_40 : decode cX11_again 40 = .ok (.invokevirtual 105, 3) := by decide +kernel
theorem dX11_again_43 : decode cX11_again 43 = .ok (.aload_n 0, 1) := by decide +kernel
theorem dX11_again_44 : decode cX11_again 44 = .ok (.getfield 32, 3) := by decide +kernel
theorem dX11_again_47 : decode cX11_again 47 = .ok (.getfield 117, 3) := by decide +kernel
theorem dX11_again_50 : decode cX11_again 50 = .ok (.ireturn, 1) := by decide +kernel
theorem mk_X11_again : MVk yX11_again "FairBlocks" cX11_again 2 (Option.some FieldType.int) 1 := ⟨w_706, w_704, w_705, w_1, rfl, by decide +kernel, by decide +kernel, by decide +kernel⟩
def BX11_again_0 (G : Nat → KT) (Q : Option mV → mM → Prop) : KT := (s_iload 1 (s_iconst (0) (s_iconst (1) (s_callS 3 pre_X11_within fn_X11_within (s_if (fun x => x = 0) ((s_iconst (-1) (s_iret Q))) (s_at G 11 [true, true]))))))
set_option maxRecDepth 4000 in
theorem bsX11_again_0 {p : Program} {l : Launch} {e : Env} {s : State} {m : MethodId} {args : Array Value} {below : List Frame} {meth : Method} {c : Code} {D : va_G} {ca : Nat → ClassId} {ad : Nat → Nat} {A : Nat → Prop} {Q : Option mV → mM → Prop} (hX : CX p s m args meth c 2 cX11_again "FairBlocks" D ca ad A) (hr : meth.sig.returnType = (Option.some FieldType.int)) : ∀ lv st M, BX11_again_0 (Gd p l e (rmD 2) s m args below meth c 2 D ca ad A 0 0 (MQ below (QC D ca ad A Q) args s 0 0 A)) Q lv st M → Gd p l e (rmD 2) s m args below meth c 2 D ca ad A 0 0 (MQ below (QC D ca ad A Q) args s 0 0 A) 0 lv st M :=
  (sd_iload_n hX dX11_again_0 rfl (sd_iconst hX dX11_again_1 rfl (sd_iconst hX dX11_again_2 rfl (sd_callS hX (ct_X11_within l) mk_X11_within w_342 ⟨⟨by decide, by decide⟩, by decide, by decide⟩ dX11_again_3 (sd_if_ne hX dX11_again_6 (by decide) sd_at (sd_iconst hX dX11_again_9 rfl (sd_iret hX hr dX11_again_10)))))))
def BX11_again_11 (G : Nat → KT) (Q : Option mV → mM → Prop) : KT := (s_aload 0 (s_getr 11 14 (fun _ => 141) (s_iload 1 (s_zald (s_if (fun x => x = 0) ((s_iconst (-3) (s_iret Q))) (s_at G 23 [true, true]))))))
set_option maxRecDepth 4000 in
theorem bsX11_again_11 {p : Program} {l : Launch} {e : Env} {s : State} {m : MethodId} {args : Array Value} {below : List Frame} {meth : Method} {c : Code} {D : va_G} {ca : Nat → ClassId} {ad : Nat → Nat} {A : Nat → Prop} {Q : Option mV → mM → Prop} (hX : CX p s m args meth c 2 cX11_again "FairBlocks" D ca ad A) (hr : meth.sig.returnType = (Option.some FieldType.int)) : ∀ lv st M, BX11_again_11 (Gd p l e (rmD 2) s m args below meth c 2 D ca ad A 0 0 (MQ below (QC D ca ad A Q) args s 0 0 A)) Q lv st M → Gd p l e (rmD 2) s m args below meth c 2 D ca ad A 0 0 (MQ below (QC D ca ad A Q) args s 0 0 A) 11 lv st M :=
  (sd_aload_n hX dX11_again_11 rfl (sd_getr hX fl_307 (fun _ => rfl) (fun _ _ _ => by decide +kernel) dX11_again_12 (sd_iload_n hX dX11_again_15 rfl (sd_zald hX dX11_again_16 (sd_if_ne hX dX11_again_17 (by decide) sd_at (sd_bipush hX dX11_again_20 rfl (sd_iret hX hr dX11_again_22)))))))
def BX11_again_23 (G : Nat → KT) (Q : Option mV → mM → Prop) : KT := (s_aload 0 (s_getr 11 8 (fun _ => 7) (s_aload 0 (s_getr 11 15 (fun _ => 126) (s_iload 1 (s_aaldS (s_callV 8 1 pre_X8_copyFrom fn_X8_copyFrom (s_aload 0 (s_getr 11 0 (fun _ => 26) (s_callV 0 0 pre_X0_forgetAll fn_X0_forgetAll (s_aload 0 (s_getr 11 8 (fun _ => 7) (s_geti 8 2 (s_iret Q))))))))))))))
set_option maxRecDepth 4000 in
theorem bsX11_again_23 {p : Program} {l : Launch} {e : Env} {s : State} {m : MethodId} {args : Array Value} {below : List Frame} {meth : Method} {c : Code} {D : va_G} {ca : Nat → ClassId} {ad : Nat → Nat} {A : Nat → Prop} {Q : Option mV → mM → Prop} (hX : CX p s m args meth c 2 cX11_again "FairBlocks" D ca ad A) (hr : meth.sig.returnType = (Option.some FieldType.int)) : ∀ lv st M, BX11_again_23 (Gd p l e (rmD 2) s m args below meth c 2 D ca ad A 0 0 (MQ below (QC D ca ad A Q) args s 0 0 A)) Q lv st M → Gd p l e (rmD 2) s m args below meth c 2 D ca ad A 0 0 (MQ below (QC D ca ad A Q) args s 0 0 A) 23 lv st M :=
  (sd_aload_n hX dX11_again_23 rfl (sd_getr hX fl_304 (fun _ => rfl) (fun _ _ _ => by decide +kernel) dX11_again_24 (sd_aload_n hX dX11_again_27 rfl (sd_getr hX fl_306 (fun _ => rfl) (fun _ _ _ => by decide +kernel) dX11_again_28 (sd_iload_n hX dX11_again_31 rfl (sd_aaldS hX dX11_again_32 (sd_callV hX (kd := 8) rfl (by decide) (ct_X8_copyFrom l) mk_X8_copyFrom w_702 ⟨⟨by decide, by decide⟩, by decide, by decide⟩ dX11_again_33 (sd_aload_n hX dX11_again_36 rfl (sd_getr hX fl_305 (fun _ => rfl) (fun _ _ _ => by decide +kernel) dX11_again_37 (sd_callV hX (kd := 0) rfl (by decide) (ct_X0_forgetAll l) mk_X0_forgetAll w_389 ⟨⟨by decide, by decide⟩, by decide, by decide⟩ dX11_again_40 (sd_aload_n hX dX11_again_43 rfl (sd_getr hX fl_304 (fun _ => rfl) (fun _ _ _ => by decide +kernel) dX11_again_44 (sd_geti hX fl_157 (by decide) dX11_again_47 (sd_iret hX hr dX11_again_50))))))))))))))
set_option maxHeartbeats 400000 in
theorem pf_X11_again (G : Nat → KT) (Q : Option mV → mM → Prop) (h0 : ∀ lv st M, BX11_again_0 G Q lv st M → G 0 lv st M) (h11 : ∀ lv st M, BX11_again_11 G Q lv st M → G 11 lv st M) (h23 : ∀ lv st M, BX11_again_23 G Q lv st M → G 23 lv st M) (as : List mV) (M : mM) (ho : ∀ v ∈ as, okV v) (hp : pre_X11_again as M) (hQ : Q (fn_X11_again as M).1 (fn_X11_again as M).2) : G 0 (inL as ++ List.replicate (2 - (inL as).length) none) [] M := by
  obtain ⟨c, s, rfl, hC⟩ := hp
  simp only [fn_X11_again, c_again] at hQ
  (apply h0; simp only [BX11_again_0, s_mth, s_mab, s_at, s_iconst, s_lconst, s_iload, s_lload, s_aload, s_istore, s_lstore, s_astore, s_iinc, s_bin, s_binG, s_un, s_lbin, s_lbinG, s_lsh, s_lcmp, s_i2l, s_l2i, s_dup, s_dup2, s_pop, s_if, s_icmp, s_geti, s_getl, s_getr, s_puti, s_putz, s_putl, s_iald, s_zald, s_iast, s_zast, s_aaldS, s_aaldU, s_gets, s_tald, s_tsw, tsw, s_iret, s_zret, s_lret, s_aret, s_vret, s_callV, s_callS, c1, nl1, keepL, csum, pushR, inL, List.getD_cons_zero, List.getD_cons_succ, List.set_cons_zero, List.set_cons_succ, List.cons_append, List.nil_append, List.append_nil, List.replicate, List.length_cons, List.length_nil, List.take_succ_cons, List.take_zero, List.drop_succ_cons, List.drop_zero, List.reverse_cons, List.reverse_nil, true_and, and_true, forall_const, not_true_eq_false, not_false_eq_true, false_implies, true_implies, implies_true, one0, m10, Nat.reduceAdd, Nat.reduceSub, Nat.reduceLeDiff, Nat.zero_add, Nat.add_zero, fn_X0_forgetAll, fn_X11_within, fn_X8_copyFrom])
  refine ⟨⟨_, _, _, rfl⟩, fun h => ?_, fun h => ?_⟩
  · rw [if_pos h] at hQ; exact hQ
  · rw [if_neg h] at hQ
    obtain ⟨j, -, h1, e⟩ := wi_g (d := 0) (c := 1) rfl rfl (by decide) (by decide) h
    have hv : vp_in s 2 := by rw [e]; exact vp_in_nI (by omega) (by decide)
    (apply h11; simp only [BX11_again_11, s_mth, s_mab, s_at, s_iconst, s_lconst, s_iload, s_lload, s_aload, s_istore, s_lstore, s_astore, s_iinc, s_bin, s_binG, s_un, s_lbin, s_lbinG, s_lsh, s_lcmp, s_i2l, s_l2i, s_dup, s_dup2, s_pop, s_if, s_icmp, s_geti, s_getl, s_getr, s_puti, s_putz, s_putl, s_iald, s_zald, s_iast, s_zast, s_aaldS, s_aaldU, s_gets, s_tald, s_tsw, tsw, s_iret, s_zret, s_lret, s_aret, s_vret, s_callV, s_callS, c1, nl1, keepL, csum, pushR, inL, List.getD_cons_zero, List.getD_cons_succ, List.set_cons_zero, List.set_cons_succ, List.cons_append, List.nil_append, List.append_nil, List.replicate, List.length_cons, List.length_nil, List.take_succ_cons, List.take_zero, List.drop_succ_cons, List.drop_zero, List.reverse_cons, List.reverse_nil, true_and, and_true, forall_const, not_true_eq_false, not_false_eq_true, false_implies, true_implies, implies_true, one0, m10, Nat.reduceAdd, Nat.reduceSub, Nat.reduceLeDiff, Nat.zero_add, Nat.add_zero, fn_X0_forgetAll, fn_X11_within, fn_X8_copyFrom])
    simp only [l141]
    refine ⟨hv, fun h2 => ?_, fun h2 => ?_⟩
    · rw [if_pos h2] at hQ; exact hQ
    · rw [if_neg h2] at hQ
      (apply h23; simp only [BX11_again_23, s_mth, s_mab, s_at, s_iconst, s_lconst, s_iload, s_lload, s_aload, s_istore, s_lstore, s_astore, s_iinc, s_bin, s_binG, s_un, s_lbin, s_lbinG, s_lsh, s_lcmp, s_i2l, s_l2i, s_dup, s_dup2, s_pop, s_if, s_icmp, s_geti, s_getl, s_getr, s_puti, s_putz, s_putl, s_iald, s_zald, s_iast, s_zast, s_aaldS, s_aaldU, s_gets, s_tald, s_tsw, tsw, s_iret, s_zret, s_lret, s_aret, s_vret, s_callV, s_callS, c1, nl1, keepL, csum, pushR, inL, List.getD_cons_zero, List.getD_cons_succ, List.set_cons_zero, List.set_cons_succ, List.cons_append, List.nil_append, List.append_nil, List.replicate, List.length_cons, List.length_nil, List.take_succ_cons, List.take_zero, List.drop_succ_cons, List.drop_zero, List.reverse_cons, List.reverse_nil, true_and, and_true, forall_const, not_true_eq_false, not_false_eq_true, false_implies, true_implies, implies_true, one0, m10, Nat.reduceAdd, Nat.reduceSub, Nat.reduceLeDiff, Nat.zero_add, Nat.add_zero, fn_X0_forgetAll, fn_X11_within, fn_X8_copyFrom])
      simp only [l126]
      exact ⟨hv, ⟨_, _, rfl, hC.1.1.1⟩, ⟨_, rfl⟩, hQ⟩
theorem ct_X11_again (l : Launch) : Con l yX11_again cX11_again 2 (Option.some FieldType.int) 2 pre_X11_again fn_X11_again := con_of (by decide +kernel) ok_X11_again len_X11_again (fun p e s m args below meth c D ca ad A as M hX hr hp ho => pf_X11_again _ _ (bsX11_again_0 hX hr) (bsX11_again_11 hX hr) (bsX11_again_23 hX hr) as M ho hp ⟨rfl, rfl⟩)
def c_count (M : mM) (w : Int32) : Int32 := if w.toInt < 0 ∨ 9 < w.toInt then -2 else if w.toInt = 0 then M.1 1 1 else if w.toInt = 1 then M.1 4 2 else if w.toInt = 2 then M.1 4 0 else if w.toInt = 3 then M.1 4 1 else if w.toInt = 4 then M.1 7 1 else if w.toInt = 5 then M.1 7 2 else if w.toInt = 6 then itr (offS M 7) 0 (nU M) 0 else if w.toInt = 7 then itr (waiS M 7) 0 (nU M) 0 else if w.toInt = 8 then M.1 26 2 else M.1 151 6
def pre_X11_count (as : List mV) (M : mM) : Prop := ∃ c w, as = [.inr (.inr (11, c)), .inl w] ∧ CI M
def fn_X11_count : List mV → mM → Option mV × mM
  | [.inr (.inr (_, c)), .inl w], M => (some (.inl (c_count M w)), M)
  | _, M => (none, M)
theorem ok_X11_count (as : List mV) (M : mM) (h : pre_X11_count as M) (_ : ∀ v ∈ as, okV v) : okR (fn_X11_count as M).1 := by
  obtain ⟨c, w, rfl, -⟩ := h
  first | trivial | exact (by decide +kernel : kof 14 = 8)
theorem len_X11_count (as : List mV) (M : mM) (h : pre_X11_count as M) : (inL as).length ≤ 2 := by
  obtain ⟨c, w, rfl, -⟩ := h
  exact Nat.le_of_ble_eq_true rfl

theorem fl_59 : FLk "FairBlocks" 225 5 1 0 := ⟨RX5, TX5, 5, rfl, inX5, by decide, w_59, by decide, rfl⟩
theorem dX11_count_0 : decode cX11_count 0 = .ok (.iload_n 1, 1) := by decide +kernel
theorem dX11_count_1 : decode cX11_count 1 = .ok (.tableswitch 149 0 9 #[55, 63, 71, 79, 87, 95, 103, 118, 133, 141], 55) := by decide +kernel
theorem dX11_count_56 : decode cX11_count 56 = .ok (.aload_n 0, 1) := by decide +kernel
theorem dX11_count_57 : decode cX11_count 57 = .ok (.getfield 10, 3) := by decide +kernel
theorem dX11_count_60 : decode cX11_count 60 = .ok (.getfield 89, 3) := by decide +kernel
theorem dX11_count_63 : decode cX11_count 63 = .ok (.ireturn, 1) := by decide +kernel
theorem dX11_count_64 : decode cX11_count 64 = .ok (.aload_n 0, 1) := by decide +kernel
theorem dX11_count_65 : decode cX11_count 65 = .ok (.getfield 27, 3) := by decide +kernel
theorem dX11_count_68 : decode cX11_count 68 = .ok (.getfield 108, 3) := by decide +kernel
theorem dX11_count_71 : decode cX11_count 71 = .ok (.ireturn, 1) := by decide +kernel
theorem dX11_count_72 : decode cX11_count 72 = .ok (.aload_n 0, 1) := by decide +kernel
theorem dX11_count_73 : decode cX11_count 73 = .ok (.getfield 27, 3) := by decide +kernel
theorem dX11_count_76 : decode cX11_count 76 = .ok (.getfield 173, 3) := by decide +kernel
theorem dX11_count_79 : decode cX11_count 79 = .ok (.ireturn, 1) := by decide +kernel
theorem dX11_count_80 : decode cX11_count 80 = .ok (.aload_n 0, 1) := by decide +kernel
theorem dX11_count_81 : decode cX11_count 81 = .ok (.getfield 27, 3) := by decide +kernel
theorem dX11_count_84 : decode cX11_count 84 = .ok (.getfield 225, 3) := by decide +kernel
theorem dX11_count_87 : decode cX11_count 87 = .ok (.ireturn, 1) := by decide +kernel
theorem dX11_count_88 : decode cX11_count 88 = .ok (.aload_n 0, 1) := by decide +kernel
theorem dX11_count_89 : decode cX11_count 89 = .ok (.getfield 32, 3) := by decide +kernel
theorem dX11_count_92 : decode cX11_count 92 = .ok (.getfield 160, 3) := by decide +kernel
theorem dX11_count_95 : decode cX11_count 95 = .ok (.ireturn, 1) := by decide +kernel
theorem dX11_count_96 : decode cX11_count 96 = .ok (.aload_n 0, 1) := by decide +kernel
theorem dX11_count_97 : decode cX11_count 97 = .ok (.getfield 32, 3) := by decide +kernel
theorem dX11_count_100 : decode cX11_count 100 = .ok (.getfield 117, 3) := by decide +kernel
theorem dX11_count_103 : decode cX11_count 103 = .ok (.ireturn, 1) := by decide +kernel
theorem dX11_count_104 : decode cX11_count 104 = .ok (.aload_n 0, 1) := by decide +kernel
theorem dX11_count_105 : decode cX11_count 105 = .ok (.getfield 32, 3) := by decide +kernel
theorem dX11_count_108 : decode cX11_count 108 = .ok (.aload_n 0, 1) := by decide +kernel
theorem dX11_count_109 : decode cX11_count 109 = .ok (.getfield 27, 3) := by decide +kernel
theorem dX11_count_112 : decode cX11_count 112 = .ok (.getfield 108, 3) := by decide +kernel
theorem dX11_count_115 : decode cX11_count 115 = .ok (.invokevirtual 228, 3) := by decide +kernel
theorem dX11_count_118 : decode cX11_count 118 = .ok (.ireturn, 1) := by decide +kernel
theorem dX11_count_119 : decode cX11_count 119 = .ok (.aload_n 0, 1) := by decide +kernel
theorem dX11_count_120 : decode cX11_count 120 = .ok (.getfield 32, 3) := by decide +kernel
theorem dX11_count_123 : decode cX11_count 123 = .ok (.aload_n 0, 1) := by decide +kernel
theorem dX11_count_124 : decode cX11_count 124 = .ok (.getfield 27, 3) := by decide +kernel
theorem dX11_count_127 : decode cX11_count 127 = .ok (.getfield 108, 3) := by decide +kernel
theorem dX11_count_130 : decode cX11_count 130 = .ok (.invokevirtual 231, 3) := by decide +kernel
theorem dX11_count_133 : decode cX11_count 133 = .ok (.ireturn, 1) := by decide +kernel
theorem dX11_count_134 : decode cX11_count 134 = .ok (.aload_n 0, 1) := by decide +kernel
theorem dX11_count_135 : decode cX11_count 135 = .ok (.getfield 36, 3) := by decide +kernel
theorem dX11_count_138 : decode cX11_count 138 = .ok (.getfield 163, 3) := by decide +kernel
theorem dX11_count_141 : decode cX11_count 141 = .ok (.ireturn, 1) := by decide +kernel
theorem dX11_count_142 : decode cX11_count 142 = .ok (.aload_n 0, 1) := by decide +kernel
theorem dX11_count_143 : decode cX11_count 143 = .ok (.getfield 70, 3) := by decide +kernel
theorem dX11_count_146 : decode cX11_count 146 = .ok (.getfield 200, 3) := by decide +kernel
theorem dX11_count_149 : decode cX11_count 149 = .ok (.ireturn, 1) := by decide +kernel
theorem dX11_count_150 : decode cX11_count 150 = .ok (.bipush (-2), 2) := by decide +kernel
theorem dX11_count_152 : decode cX11_count 152 = .ok (.ireturn, 1) := by decide +kernel
theorem mk_X11_count : MVk yX11_count "FairBlocks" cX11_count 2 (Option.some FieldType.int) 1 := ⟨w_710, w_708, w_709, w_1, rfl, by decide +kernel, by decide +kernel, by decide +kernel⟩
def BX11_count_0 (G : Nat → KT) (Q : Option mV → mM → Prop) : KT := (s_iload 1 (s_tsw (0) (9) [s_at G 56 [true, false], s_at G 64 [true, false], s_at G 72 [true, false], s_at G 80 [true, false], s_at G 88 [true, false], s_at G 96 [true, false], s_at G 104 [true, false], s_at G 119 [true, false], s_at G 134 [true, false], s_at G 142 [true, false]] (s_at G 150 [false, false])))
set_option maxRecDepth 4000 in
theorem bsX11_count_0 {p : Program} {l : Launch} {e : Env} {s : State} {m : MethodId} {args : Array Value} {below : List Frame} {meth : Method} {c : Code} {D : va_G} {ca : Nat → ClassId} {ad : Nat → Nat} {A : Nat → Prop} {Q : Option mV → mM → Prop} (hX : CX p s m args meth c 2 cX11_count "FairBlocks" D ca ad A) (hr : meth.sig.returnType = (Option.some FieldType.int)) : ∀ lv st M, BX11_count_0 (Gd p l e (rmD 2) s m args below meth c 2 D ca ad A 0 0 (MQ below (QC D ca ad A Q) args s 0 0 A)) Q lv st M → Gd p l e (rmD 2) s m args below meth c 2 D ca ad A 0 0 (MQ below (QC D ca ad A Q) args s 0 0 A) 0 lv st M :=
  (sd_iload_n hX dX11_count_0 rfl (sd_tsw hX dX11_count_1 (ts := [56, 64, 72, 80, 88, 96, 104, 119, 134, 142]) (td := 150) (by decide) (by decide) rfl ⟨sd_at, sd_at, sd_at, sd_at, sd_at, sd_at, sd_at, sd_at, sd_at, sd_at, trivial⟩ sd_at))
def BX11_count_56 (G : Nat → KT) (Q : Option mV → mM → Prop) : KT := (s_aload 0 (s_getr 11 9 (fun _ => 1) (s_geti 9 1 (s_iret Q))))
set_option maxRecDepth 4000 in
theorem bsX11_count_56 {p : Program} {l : Launch} {e : Env} {s : State} {m : MethodId} {args : Array Value} {below : List Frame} {meth : Method} {c : Code} {D : va_G} {ca : Nat → ClassId} {ad : Nat → Nat} {A : Nat → Prop} {Q : Option mV → mM → Prop} (hX : CX p s m args meth c 2 cX11_count "FairBlocks" D ca ad A) (hr : meth.sig.returnType = (Option.some FieldType.int)) : ∀ lv st M, BX11_count_56 (Gd p l e (rmD 2) s m args below meth c 2 D ca ad A 0 0 (MQ below (QC D ca ad A Q) args s 0 0 A)) Q lv st M → Gd p l e (rmD 2) s m args below meth c 2 D ca ad A 0 0 (MQ below (QC D ca ad A Q) args s 0 0 A) 56 lv st M :=
  (sd_aload_n hX dX11_count_56 rfl (sd_getr hX fl_301 (fun _ => rfl) (fun _ _ _ => by decide +kernel) dX11_count_57 (sd_geti hX fl_32 (by decide) dX11_count_60 (sd_iret hX hr dX11_count_63))))
def BX11_count_64 (G : Nat → KT) (Q : Option mV → mM → Prop) : KT := (s_aload 0 (s_getr 11 5 (fun _ => 4) (s_geti 5 2 (s_iret Q))))
set_option maxRecDepth 4000 in
theorem bsX11_count_64 {p : Program} {l : Launch} {e : Env} {s : State} {m : MethodId} {args : Array Value} {below : List Frame} {meth : Method} {c : Code} {D : va_G} {ca : Nat → ClassId} {ad : Nat → Nat} {A : Nat → Prop} {Q : Option mV → mM → Prop} (hX : CX p s m args meth c 2 cX11_count "FairBlocks" D ca ad A) (hr : meth.sig.returnType = (Option.some FieldType.int)) : ∀ lv st M, BX11_count_64 (Gd p l e (rmD 2) s m args below meth c 2 D ca ad A 0 0 (MQ below (QC D ca ad A Q) args s 0 0 A)) Q lv st M → Gd p l e (rmD 2) s m args below meth c 2 D ca ad A 0 0 (MQ below (QC D ca ad A Q) args s 0 0 A) 64 lv st M :=
  (sd_aload_n hX dX11_count_64 rfl (sd_getr hX fl_303 (fun _ => rfl) (fun _ _ _ => by decide +kernel) dX11_count_65 (sd_geti hX fl_65 (by decide) dX11_count_68 (sd_iret hX hr dX11_count_71))))
def BX11_count_72 (G : Nat → KT) (Q : Option mV → mM → Prop) : KT := (s_aload 0 (s_getr 11 5 (fun _ => 4) (s_geti 5 0 (s_iret Q))))
set_option maxRecDepth 4000 in
theorem bsX11_count_72 {p : Program} {l : Launch} {e : Env} {s : State} {m : MethodId} {args : Array Value} {below : List Frame} {meth : Method} {c : Code} {D : va_G} {ca : Nat → ClassId} {ad : Nat → Nat} {A : Nat → Prop} {Q : Option mV → mM → Prop} (hX : CX p s m args meth c 2 cX11_count "FairBlocks" D ca ad A) (hr : meth.sig.returnType = (Option.some FieldType.int)) : ∀ lv st M, BX11_count_72 (Gd p l e (rmD 2) s m args below meth c 2 D ca ad A 0 0 (MQ below (QC D ca ad A Q) args s 0 0 A)) Q lv st M → Gd p l e (rmD 2) s m args below meth c 2 D ca ad A 0 0 (MQ below (QC D ca ad A Q) args s 0 0 A) 72 lv st M :=
  (sd_aload_n hX dX11_count_72 rfl (sd_getr hX fl_303 (fun _ => rfl) (fun _ _ _ => by decide +kernel) dX11_count_73 (sd_geti hX fl_55 (by decide) dX11_count_76 (sd_iret hX hr dX11_count_79))))
def BX11_count_80 (G : Nat → KT) (Q : Option mV → mM → Prop) : KT := (s_aload 0 (s_getr 11 5 (fun _ => 4) (s_geti 5 1 (s_iret Q))))
set_option maxRecDepth 4000 in
theorem bsX11_count_80 {p : Program} {l : Launch} {e : Env} {s : State} {m : MethodId} {args : Array Value} {below : List Frame} {meth : Method} {c : Code} {D : va_G} {ca : Nat → ClassId} {ad : Nat → Nat} {A : Nat → Prop} {Q : Option mV → mM → Prop} (hX : CX p s m args meth c 2 cX11_count "FairBlocks" D ca ad A) (hr : meth.sig.returnType = (Option.some FieldType.int)) : ∀ lv st M, BX11_count_80 (Gd p l e (rmD 2) s m args below meth c 2 D ca ad A 0 0 (MQ below (QC D ca ad A Q) args s 0 0 A)) Q lv st M → Gd p l e (rmD 2) s m args below meth c 2 D ca ad A 0 0 (MQ below (QC D ca ad A Q) args s 0 0 A) 80 lv st M :=
  (sd_aload_n hX dX11_count_80 rfl (sd_getr hX fl_303 (fun _ => rfl) (fun _ _ _ => by decide +kernel) dX11_count_81 (sd_geti hX fl_59 (by decide) dX11_count_84 (sd_iret hX hr dX11_count_87))))
def BX11_count_88 (G : Nat → KT) (Q : Option mV → mM → Prop) : KT := (s_aload 0 (s_getr 11 8 (fun _ => 7) (s_geti 8 1 (s_iret Q))))
set_option maxRecDepth 4000 in
theorem bsX11_count_88 {p : Program} {l : Launch} {e : Env} {s : State} {m : MethodId} {args : Array Value} {below : List Frame} {meth : Method} {c : Code} {D : va_G} {ca : Nat → ClassId} {ad : Nat → Nat} {A : Nat → Prop} {Q : Option mV → mM → Prop} (hX : CX p s m args meth c 2 cX11_count "FairBlocks" D ca ad A) (hr : meth.sig.returnType = (Option.some FieldType.int)) : ∀ lv st M, BX11_count_88 (Gd p l e (rmD 2) s m args below meth c 2 D ca ad A 0 0 (MQ below (QC D ca ad A Q) args s 0 0 A)) Q lv st M → Gd p l e (rmD 2) s m args below meth c 2 D ca ad A 0 0 (MQ below (QC D ca ad A Q) args s 0 0 A) 88 lv st M :=
  (sd_aload_n hX dX11_count_88 rfl (sd_getr hX fl_304 (fun _ => rfl) (fun _ _ _ => by decide +kernel) dX11_count_89 (sd_geti hX fl_153 (by decide) dX11_count_92 (sd_iret hX hr dX11_count_95))))
def BX11_count_96 (G : Nat → KT) (Q : Option mV → mM → Prop) : KT := (s_aload 0 (s_getr 11 8 (fun _ => 7) (s_geti 8 2 (s_iret Q))))
set_option maxRecDepth 4000 in
theorem bsX11_count_96 {p : Program} {l : Launch} {e : Env} {s : State} {m : MethodId} {args : Array Value} {below : List Frame} {meth : Method} {c : Code} {D : va_G} {ca : Nat → ClassId} {ad : Nat → Nat} {A : Nat → Prop} {Q : Option mV → mM → Prop} (hX : CX p s m args meth c 2 cX11_count "FairBlocks" D ca ad A) (hr : meth.sig.returnType = (Option.some FieldType.int)) : ∀ lv st M, BX11_count_96 (Gd p l e (rmD 2) s m args below meth c 2 D ca ad A 0 0 (MQ below (QC D ca ad A Q) args s 0 0 A)) Q lv st M → Gd p l e (rmD 2) s m args below meth c 2 D ca ad A 0 0 (MQ below (QC D ca ad A Q) args s 0 0 A) 96 lv st M :=
  (sd_aload_n hX dX11_count_96 rfl (sd_getr hX fl_304 (fun _ => rfl) (fun _ _ _ => by decide +kernel) dX11_count_97 (sd_geti hX fl_157 (by decide) dX11_count_100 (sd_iret hX hr dX11_count_103))))
def BX11_count_104 (G : Nat → KT) (Q : Option mV → mM → Prop) : KT := (s_aload 0 (s_getr 11 8 (fun _ => 7) (s_aload 0 (s_getr 11 5 (fun _ => 4) (s_geti 5 2 (s_callV 8 1 pre_X8_offBits fn_X8_offBits (s_iret Q)))))))
set_option maxRecDepth 4000 in
theorem bsX11_count_104 {p : Program} {l : Launch} {e : Env} {s : State} {m : MethodId} {args : Array Value} {below : List Frame} {meth : Method} {c : Code} {D : va_G} {ca : Nat → ClassId} {ad : Nat → Nat} {A : Nat → Prop} {Q : Option mV → mM → Prop} (hX : CX p s m args meth c 2 cX11_count "FairBlocks" D ca ad A) (hr : meth.sig.returnType = (Option.some FieldType.int)) : ∀ lv st M, BX11_count_104 (Gd p l e (rmD 2) s m args below meth c 2 D ca ad A 0 0 (MQ below (QC D ca ad A Q) args s 0 0 A)) Q lv st M → Gd p l e (rmD 2) s m args below meth c 2 D ca ad A 0 0 (MQ below (QC D ca ad A Q) args s 0 0 A) 104 lv st M :=
  (sd_aload_n hX dX11_count_104 rfl (sd_getr hX fl_304 (fun _ => rfl) (fun _ _ _ => by decide +kernel) dX11_count_105 (sd_aload_n hX dX11_count_108 rfl (sd_getr hX fl_303 (fun _ => rfl) (fun _ _ _ => by decide +kernel) dX11_count_109 (sd_geti hX fl_65 (by decide) dX11_count_112 (sd_callV hX (kd := 8) rfl (by decide) (ct_X8_offBits l) mk_X8_offBits w_711 ⟨⟨by decide, by decide⟩, by decide, by decide⟩ dX11_count_115 (sd_iret hX hr dX11_count_118)))))))
def BX11_count_119 (G : Nat → KT) (Q : Option mV → mM → Prop) : KT := (s_aload 0 (s_getr 11 8 (fun _ => 7) (s_aload 0 (s_getr 11 5 (fun _ => 4) (s_geti 5 2 (s_callV 8 1 pre_X8_waitingBits fn_X8_waitingBits (s_iret Q)))))))
set_option maxRecDepth 4000 in
theorem bsX11_count_119 {p : Program} {l : Launch} {e : Env} {s : State} {m : MethodId} {args : Array Value} {below : List Frame} {meth : Method} {c : Code} {D : va_G} {ca : Nat → ClassId} {ad : Nat → Nat} {A : Nat → Prop} {Q : Option mV → mM → Prop} (hX : CX p s m args meth c 2 cX11_count "FairBlocks" D ca ad A) (hr : meth.sig.returnType = (Option.some FieldType.int)) : ∀ lv st M, BX11_count_119 (Gd p l e (rmD 2) s m args below meth c 2 D ca ad A 0 0 (MQ below (QC D ca ad A Q) args s 0 0 A)) Q lv st M → Gd p l e (rmD 2) s m args below meth c 2 D ca ad A 0 0 (MQ below (QC D ca ad A Q) args s 0 0 A) 119 lv st M :=
  (sd_aload_n hX dX11_count_119 rfl (sd_getr hX fl_304 (fun _ => rfl) (fun _ _ _ => by decide +kernel) dX11_count_120 (sd_aload_n hX dX11_count_123 rfl (sd_getr hX fl_303 (fun _ => rfl) (fun _ _ _ => by decide +kernel) dX11_count_124 (sd_geti hX fl_65 (by decide) dX11_count_127 (sd_callV hX (kd := 8) rfl (by decide) (ct_X8_waitingBits l) mk_X8_waitingBits w_712 ⟨⟨by decide, by decide⟩, by decide, by decide⟩ dX11_count_130 (sd_iret hX hr dX11_count_133)))))))
def BX11_count_134 (G : Nat → KT) (Q : Option mV → mM → Prop) : KT := (s_aload 0 (s_getr 11 0 (fun _ => 26) (s_geti 0 2 (s_iret Q))))
set_option maxRecDepth 4000 in
theorem bsX11_count_134 {p : Program} {l : Launch} {e : Env} {s : State} {m : MethodId} {args : Array Value} {below : List Frame} {meth : Method} {c : Code} {D : va_G} {ca : Nat → ClassId} {ad : Nat → Nat} {A : Nat → Prop} {Q : Option mV → mM → Prop} (hX : CX p s m args meth c 2 cX11_count "FairBlocks" D ca ad A) (hr : meth.sig.returnType = (Option.some FieldType.int)) : ∀ lv st M, BX11_count_134 (Gd p l e (rmD 2) s m args below meth c 2 D ca ad A 0 0 (MQ below (QC D ca ad A Q) args s 0 0 A)) Q lv st M → Gd p l e (rmD 2) s m args below meth c 2 D ca ad A 0 0 (MQ below (QC D ca ad A Q) args s 0 0 A) 134 lv st M :=
  (sd_aload_n hX dX11_count_134 rfl (sd_getr hX fl_305 (fun _ => rfl) (fun _ _ _ => by decide +kernel) dX11_count_135 (sd_geti hX fl_226 (by decide) dX11_count_138 (sd_iret hX hr dX11_count_141))))
def BX11_count_142 (G : Nat → KT) (Q : Option mV → mM → Prop) : KT := (s_aload 0 (s_getr 11 7 (fun _ => 151) (s_geti 7 6 (s_iret Q))))
set_option maxRecDepth 4000 in
theorem bsX11_count_142 {p : Program} {l : Launch} {e : Env} {s : State} {m : MethodId} {args : Array Value} {below : List Frame} {meth : Method} {c : Code} {D : va_G} {ca : Nat → ClassId} {ad : Nat → Nat} {A : Nat → Prop} {Q : Option mV → mM → Prop} (hX : CX p s m args meth c 2 cX11_count "FairBlocks" D ca ad A) (hr : meth.sig.returnType = (Option.some FieldType.int)) : ∀ lv st M, BX11_count_142 (Gd p l e (rmD 2) s m args below meth c 2 D ca ad A 0 0 (MQ below (QC D ca ad A Q) args s 0 0 A)) Q lv st M → Gd p l e (rmD 2) s m args below meth c 2 D ca ad A 0 0 (MQ below (QC D ca ad A Q) args s 0 0 A) 142 lv st M :=
  (sd_aload_n hX dX11_count_142 rfl (sd_getr hX fl_310 (fun _ => rfl) (fun _ _ _ => by decide +kernel) dX11_count_143 (sd_geti hX fl_275 (by decide) dX11_count_146 (sd_iret hX hr dX11_count_149))))
def BX11_count_150 (G : Nat → KT) (Q : Option mV → mM → Prop) : KT := (s_iconst (-2) (s_iret Q))
set_option maxRecDepth 4000 in
theorem bsX11_count_150 {p : Program} {l : Launch} {e : Env} {s : State} {m : MethodId} {args : Array Value} {below : List Frame} {meth : Method} {c : Code} {D : va_G} {ca : Nat → ClassId} {ad : Nat → Nat} {A : Nat → Prop} {Q : Option mV → mM → Prop} (hX : CX p s m args meth c 2 cX11_count "FairBlocks" D ca ad A) (hr : meth.sig.returnType = (Option.some FieldType.int)) : ∀ lv st M, BX11_count_150 (Gd p l e (rmD 2) s m args below meth c 2 D ca ad A 0 0 (MQ below (QC D ca ad A Q) args s 0 0 A)) Q lv st M → Gd p l e (rmD 2) s m args below meth c 2 D ca ad A 0 0 (MQ below (QC D ca ad A Q) args s 0 0 A) 150 lv st M :=
  (sd_bipush hX dX11_count_150 rfl (sd_iret hX hr dX11_count_152))
set_option maxHeartbeats 400000 in
theorem pf_X11_count (G : Nat → KT) (Q : Option mV → mM → Prop) (h0 : ∀ lv st M, BX11_count_0 G Q lv st M → G 0 lv st M) (h56 : ∀ lv st M, BX11_count_56 G Q lv st M → G 56 lv st M) (h64 : ∀ lv st M, BX11_count_64 G Q lv st M → G 64 lv st M) (h72 : ∀ lv st M, BX11_count_72 G Q lv st M → G 72 lv st M) (h80 : ∀ lv st M, BX11_count_80 G Q lv st M → G 80 lv st M) (h88 : ∀ lv st M, BX11_count_88 G Q lv st M → G 88 lv st M) (h96 : ∀ lv st M, BX11_count_96 G Q lv st M → G 96 lv st M) (h104 : ∀ lv st M, BX11_count_104 G Q lv st M → G 104 lv st M) (h119 : ∀ lv st M, BX11_count_119 G Q lv st M → G 119 lv st M) (h134 : ∀ lv st M, BX11_count_134 G Q lv st M → G 134 lv st M) (h142 : ∀ lv st M, BX11_count_142 G Q lv st M → G 142 lv st M) (h150 : ∀ lv st M, BX11_count_150 G Q lv st M → G 150 lv st M) (as : List mV) (M : mM) (ho : ∀ v ∈ as, okV v) (hp : pre_X11_count as M) (hQ : Q (fn_X11_count as M).1 (fn_X11_count as M).2) : G 0 (inL as ++ List.replicate (2 - (inL as).length) none) [] M := by
  obtain ⟨c, w, rfl, hC⟩ := hp
  have hPL := hC.1.1.2
  have hn := n5 hPL
  simp only [fn_X11_count, c_count] at hQ
  (apply h0; simp only [BX11_count_0, s_mth, s_mab, s_at, s_iconst, s_lconst, s_iload, s_lload, s_aload, s_istore, s_lstore, s_astore, s_iinc, s_bin, s_binG, s_un, s_lbin, s_lbinG, s_lsh, s_lcmp, s_i2l, s_l2i, s_dup, s_dup2, s_pop, s_if, s_icmp, s_geti, s_getl, s_getr, s_puti, s_putz, s_putl, s_iald, s_zald, s_iast, s_zast, s_aaldS, s_aaldU, s_gets, s_tald, s_tsw, tsw, s_iret, s_zret, s_lret, s_aret, s_vret, s_callV, s_callS, c1, nl1, keepL, csum, pushR, inL, List.getD_cons_zero, List.getD_cons_succ, List.set_cons_zero, List.set_cons_succ, List.cons_append, List.nil_append, List.append_nil, List.replicate, List.length_cons, List.length_nil, List.take_succ_cons, List.take_zero, List.drop_succ_cons, List.drop_zero, List.reverse_cons, List.reverse_nil, true_and, and_true, forall_const, not_true_eq_false, not_false_eq_true, false_implies, true_implies, implies_true, one0, m10, Nat.reduceAdd, Nat.reduceSub, Nat.reduceLeDiff, Nat.zero_add, Nat.add_zero, fn_X8_offBits, fn_X8_waitingBits])
  refine ⟨fun h => ?_, fun h => ?_, fun h => ?_, fun h => ?_, fun h => ?_, fun h => ?_, fun h => ?_, fun h => ?_, fun h => ?_, fun h => ?_, fun h => ?_⟩
  · rw [if_pos h] at hQ
    (apply h150; simp only [BX11_count_150, s_mth, s_mab, s_at, s_iconst, s_lconst, s_iload, s_lload, s_aload, s_istore, s_lstore, s_astore, s_iinc, s_bin, s_binG, s_un, s_lbin, s_lbinG, s_lsh, s_lcmp, s_i2l, s_l2i, s_dup, s_dup2, s_pop, s_if, s_icmp, s_geti, s_getl, s_getr, s_puti, s_putz, s_putl, s_iald, s_zald, s_iast, s_zast, s_aaldS, s_aaldU, s_gets, s_tald, s_tsw, tsw, s_iret, s_zret, s_lret, s_aret, s_vret, s_callV, s_callS, c1, nl1, keepL, csum, pushR, inL, List.getD_cons_zero, List.getD_cons_succ, List.set_cons_zero, List.set_cons_succ, List.cons_append, List.nil_append, List.append_nil, List.replicate, List.length_cons, List.length_nil, List.take_succ_cons, List.take_zero, List.drop_succ_cons, List.drop_zero, List.reverse_cons, List.reverse_nil, true_and, and_true, forall_const, not_true_eq_false, not_false_eq_true, false_implies, true_implies, implies_true, one0, m10, Nat.reduceAdd, Nat.reduceSub, Nat.reduceLeDiff, Nat.zero_add, Nat.add_zero, fn_X8_offBits, fn_X8_waitingBits])
    exact hQ
  · rw [if_neg (by omega), if_pos (by omega)] at hQ
    (apply h56; simp only [BX11_count_56, s_mth, s_mab, s_at, s_iconst, s_lconst, s_iload, s_lload, s_aload, s_istore, s_lstore, s_astore, s_iinc, s_bin, s_binG, s_un, s_lbin, s_lbinG, s_lsh, s_lcmp, s_i2l, s_l2i, s_dup, s_dup2, s_pop, s_if, s_icmp, s_geti, s_getl, s_getr, s_puti, s_putz, s_putl, s_iald, s_zald, s_iast, s_zast, s_aaldS, s_aaldU, s_gets, s_tald, s_tsw, tsw, s_iret, s_zret, s_lret, s_aret, s_vret, s_callV, s_callS, c1, nl1, keepL, csum, pushR, inL, List.getD_cons_zero, List.getD_cons_succ, List.set_cons_zero, List.set_cons_succ, List.cons_append, List.nil_append, List.append_nil, List.replicate, List.length_cons, List.length_nil, List.take_succ_cons, List.take_zero, List.drop_succ_cons, List.drop_zero, List.reverse_cons, List.reverse_nil, true_and, and_true, forall_const, not_true_eq_false, not_false_eq_true, false_implies, true_implies, implies_true, one0, m10, Nat.reduceAdd, Nat.reduceSub, Nat.reduceLeDiff, Nat.zero_add, Nat.add_zero, fn_X8_offBits, fn_X8_waitingBits])
    exact hQ
  · rw [if_neg (by omega), if_neg (by omega), if_pos (by omega)] at hQ
    (apply h64; simp only [BX11_count_64, s_mth, s_mab, s_at, s_iconst, s_lconst, s_iload, s_lload, s_aload, s_istore, s_lstore, s_astore, s_iinc, s_bin, s_binG, s_un, s_lbin, s_lbinG, s_lsh, s_lcmp, s_i2l, s_l2i, s_dup, s_dup2, s_pop, s_if, s_icmp, s_geti, s_getl, s_getr, s_puti, s_putz, s_putl, s_iald, s_zald, s_iast, s_zast, s_aaldS, s_aaldU, s_gets, s_tald, s_tsw, tsw, s_iret, s_zret, s_lret, s_aret, s_vret, s_callV, s_callS, c1, nl1, keepL, csum, pushR, inL, List.getD_cons_zero, List.getD_cons_succ, List.set_cons_zero, List.set_cons_succ, List.cons_append, List.nil_append, List.append_nil, List.replicate, List.length_cons, List.length_nil, List.take_succ_cons, List.take_zero, List.drop_succ_cons, List.drop_zero, List.reverse_cons, List.reverse_nil, true_and, and_true, forall_const, not_true_eq_false, not_false_eq_true, false_implies, true_implies, implies_true, one0, m10, Nat.reduceAdd, Nat.reduceSub, Nat.reduceLeDiff, Nat.zero_add, Nat.add_zero, fn_X8_offBits, fn_X8_waitingBits])
    exact hQ
  · rw [if_neg (by omega), if_neg (by omega), if_neg (by omega), if_pos (by omega)] at hQ
    (apply h72; simp only [BX11_count_72, s_mth, s_mab, s_at, s_iconst, s_lconst, s_iload, s_lload, s_aload, s_istore, s_lstore, s_astore, s_iinc, s_bin, s_binG, s_un, s_lbin, s_lbinG, s_lsh, s_lcmp, s_i2l, s_l2i, s_dup, s_dup2, s_pop, s_if, s_icmp, s_geti, s_getl, s_getr, s_puti, s_putz, s_putl, s_iald, s_zald, s_iast, s_zast, s_aaldS, s_aaldU, s_gets, s_tald, s_tsw, tsw, s_iret, s_zret, s_lret, s_aret, s_vret, s_callV, s_callS, c1, nl1, keepL, csum, pushR, inL, List.getD_cons_zero, List.getD_cons_succ, List.set_cons_zero, List.set_cons_succ, List.cons_append, List.nil_append, List.append_nil, List.replicate, List.length_cons, List.length_nil, List.take_succ_cons, List.take_zero, List.drop_succ_cons, List.drop_zero, List.reverse_cons, List.reverse_nil, true_and, and_true, forall_const, not_true_eq_false, not_false_eq_true, false_implies, true_implies, implies_true, one0, m10, Nat.reduceAdd, Nat.reduceSub, Nat.reduceLeDiff, Nat.zero_add, Nat.add_zero, fn_X8_offBits, fn_X8_waitingBits])
    exact hQ
  · rw [if_neg (by omega), if_neg (by omega), if_neg (by omega), if_neg (by omega), if_pos (by omega)] at hQ
    (apply h80; simp only [BX11_count_80, s_mth, s_mab, s_at, s_iconst, s_lconst, s_iload, s_lload, s_aload, s_istore, s_lstore, s_astore, s_iinc, s_bin, s_binG, s_un, s_lbin, s_lbinG, s_lsh, s_lcmp, s_i2l, s_l2i, s_dup, s_dup2, s_pop, s_if, s_icmp, s_geti, s_getl, s_getr, s_puti, s_putz, s_putl, s_iald, s_zald, s_iast, s_zast, s_aaldS, s_aaldU, s_gets, s_tald, s_tsw, tsw, s_iret, s_zret, s_lret, s_aret, s_vret, s_callV, s_callS, c1, nl1, keepL, csum, pushR, inL, List.getD_cons_zero, List.getD_cons_succ, List.set_cons_zero, List.set_cons_succ, List.cons_append, List.nil_append, List.append_nil, List.replicate, List.length_cons, List.length_nil, List.take_succ_cons, List.take_zero, List.drop_succ_cons, List.drop_zero, List.reverse_cons, List.reverse_nil, true_and, and_true, forall_const, not_true_eq_false, not_false_eq_true, false_implies, true_implies, implies_true, one0, m10, Nat.reduceAdd, Nat.reduceSub, Nat.reduceLeDiff, Nat.zero_add, Nat.add_zero, fn_X8_offBits, fn_X8_waitingBits])
    exact hQ
  · rw [if_neg (by omega), if_neg (by omega), if_neg (by omega), if_neg (by omega), if_neg (by omega), if_pos (by omega)] at hQ
    (apply h88; simp only [BX11_count_88, s_mth, s_mab, s_at, s_iconst, s_lconst, s_iload, s_lload, s_aload, s_istore, s_lstore, s_astore, s_iinc, s_bin, s_binG, s_un, s_lbin, s_lbinG, s_lsh, s_lcmp, s_i2l, s_l2i, s_dup, s_dup2, s_pop, s_if, s_icmp, s_geti, s_getl, s_getr, s_puti, s_putz, s_putl, s_iald, s_zald, s_iast, s_zast, s_aaldS, s_aaldU, s_gets, s_tald, s_tsw, tsw, s_iret, s_zret, s_lret, s_aret, s_vret, s_callV, s_callS, c1, nl1, keepL, csum, pushR, inL, List.getD_cons_zero, List.getD_cons_succ, List.set_cons_zero, List.set_cons_succ, List.cons_append, List.nil_append, List.append_nil, List.replicate, List.length_cons, List.length_nil, List.take_succ_cons, List.take_zero, List.drop_succ_cons, List.drop_zero, List.reverse_cons, List.reverse_nil, true_and, and_true, forall_const, not_true_eq_false, not_false_eq_true, false_implies, true_implies, implies_true, one0, m10, Nat.reduceAdd, Nat.reduceSub, Nat.reduceLeDiff, Nat.zero_add, Nat.add_zero, fn_X8_offBits, fn_X8_waitingBits])
    exact hQ
  · rw [if_neg (by omega), if_neg (by omega), if_neg (by omega), if_neg (by omega), if_neg (by omega), if_neg (by omega), if_pos (by omega)] at hQ
    (apply h96; simp only [BX11_count_96, s_mth, s_mab, s_at, s_iconst, s_lconst, s_iload, s_lload, s_aload, s_istore, s_lstore, s_astore, s_iinc, s_bin, s_binG, s_un, s_lbin, s_lbinG, s_lsh, s_lcmp, s_i2l, s_l2i, s_dup, s_dup2, s_pop, s_if, s_icmp, s_geti, s_getl, s_getr, s_puti, s_putz, s_putl, s_iald, s_zald, s_iast, s_zast, s_aaldS, s_aaldU, s_gets, s_tald, s_tsw, tsw, s_iret, s_zret, s_lret, s_aret, s_vret, s_callV, s_callS, c1, nl1, keepL, csum, pushR, inL, List.getD_cons_zero, List.getD_cons_succ, List.set_cons_zero, List.set_cons_succ, List.cons_append, List.nil_append, List.append_nil, List.replicate, List.length_cons, List.length_nil, List.take_succ_cons, List.take_zero, List.drop_succ_cons, List.drop_zero, List.reverse_cons, List.reverse_nil, true_and, and_true, forall_const, not_true_eq_false, not_false_eq_true, false_implies, true_implies, implies_true, one0, m10, Nat.reduceAdd, Nat.reduceSub, Nat.reduceLeDiff, Nat.zero_add, Nat.add_zero, fn_X8_offBits, fn_X8_waitingBits])
    exact hQ
  · rw [if_neg (by omega), if_neg (by omega), if_neg (by omega), if_neg (by omega), if_neg (by omega), if_neg (by omega), if_neg (by omega), if_pos (by omega)] at hQ
    (apply h104; simp only [BX11_count_104, s_mth, s_mab, s_at, s_iconst, s_lconst, s_iload, s_lload, s_aload, s_istore, s_lstore, s_astore, s_iinc, s_bin, s_binG, s_un, s_lbin, s_lbinG, s_lsh, s_lcmp, s_i2l, s_l2i, s_dup, s_dup2, s_pop, s_if, s_icmp, s_geti, s_getl, s_getr, s_puti, s_putz, s_putl, s_iald, s_zald, s_iast, s_zast, s_aaldS, s_aaldU, s_gets, s_tald, s_tsw, tsw, s_iret, s_zret, s_lret, s_aret, s_vret, s_callV, s_callS, c1, nl1, keepL, csum, pushR, inL, List.getD_cons_zero, List.getD_cons_succ, List.set_cons_zero, List.set_cons_succ, List.cons_append, List.nil_append, List.append_nil, List.replicate, List.length_cons, List.length_nil, List.take_succ_cons, List.take_zero, List.drop_succ_cons, List.drop_zero, List.reverse_cons, List.reverse_nil, true_and, and_true, forall_const, not_true_eq_false, not_false_eq_true, false_implies, true_implies, implies_true, one0, m10, Nat.reduceAdd, Nat.reduceSub, Nat.reduceLeDiff, Nat.zero_add, Nat.add_zero, fn_X8_offBits, fn_X8_waitingBits])
    exact ⟨⟨_, _, rfl, nU M, hn, uN hPL⟩, hQ⟩
  · rw [if_neg (by omega), if_neg (by omega), if_neg (by omega), if_neg (by omega), if_neg (by omega), if_neg (by omega), if_neg (by omega), if_neg (by omega), if_pos (by omega)] at hQ
    (apply h119; simp only [BX11_count_119, s_mth, s_mab, s_at, s_iconst, s_lconst, s_iload, s_lload, s_aload, s_istore, s_lstore, s_astore, s_iinc, s_bin, s_binG, s_un, s_lbin, s_lbinG, s_lsh, s_lcmp, s_i2l, s_l2i, s_dup, s_dup2, s_pop, s_if, s_icmp, s_geti, s_getl, s_getr, s_puti, s_putz, s_putl, s_iald, s_zald, s_iast, s_zast, s_aaldS, s_aaldU, s_gets, s_tald, s_tsw, tsw, s_iret, s_zret, s_lret, s_aret, s_vret, s_callV, s_callS, c1, nl1, keepL, csum, pushR, inL, List.getD_cons_zero, List.getD_cons_succ, List.set_cons_zero, List.set_cons_succ, List.cons_append, List.nil_append, List.append_nil, List.replicate, List.length_cons, List.length_nil, List.take_succ_cons, List.take_zero, List.drop_succ_cons, List.drop_zero, List.reverse_cons, List.reverse_nil, true_and, and_true, forall_const, not_true_eq_false, not_false_eq_true, false_implies, true_implies, implies_true, one0, m10, Nat.reduceAdd, Nat.reduceSub, Nat.reduceLeDiff, Nat.zero_add, Nat.add_zero, fn_X8_offBits, fn_X8_waitingBits])
    exact ⟨⟨_, _, rfl, nU M, hn, uN hPL⟩, hQ⟩
  · rw [if_neg (by omega), if_neg (by omega), if_neg (by omega), if_neg (by omega), if_neg (by omega), if_neg (by omega), if_neg (by omega), if_neg (by omega), if_neg (by omega), if_pos (by omega)] at hQ
    (apply h134; simp only [BX11_count_134, s_mth, s_mab, s_at, s_iconst, s_lconst, s_iload, s_lload, s_aload, s_istore, s_lstore, s_astore, s_iinc, s_bin, s_binG, s_un, s_lbin, s_lbinG, s_lsh, s_lcmp, s_i2l, s_l2i, s_dup, s_dup2, s_pop, s_if, s_icmp, s_geti, s_getl, s_getr, s_puti, s_putz, s_putl, s_iald, s_zald, s_iast, s_zast, s_aaldS, s_aaldU, s_gets, s_tald, s_tsw, tsw, s_iret, s_zret, s_lret, s_aret, s_vret, s_callV, s_callS, c1, nl1, keepL, csum, pushR, inL, List.getD_cons_zero, List.getD_cons_succ, List.set_cons_zero, List.set_cons_succ, List.cons_append, List.nil_append, List.append_nil, List.replicate, List.length_cons, List.length_nil, List.take_succ_cons, List.take_zero, List.drop_succ_cons, List.drop_zero, List.reverse_cons, List.reverse_nil, true_and, and_true, forall_const, not_true_eq_false, not_false_eq_true, false_implies, true_implies, implies_true, one0, m10, Nat.reduceAdd, Nat.reduceSub, Nat.reduceLeDiff, Nat.zero_add, Nat.add_zero, fn_X8_offBits, fn_X8_waitingBits])
    exact hQ
  · rw [if_neg (by omega), if_neg (by omega), if_neg (by omega), if_neg (by omega), if_neg (by omega), if_neg (by omega), if_neg (by omega), if_neg (by omega), if_neg (by omega), if_neg (by omega)] at hQ
    (apply h142; simp only [BX11_count_142, s_mth, s_mab, s_at, s_iconst, s_lconst, s_iload, s_lload, s_aload, s_istore, s_lstore, s_astore, s_iinc, s_bin, s_binG, s_un, s_lbin, s_lbinG, s_lsh, s_lcmp, s_i2l, s_l2i, s_dup, s_dup2, s_pop, s_if, s_icmp, s_geti, s_getl, s_getr, s_puti, s_putz, s_putl, s_iald, s_zald, s_iast, s_zast, s_aaldS, s_aaldU, s_gets, s_tald, s_tsw, tsw, s_iret, s_zret, s_lret, s_aret, s_vret, s_callV, s_callS, c1, nl1, keepL, csum, pushR, inL, List.getD_cons_zero, List.getD_cons_succ, List.set_cons_zero, List.set_cons_succ, List.cons_append, List.nil_append, List.append_nil, List.replicate, List.length_cons, List.length_nil, List.take_succ_cons, List.take_zero, List.drop_succ_cons, List.drop_zero, List.reverse_cons, List.reverse_nil, true_and, and_true, forall_const, not_true_eq_false, not_false_eq_true, false_implies, true_implies, implies_true, one0, m10, Nat.reduceAdd, Nat.reduceSub, Nat.reduceLeDiff, Nat.zero_add, Nat.add_zero, fn_X8_offBits, fn_X8_waitingBits])
    exact hQ
theorem ct_X11_count (l : Launch) : Con l yX11_count cX11_count 2 (Option.some FieldType.int) 2 pre_X11_count fn_X11_count := con_of (by decide +kernel) ok_X11_count len_X11_count (fun p e s m args below meth c D ca ad A as M hX hr hp ho => pf_X11_count _ _ (bsX11_count_0 hX hr) (bsX11_count_56 hX hr) (bsX11_count_64 hX hr) (bsX11_count_72 hX hr) (bsX11_count_80 hX hr) (bsX11_count_88 hX hr) (bsX11_count_96 hX hr) (bsX11_count_104 hX hr) (bsX11_count_119 hX hr) (bsX11_count_134 hX hr) (bsX11_count_142 hX hr) (bsX11_count_150 hX hr) as M ho hp ⟨rfl, rfl⟩)
