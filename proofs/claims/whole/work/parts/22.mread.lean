/-! the model: the text, and the reading of it -/
def PS (M : mM) : Prop := ∃ t p, t ≤ 80 ∧ p ≤ t ∧ M.1 158 2 = nI t ∧ M.1 158 3 = nI p
def PZ (M : mM) : Nat := (M.1 158 3).toNatClampNeg
def m_write (M : mM) (x : Int32) : Int32 × mM := if wi x 0 255 = 0 then (-2, M) else if M.1 158 2 = 80 then (-4, M) else (M.1 158 2 + 1, mset (mset M 159 (M.1 158 2).toNatClampNeg x) 158 2 (M.1 158 2 + 1))
def pre_X12_write (as : List mV) (M : mM) : Prop := ∃ c x, as = [.inr (.inr (12, c)), .inl x] ∧ MI M
def fn_X12_write : List mV → mM → Option mV × mM
  | [.inr (.inr (_, c)), .inl x], M => (some (.inl (m_write (m0 M) x).1), (m_write (m0 M) x).2)
  | _, M => (none, M)
theorem ok_X12_write (as : List mV) (M : mM) (h : pre_X12_write as M) (_ : ∀ v ∈ as, okV v) : okR (fn_X12_write as M).1 := by
  obtain ⟨c, x, rfl, -⟩ := h
  first | trivial | exact (by decide +kernel : kof 14 = 8)
theorem len_X12_write (as : List mV) (M : mM) (h : pre_X12_write as M) : (inL as).length ≤ 2 := by
  obtain ⟨c, x, rfl, -⟩ := h
  exact Nat.le_of_ble_eq_true rfl

theorem fl_724 : FLk "FairBlocksModel" 27 12 1 16 := ⟨RX12, TX12, 32, rfl, inX12, by decide, w_724, by decide, rfl⟩
theorem fp_725 : FPk "FairBlocksModel" 87 12 2 0 .int := ⟨RX12, TX12, 32, tyX12, rfl, inX12, by decide, w_725, by decide, rfl, tyX12_ok, nmX12, rfl, rfl⟩
theorem dX12_write_0 : decode cX12_write 0 = .ok (.aload_n 0, 1) := by decide +kernel
theorem dX12_write_1 : decode cX12_write 1 = .ok (.iconst 0, 1) := by decide +kernel
theorem dX12_write_2 : decode cX12_write 2 = .ok (.putfield 1, 3) := by decide +kernel
theorem dX12_write_5 : decode cX12_write 5 = .ok (.iload_n 1, 1) := by decide +kernel
theorem dX12_write_6 : decode cX12_write 6 = .ok (.i2l, 1) := by decide +kernel
theorem dX12_write_7 : decode cX12_write 7 = .ok (.lconst 0, 1) := by decide +kernel
theorem dX12_write_8 : decode cX12_write 8 = .ok (.ldc2_w 85, 3) := by decide +kernel
theorem dX12_write_11 : decode cX12_write 11 = .ok (.invokestatic 17, 3) := by decide +kernel
theorem dX12_write_14 : decode cX12_write 14 = .ok (.ifCond .ne 6, 3) := by decide +kernel
theorem dX12_write_17 : decode cX12_write 17 = .ok (.bipush (-2), 2) := by decide +kernel
theorem dX12_write_19 : decode cX12_write 19 = .ok (.ireturn, 1) := by decide +kernel
theorem dX12_write_20 : decode cX12_write 20 = .ok (.aload_n 0, 1) := by decide +kernel
theorem dX12_write_21 : decode cX12_write 21 = .ok (.getfield 87, 3) := by decide +kernel
theorem dX12_write_24 : decode cX12_write 24 = .ok (.bipush 80, 2) := by decide +kernel
theorem dX12_write_26 : decode cX12_write 26 = .ok (.if_icmp .ne 6, 3) := by decide +kernel
theorem dX12_write_29 : decode cX12_write 29 = .ok (.bipush (-4), 2) := by decide +kernel
theorem dX12_write_31 : decode cX12_write 31 = .ok (.ireturn, 1) := by decide +kernel
theorem dX12_write_32 : decode cX12_write 32 = .ok (.aload_n 0, 1) := by decide +kernel
theorem dX12_write_33 : decode cX12_write 33 = .ok (.getfield 27, 3) := by decide +kernel
theorem dX12_write_36 : decode cX12_write 36 = .ok (.aload_n 0, 1) := by decide +kernel
theorem dX12_write_37 : decode cX12_write 37 = .ok (.getfield 87, 3) := by decide +kernel
theorem dX12_write_40 : decode cX12_write 40 = .ok (.iload_n 1, 1) := by decide +kernel
theorem dX12_write_41 : decode cX12_write 41 = .ok (.iastore, 1) := by decide +kernel
theorem dX12_write_42 : decode cX12_write 42 = .ok (.aload_n 0, 1) := by decide +kernel
theorem dX12_write_43 : decode cX12_write 43 = .ok (.dup, 1) := by decide +kernel
theorem dX12_write_44 : decode cX12_write 44 = .ok (.getfield 87, 3) := by decide +kernel
theorem dX12_write_47 : decode cX12_write 47 = .ok (.iconst 1, 1) := by decide +kernel
theorem dX12_write_48 : decode cX12_write 48 = .ok (.iadd, 1) := by decide +kernel
theorem dX12_write_49 : decode cX12_write 49 = .ok (.putfield 87, 3) := by decide +kernel
theorem dX12_write_52 : decode cX12_write 52 = .ok (.aload_n 0, 1) := by decide +kernel
theorem dX12_write_53 : decode cX12_write 53 = .ok (.getfield 87, 3) := by decide +kernel
theorem dX12_write_56 : decode cX12_write 56 = .ok (.ireturn, 1) := by decide +kernel
theorem mk_X12_write : MVk yX12_write "FairBlocksModel" cX12_write 2 (Option.some FieldType.int) 1 := ⟨w_823, w_821, w_822, w_13, rfl, by decide +kernel, by decide +kernel, by decide +kernel⟩
def BX12_write_0 (G : Nat → KT) (Q : Option mV → mM → Prop) : KT := (s_aload 0 (s_iconst (0) (s_puti 12 0 (s_iload 1 (s_i2l (s_lconst 0 (s_lconst (255) (s_callS 3 pre_X12_in fn_X12_in (s_if (fun x => x = 0) ((s_iconst (-2) (s_iret Q))) (s_at G 20 [true, true]))))))))))
set_option maxRecDepth 4000 in
theorem bsX12_write_0 {p : Program} {l : Launch} {e : Env} {s : State} {m : MethodId} {args : Array Value} {below : List Frame} {meth : Method} {c : Code} {D : va_G} {ca : Nat → ClassId} {ad : Nat → Nat} {A : Nat → Prop} {Q : Option mV → mM → Prop} (hX : CX p s m args meth c 2 cX12_write "FairBlocksModel" D ca ad A) (hr : meth.sig.returnType = (Option.some FieldType.int)) : ∀ lv st M, BX12_write_0 (Gd p l e (rmD 1) s m args below meth c 2 D ca ad A 0 0 (MQ below (QC D ca ad A Q) args s 0 0 A)) Q lv st M → Gd p l e (rmD 1) s m args below meth c 2 D ca ad A 0 0 (MQ below (QC D ca ad A Q) args s 0 0 A) 0 lv st M :=
  (sd_aload_n hX dX12_write_0 rfl (sd_iconst hX dX12_write_1 rfl (sd_puti hX fp_723 dX12_write_2 (sd_iload_n hX dX12_write_5 rfl (sd_i2l hX dX12_write_6 (sd_lconst hX dX12_write_7 rfl (sd_ldc2 hX w_824 dX12_write_8 (sd_callS hX (ct_X12_in l) mk_X12_in w_825 ⟨⟨by decide, by decide⟩, by decide, by decide⟩ dX12_write_11 (sd_if_ne hX dX12_write_14 (by decide) sd_at (sd_bipush hX dX12_write_17 rfl (sd_iret hX hr dX12_write_19)))))))))))
def BX12_write_20 (G : Nat → KT) (Q : Option mV → mM → Prop) : KT := (s_aload 0 (s_geti 12 2 (s_iconst (80) (s_icmp (fun x y => x = y) ((s_iconst (-4) (s_iret Q))) (s_at G 32 [true, true])))))
set_option maxRecDepth 4000 in
theorem bsX12_write_20 {p : Program} {l : Launch} {e : Env} {s : State} {m : MethodId} {args : Array Value} {below : List Frame} {meth : Method} {c : Code} {D : va_G} {ca : Nat → ClassId} {ad : Nat → Nat} {A : Nat → Prop} {Q : Option mV → mM → Prop} (hX : CX p s m args meth c 2 cX12_write "FairBlocksModel" D ca ad A) (hr : meth.sig.returnType = (Option.some FieldType.int)) : ∀ lv st M, BX12_write_20 (Gd p l e (rmD 1) s m args below meth c 2 D ca ad A 0 0 (MQ below (QC D ca ad A Q) args s 0 0 A)) Q lv st M → Gd p l e (rmD 1) s m args below meth c 2 D ca ad A 0 0 (MQ below (QC D ca ad A Q) args s 0 0 A) 20 lv st M :=
  (sd_aload_n hX dX12_write_20 rfl (sd_geti hX fl_725 (by decide) dX12_write_21 (sd_bipush hX dX12_write_24 rfl (sd_icmp_ne hX dX12_write_26 (by decide) sd_at (sd_bipush hX dX12_write_29 rfl (sd_iret hX hr dX12_write_31))))))
def BX12_write_32 (G : Nat → KT) (Q : Option mV → mM → Prop) : KT := (s_aload 0 (s_getr 12 13 (fun _ => 159) (s_aload 0 (s_geti 12 2 (s_iload 1 (s_iast (s_aload 0 (s_dup (s_geti 12 2 (s_iconst (1) (s_bin (fun x y => x + y) (s_puti 12 2 (s_aload 0 (s_geti 12 2 (s_iret Q)))))))))))))))
set_option maxRecDepth 4000 in
theorem bsX12_write_32 {p : Program} {l : Launch} {e : Env} {s : State} {m : MethodId} {args : Array Value} {below : List Frame} {meth : Method} {c : Code} {D : va_G} {ca : Nat → ClassId} {ad : Nat → Nat} {A : Nat → Prop} {Q : Option mV → mM → Prop} (hX : CX p s m args meth c 2 cX12_write "FairBlocksModel" D ca ad A) (hr : meth.sig.returnType = (Option.some FieldType.int)) : ∀ lv st M, BX12_write_32 (Gd p l e (rmD 1) s m args below meth c 2 D ca ad A 0 0 (MQ below (QC D ca ad A Q) args s 0 0 A)) Q lv st M → Gd p l e (rmD 1) s m args below meth c 2 D ca ad A 0 0 (MQ below (QC D ca ad A Q) args s 0 0 A) 32 lv st M :=
  (sd_aload_n hX dX12_write_32 rfl (sd_getr hX fl_724 (fun _ => rfl) (fun _ _ _ => by decide +kernel) dX12_write_33 (sd_aload_n hX dX12_write_36 rfl (sd_geti hX fl_725 (by decide) dX12_write_37 (sd_iload_n hX dX12_write_40 rfl (sd_iast hX dX12_write_41 (sd_aload_n hX dX12_write_42 rfl (sd_dup hX dX12_write_43 (sd_geti hX fl_725 (by decide) dX12_write_44 (sd_iconst hX dX12_write_47 rfl (sd_iadd hX dX12_write_48 (sd_puti hX fp_725 dX12_write_49 (sd_aload_n hX dX12_write_52 rfl (sd_geti hX fl_725 (by decide) dX12_write_53 (sd_iret hX hr dX12_write_56)))))))))))))))
set_option maxHeartbeats 400000 in
theorem pf_X12_write (G : Nat → KT) (Q : Option mV → mM → Prop) (h0 : ∀ lv st M, BX12_write_0 G Q lv st M → G 0 lv st M) (h20 : ∀ lv st M, BX12_write_20 G Q lv st M → G 20 lv st M) (h32 : ∀ lv st M, BX12_write_32 G Q lv st M → G 32 lv st M) (as : List mV) (M : mM) (ho : ∀ v ∈ as, okV v) (hp : pre_X12_write as M) (hQ : Q (fn_X12_write as M).1 (fn_X12_write as M).2) : G 0 (inL as ++ List.replicate (2 - (inL as).length) none) [] M := by
  obtain ⟨c, x, rfl, hM⟩ := hp
  obtain rfl : c = 158 := k12 (ho (.inr (.inr (12, c))) (by simp))
  have hI := MI_0 hM
  have e : iL x.toInt64 0 255 = wi x 0 255 := iLw x 0 255
  simp only [fn_X12_write, m_write] at hQ
  (apply h0; simp only [BX12_write_0, s_mth, s_mab, s_at, s_iconst, s_lconst, s_iload, s_lload, s_aload, s_istore, s_lstore, s_astore, s_iinc, s_bin, s_binG, s_un, s_lbin, s_lbinG, s_lsh, s_lcmp, s_i2l, s_l2i, s_dup, s_dup2, s_pop, s_if, s_icmp, s_geti, s_getl, s_getr, s_puti, s_putz, s_putl, s_iald, s_zald, s_iast, s_zast, s_aaldS, s_aaldU, s_gets, s_tald, s_tsw, tsw, s_iret, s_zret, s_lret, s_aret, s_vret, s_callV, s_callS, c1, nl1, keepL, csum, pushR, inL, List.getD_cons_zero, List.getD_cons_succ, List.set_cons_zero, List.set_cons_succ, List.cons_append, List.nil_append, List.append_nil, List.replicate, List.length_cons, List.length_nil, List.take_succ_cons, List.take_zero, List.drop_succ_cons, List.drop_zero, List.reverse_cons, List.reverse_nil, true_and, and_true, forall_const, not_true_eq_false, not_false_eq_true, false_implies, true_implies, implies_true, one0, m10, Nat.reduceAdd, Nat.reduceSub, Nat.reduceLeDiff, Nat.zero_add, Nat.add_zero, fn_X12_in])
  rw [show mset M 158 0 0 = m0 M from rfl, e]
  generalize m0 M = M0 at *
  refine ⟨⟨_, _, _, rfl⟩, fun h => ?_, fun h => ?_⟩
  · rw [if_pos h] at hQ; exact hQ
  · rw [if_neg h] at hQ
    (apply h20; simp only [BX12_write_20, s_mth, s_mab, s_at, s_iconst, s_lconst, s_iload, s_lload, s_aload, s_istore, s_lstore, s_astore, s_iinc, s_bin, s_binG, s_un, s_lbin, s_lbinG, s_lsh, s_lcmp, s_i2l, s_l2i, s_dup, s_dup2, s_pop, s_if, s_icmp, s_geti, s_getl, s_getr, s_puti, s_putz, s_putl, s_iald, s_zald, s_iast, s_zast, s_aaldS, s_aaldU, s_gets, s_tald, s_tsw, tsw, s_iret, s_zret, s_lret, s_aret, s_vret, s_callV, s_callS, c1, nl1, keepL, csum, pushR, inL, List.getD_cons_zero, List.getD_cons_succ, List.set_cons_zero, List.set_cons_succ, List.cons_append, List.nil_append, List.append_nil, List.replicate, List.length_cons, List.length_nil, List.take_succ_cons, List.take_zero, List.drop_succ_cons, List.drop_zero, List.reverse_cons, List.reverse_nil, true_and, and_true, forall_const, not_true_eq_false, not_false_eq_true, false_implies, true_implies, implies_true, one0, m10, Nat.reduceAdd, Nat.reduceSub, Nat.reduceLeDiff, Nat.zero_add, Nat.add_zero, fn_X12_in])
    refine ⟨fun g => ?_, fun g => ?_⟩
    · rw [if_pos g] at hQ; exact hQ
    · rw [if_neg g] at hQ
      obtain ⟨t, ht, et⟩ := hI.2.2.1
      have ht8 : t ≠ 80 := fun g2 => g (by rw [et, g2]; rfl)
      (apply h32; simp only [BX12_write_32, s_mth, s_mab, s_at, s_iconst, s_lconst, s_iload, s_lload, s_aload, s_istore, s_lstore, s_astore, s_iinc, s_bin, s_binG, s_un, s_lbin, s_lbinG, s_lsh, s_lcmp, s_i2l, s_l2i, s_dup, s_dup2, s_pop, s_if, s_icmp, s_geti, s_getl, s_getr, s_puti, s_putz, s_putl, s_iald, s_zald, s_iast, s_zast, s_aaldS, s_aaldU, s_gets, s_tald, s_tsw, tsw, s_iret, s_zret, s_lret, s_aret, s_vret, s_callV, s_callS, c1, nl1, keepL, csum, pushR, inL, List.getD_cons_zero, List.getD_cons_succ, List.set_cons_zero, List.set_cons_succ, List.cons_append, List.nil_append, List.append_nil, List.replicate, List.length_cons, List.length_nil, List.take_succ_cons, List.take_zero, List.drop_succ_cons, List.drop_zero, List.reverse_cons, List.reverse_nil, true_and, and_true, forall_const, not_true_eq_false, not_false_eq_true, false_implies, true_implies, implies_true, one0, m10, Nat.reduceAdd, Nat.reduceSub, Nat.reduceLeDiff, Nat.zero_add, Nat.add_zero, fn_X12_in])
      simp only [lM, et, mset_n (show (158 : Nat) ≠ 159 by decide), mset_s]
      rw [et] at hQ
      exact ⟨vz (by omega) (by decide), hQ⟩
theorem ct_X12_write (l : Launch) : Con l yX12_write cX12_write 2 (Option.some FieldType.int) 1 pre_X12_write fn_X12_write := con_of (by decide +kernel) ok_X12_write len_X12_write (fun p e s m args below meth c D ca ad A as M hX hr hp ho => pf_X12_write _ _ (bsX12_write_0 hX hr) (bsX12_write_20 hX hr) (bsX12_write_32 hX hr) as M ho hp ⟨rfl, rfl⟩)
def pre_X12_wipe (as : List mV) (M : mM) : Prop := ∃ c, as = [.inr (.inr (12, c))]
def fn_X12_wipe : List mV → mM → Option mV × mM
  | [.inr (.inr (_, c))], M => (some (.inl ((m0 M).1 158 2)), mset (m0 M) 158 2 0)
  | _, M => (none, M)
theorem ok_X12_wipe (as : List mV) (M : mM) (h : pre_X12_wipe as M) (_ : ∀ v ∈ as, okV v) : okR (fn_X12_wipe as M).1 := by
  obtain ⟨c, rfl⟩ := h
  first | trivial | exact (by decide +kernel : kof 14 = 8)
theorem len_X12_wipe (as : List mV) (M : mM) (h : pre_X12_wipe as M) : (inL as).length ≤ 2 := by
  obtain ⟨c, rfl⟩ := h
  exact Nat.le_of_ble_eq_true rfl


theorem dX12_wipe_0 : decode cX12_wipe 0 = .ok (.aload_n 0, 1) := by decide +kernel
theorem dX12_wipe_1 : decode cX12_wipe 1 = .ok (.iconst 0, 1) := by decide +kernel
theorem dX12_wipe_2 : decode cX12_wipe 2 = .ok (.putfield 1, 3) := by decide +kernel
theorem dX12_wipe_5 : decode cX12_wipe 5 = .ok (.aload_n 0, 1) := by decide +kernel
theorem dX12_wipe_6 : decode cX12_wipe 6 = .ok (.getfield 87, 3) := by decide +kernel
theorem dX12_wipe_9 : decode cX12_wipe 9 = .ok (.istore_n 1, 1) := by decide +kernel
theorem dX12_wipe_10 : decode cX12_wipe 10 = .ok (.aload_n 0, 1) := by decide +kernel
theorem dX12_wipe_11 : decode cX12_wipe 11 = .ok (.iconst 0, 1) := by decide +kernel
theorem dX12_wipe_12 : decode cX12_wipe 12 = .ok (.putfield 87, 3) := by decide +kernel
theorem dX12_wipe_15 : decode cX12_wipe 15 = .ok (.iload_n 1, 1) := by decide +kernel
theorem dX12_wipe_16 : decode cX12_wipe 16 = .ok (.ireturn, 1) := by decide +kernel
theorem mk_X12_wipe : MVk yX12_wipe "FairBlocksModel" cX12_wipe 2 (Option.some FieldType.int) 0 := ⟨w_831, w_829, w_830, w_13, rfl, by decide +kernel, by decide +kernel, by decide +kernel⟩
def BX12_wipe_0 (G : Nat → KT) (Q : Option mV → mM → Prop) : KT := (s_aload 0 (s_iconst (0) (s_puti 12 0 (s_aload 0 (s_geti 12 2 (s_istore 1 (s_aload 0 (s_iconst (0) (s_puti 12 2 (s_iload 1 (s_iret Q)))))))))))
set_option maxRecDepth 4000 in
theorem bsX12_wipe_0 {p : Program} {l : Launch} {e : Env} {s : State} {m : MethodId} {args : Array Value} {below : List Frame} {meth : Method} {c : Code} {D : va_G} {ca : Nat → ClassId} {ad : Nat → Nat} {A : Nat → Prop} {Q : Option mV → mM → Prop} (hX : CX p s m args meth c 2 cX12_wipe "FairBlocksModel" D ca ad A) (hr : meth.sig.returnType = (Option.some FieldType.int)) : ∀ lv st M, BX12_wipe_0 (Gd p l e (rmD 0) s m args below meth c 2 D ca ad A 0 0 (MQ below (QC D ca ad A Q) args s 0 0 A)) Q lv st M → Gd p l e (rmD 0) s m args below meth c 2 D ca ad A 0 0 (MQ below (QC D ca ad A Q) args s 0 0 A) 0 lv st M :=
  (sd_aload_n hX dX12_wipe_0 rfl (sd_iconst hX dX12_wipe_1 rfl (sd_puti hX fp_723 dX12_wipe_2 (sd_aload_n hX dX12_wipe_5 rfl (sd_geti hX fl_725 (by decide) dX12_wipe_6 (sd_istore_n hX (by decide) dX12_wipe_9 rfl (sd_aload_n hX dX12_wipe_10 rfl (sd_iconst hX dX12_wipe_11 rfl (sd_puti hX fp_725 dX12_wipe_12 (sd_iload_n hX dX12_wipe_15 rfl (sd_iret hX hr dX12_wipe_16)))))))))))
set_option maxHeartbeats 400000 in
theorem pf_X12_wipe (G : Nat → KT) (Q : Option mV → mM → Prop) (h0 : ∀ lv st M, BX12_wipe_0 G Q lv st M → G 0 lv st M) (as : List mV) (M : mM) (ho : ∀ v ∈ as, okV v) (hp : pre_X12_wipe as M) (hQ : Q (fn_X12_wipe as M).1 (fn_X12_wipe as M).2) : G 0 (inL as ++ List.replicate (2 - (inL as).length) none) [] M := by
  obtain ⟨c, rfl⟩ := hp
  obtain rfl : c = 158 := k12 (ho (.inr (.inr (12, c))) (by simp))
  simp only [fn_X12_wipe] at hQ
  (apply h0; simp only [BX12_wipe_0, s_mth, s_mab, s_at, s_iconst, s_lconst, s_iload, s_lload, s_aload, s_istore, s_lstore, s_astore, s_iinc, s_bin, s_binG, s_un, s_lbin, s_lbinG, s_lsh, s_lcmp, s_i2l, s_l2i, s_dup, s_dup2, s_pop, s_if, s_icmp, s_geti, s_getl, s_getr, s_puti, s_putz, s_putl, s_iald, s_zald, s_iast, s_zast, s_aaldS, s_aaldU, s_gets, s_tald, s_tsw, tsw, s_iret, s_zret, s_lret, s_aret, s_vret, s_callV, s_callS, c1, nl1, keepL, csum, pushR, inL, List.getD_cons_zero, List.getD_cons_succ, List.set_cons_zero, List.set_cons_succ, List.cons_append, List.nil_append, List.append_nil, List.replicate, List.length_cons, List.length_nil, List.take_succ_cons, List.take_zero, List.drop_succ_cons, List.drop_zero, List.reverse_cons, List.reverse_nil, true_and, and_true, forall_const, not_true_eq_false, not_false_eq_true, false_implies, true_implies, implies_true, one0, m10, Nat.reduceAdd, Nat.reduceSub, Nat.reduceLeDiff, Nat.zero_add, Nat.add_zero])
  exact hQ
theorem ct_X12_wipe (l : Launch) : Con l yX12_wipe cX12_wipe 2 (Option.some FieldType.int) 0 pre_X12_wipe fn_X12_wipe := con_of (by decide +kernel) ok_X12_wipe len_X12_wipe (fun p e s m args below meth c D ca ad A as M hX hr hp ho => pf_X12_wipe _ _ (bsX12_wipe_0 hX hr) as M ho hp ⟨rfl, rfl⟩)
def fgV (M : mM) : Int32 := if M.1 158 2 ≤ M.1 158 3 then -9 else M.1 159 (PZ M) - 48
def fgr (M : mM) (a b : Int32) : Int32 × mM := if wi (fgV M) a b = 0 then (-9, M) else (fgV M, mset M 158 3 (M.1 158 3 + 1))
def pre_X12_figure (as : List mV) (M : mM) : Prop := ∃ c a b, as = [.inr (.inr (12, c)), .inl a, .inl b] ∧ PS M
def fn_X12_figure : List mV → mM → Option mV × mM
  | [.inr (.inr (_, c)), .inl a, .inl b], M => (some (.inl (fgr M a b).1), (fgr M a b).2)
  | _, M => (none, M)
theorem ok_X12_figure (as : List mV) (M : mM) (h : pre_X12_figure as M) (_ : ∀ v ∈ as, okV v) : okR (fn_X12_figure as M).1 := by
  obtain ⟨c, a, b, rfl, -⟩ := h
  first | trivial | exact (by decide +kernel : kof 14 = 8)
theorem len_X12_figure (as : List mV) (M : mM) (h : pre_X12_figure as M) : (inL as).length ≤ 4 := by
  obtain ⟨c, a, b, rfl, -⟩ := h
  exact Nat.le_of_ble_eq_true rfl

theorem fl_726 : FLk "FairBlocksModel" 90 12 3 0 := ⟨RX12, TX12, 32, rfl, inX12, by decide, w_726, by decide, rfl⟩
theorem fp_726 : FPk "FairBlocksModel" 90 12 3 0 .int := ⟨RX12, TX12, 32, tyX12, rfl, inX12, by decide, w_726, by decide, rfl, tyX12_ok, nmX12, rfl, rfl⟩
theorem dX12_figure_0 : decode cX12_figure 0 = .ok (.aload_n 0, 1) := by decide +kernel
theorem dX12_figure_1 : decode cX12_figure 1 = .ok (.getfield 90, 3) := by decide +kernel
theorem dX12_figure_4 : decode cX12_figure 4 = .ok (.aload_n 0, 1) := by decide +kernel
theorem dX12_figure_5 : decode cX12_figure 5 = .ok (.getfield 87, 3) := by decide +kernel
theorem dX12_figure_8 : decode cX12_figure 8 = .ok (.if_icmp .ge 18, 3) := by decide +kernel
theorem dX12_figure_11 : decode cX12_figure 11 = .ok (.aload_n 0, 1) := by decide +kernel
theorem dX12_figure_12 : decode cX12_figure 12 = .ok (.getfield 27, 3) := by decide +kernel
theorem dX12_figure_15 : decode cX12_figure 15 = .ok (.aload_n 0, 1) := by decide +kernel
theorem dX12_figure_16 : decode cX12_figure 16 = .ok (.getfield 90, 3) := by decide +kernel
theorem dX12_figure_19 : decode cX12_figure 19 = .ok (.iaload, 1) := by decide +kernel
theorem dX12_figure_20 : decode cX12_figure 20 = .ok (.bipush 48, 2) := by decide +kernel
theorem dX12_figure_22 : decode cX12_figure 22 = .ok (.isub, 1) := by decide +kernel
theorem dX12_figure_23 : decode cX12_figure 23 = .ok (.goto 5, 3) := by decide +kernel
theorem dX12_figure_26 : decode cX12_figure 26 = .ok (.bipush (-9), 2) := by decide +kernel
theorem dX12_figure_28 : decode cX12_figure 28 = .ok (.istore_n 3, 1) := by decide +kernel
theorem dX12_figure_29 : decode cX12_figure 29 = .ok (.iload_n 3, 1) := by decide +kernel
theorem dX12_figure_30 : decode cX12_figure 30 = .ok (.i2l, 1) := by decide +kernel
theorem dX12_figure_31 : decode cX12_figure 31 = .ok (.iload_n 1, 1) := by decide +kernel
theorem dX12_figure_32 : decode cX12_figure 32 = .ok (.i2l, 1) := by decide +kernel
theorem dX12_figure_33 : decode cX12_figure 33 = .ok (.iload_n 2, 1) := by decide +kernel
theorem dX12_figure_34 : decode cX12_figure 34 = .ok (.i2l, 1) := by decide +kernel
theorem dX12_figure_35 : decode cX12_figure 35 = .ok (.invokestatic 17, 3) := by decide +kernel
theorem dX12_figure_38 : decode cX12_figure 38 = .ok (.ifCond .ne 6, 3) := by decide +kernel
theorem dX12_figure_41 : decode cX12_figure 41 = .ok (.bipush (-9), 2) := by decide +kernel
theorem dX12_figure_43 : decode cX12_figure 43 = .ok (.ireturn, 1) := by decide +kernel
theorem dX12_figure_44 : decode cX12_figure 44 = .ok (.aload_n 0, 1) := by decide +kernel
theorem dX12_figure_45 : decode cX12_figure 45 = .ok (.dup, 1) := by decide +kernel
theorem dX12_figure_46 : decode cX12_figure 46 = .ok (.getfield 90, 3) := by decide +kernel
theorem dX12_figure_49 : decode cX12_figure 49 = .ok (.iconst 1, 1) := by decide +kernel
theorem dX12_figure_50 : decode cX12_figure 50 = .ok (.iadd, 1) := by decide +kernel
theorem dX12_figure_51 : decode cX12_figure 51 = .ok (.putfield 90, 3) := by decide +kernel
theorem dX12_figure_54 : decode cX12_figure 54 = .ok (.iload_n 3, 1) := by decide +kernel
theorem dX12_figure_55 : decode cX12_figure 55 = .ok (.ireturn, 1) := by decide +kernel
theorem mk_X12_figure : MVk yX12_figure "FairBlocksModel" cX12_figure 4 (Option.some FieldType.int) 2 := ⟨w_847, w_846, wp_16, w_13, rfl, by decide +kernel, by decide +kernel, by decide +kernel⟩
def BX12_figure_0 (G : Nat → KT) (Q : Option mV → mM → Prop) : KT := (s_aload 0 (s_geti 12 3 (s_aload 0 (s_geti 12 2 (s_icmp (fun x y => y ≤ x) (s_at G 26 [true, true, true, false]) (s_aload 0 (s_getr 12 13 (fun _ => 159) (s_aload 0 (s_geti 12 3 (s_iald (s_iconst (48) (s_bin (fun x y => x - y) (s_at G 28 [true, true, true, false])))))))))))))
set_option maxRecDepth 4000 in
theorem bsX12_figure_0 {p : Program} {l : Launch} {e : Env} {s : State} {m : MethodId} {args : Array Value} {below : List Frame} {meth : Method} {c : Code} {D : va_G} {ca : Nat → ClassId} {ad : Nat → Nat} {A : Nat → Prop} {Q : Option mV → mM → Prop} (hX : CX p s m args meth c 4 cX12_figure "FairBlocksModel" D ca ad A) (hr : meth.sig.returnType = (Option.some FieldType.int)) : ∀ lv st M, BX12_figure_0 (Gd p l e (rmD 1) s m args below meth c 4 D ca ad A 0 0 (MQ below (QC D ca ad A Q) args s 0 0 A)) Q lv st M → Gd p l e (rmD 1) s m args below meth c 4 D ca ad A 0 0 (MQ below (QC D ca ad A Q) args s 0 0 A) 0 lv st M :=
  (sd_aload_n hX dX12_figure_0 rfl (sd_geti hX fl_726 (by decide) dX12_figure_1 (sd_aload_n hX dX12_figure_4 rfl (sd_geti hX fl_725 (by decide) dX12_figure_5 (sd_icmp_ge hX dX12_figure_8 (by decide) sd_at (sd_aload_n hX dX12_figure_11 rfl (sd_getr hX fl_724 (fun _ => rfl) (fun _ _ _ => by decide +kernel) dX12_figure_12 (sd_aload_n hX dX12_figure_15 rfl (sd_geti hX fl_726 (by decide) dX12_figure_16 (sd_iald hX dX12_figure_19 (sd_bipush hX dX12_figure_20 rfl (sd_isub hX dX12_figure_22 (sd_goto hX dX12_figure_23 (by decide) sd_at)))))))))))))
def BX12_figure_26 (G : Nat → KT) (Q : Option mV → mM → Prop) : KT := (s_iconst (-9) (s_at G 28 [true, true, true, false]))
set_option maxRecDepth 4000 in
theorem bsX12_figure_26 {p : Program} {l : Launch} {e : Env} {s : State} {m : MethodId} {args : Array Value} {below : List Frame} {meth : Method} {c : Code} {D : va_G} {ca : Nat → ClassId} {ad : Nat → Nat} {A : Nat → Prop} {Q : Option mV → mM → Prop} (hX : CX p s m args meth c 4 cX12_figure "FairBlocksModel" D ca ad A) (hr : meth.sig.returnType = (Option.some FieldType.int)) : ∀ lv st M, BX12_figure_26 (Gd p l e (rmD 1) s m args below meth c 4 D ca ad A 0 0 (MQ below (QC D ca ad A Q) args s 0 0 A)) Q lv st M → Gd p l e (rmD 1) s m args below meth c 4 D ca ad A 0 0 (MQ below (QC D ca ad A Q) args s 0 0 A) 26 lv st M :=
  (sd_bipush hX dX12_figure_26 rfl sd_at)
def BX12_figure_28 (G : Nat → KT) (Q : Option mV → mM → Prop) : KT := (s_istore 3 (s_iload 3 (s_i2l (s_iload 1 (s_i2l (s_iload 2 (s_i2l (s_callS 3 pre_X12_in fn_X12_in (s_if (fun x => x = 0) ((s_iconst (-9) (s_iret Q))) (s_at G 44 [true, false, false, true]))))))))))
set_option maxRecDepth 4000 in
theorem bsX12_figure_28 {p : Program} {l : Launch} {e : Env} {s : State} {m : MethodId} {args : Array Value} {below : List Frame} {meth : Method} {c : Code} {D : va_G} {ca : Nat → ClassId} {ad : Nat → Nat} {A : Nat → Prop} {Q : Option mV → mM → Prop} (hX : CX p s m args meth c 4 cX12_figure "FairBlocksModel" D ca ad A) (hr : meth.sig.returnType = (Option.some FieldType.int)) : ∀ lv st M, BX12_figure_28 (Gd p l e (rmD 1) s m args below meth c 4 D ca ad A 0 0 (MQ below (QC D ca ad A Q) args s 0 0 A)) Q lv st M → Gd p l e (rmD 1) s m args below meth c 4 D ca ad A 0 0 (MQ below (QC D ca ad A Q) args s 0 0 A) 28 lv st M :=
  (sd_istore_n hX (by decide) dX12_figure_28 rfl (sd_iload_n hX dX12_figure_29 rfl (sd_i2l hX dX12_figure_30 (sd_iload_n hX dX12_figure_31 rfl (sd_i2l hX dX12_figure_32 (sd_iload_n hX dX12_figure_33 rfl (sd_i2l hX dX12_figure_34 (sd_callS hX (ct_X12_in l) mk_X12_in w_825 ⟨⟨by decide, by decide⟩, by decide, by decide⟩ dX12_figure_35 (sd_if_ne hX dX12_figure_38 (by decide) sd_at (sd_bipush hX dX12_figure_41 rfl (sd_iret hX hr dX12_figure_43)))))))))))
def BX12_figure_44 (G : Nat → KT) (Q : Option mV → mM → Prop) : KT := (s_aload 0 (s_dup (s_geti 12 3 (s_iconst (1) (s_bin (fun x y => x + y) (s_puti 12 3 (s_iload 3 (s_iret Q))))))))
set_option maxRecDepth 4000 in
theorem bsX12_figure_44 {p : Program} {l : Launch} {e : Env} {s : State} {m : MethodId} {args : Array Value} {below : List Frame} {meth : Method} {c : Code} {D : va_G} {ca : Nat → ClassId} {ad : Nat → Nat} {A : Nat → Prop} {Q : Option mV → mM → Prop} (hX : CX p s m args meth c 4 cX12_figure "FairBlocksModel" D ca ad A) (hr : meth.sig.returnType = (Option.some FieldType.int)) : ∀ lv st M, BX12_figure_44 (Gd p l e (rmD 1) s m args below meth c 4 D ca ad A 0 0 (MQ below (QC D ca ad A Q) args s 0 0 A)) Q lv st M → Gd p l e (rmD 1) s m args below meth c 4 D ca ad A 0 0 (MQ below (QC D ca ad A Q) args s 0 0 A) 44 lv st M :=
  (sd_aload_n hX dX12_figure_44 rfl (sd_dup hX dX12_figure_45 (sd_geti hX fl_726 (by decide) dX12_figure_46 (sd_iconst hX dX12_figure_49 rfl (sd_iadd hX dX12_figure_50 (sd_puti hX fp_726 dX12_figure_51 (sd_iload_n hX dX12_figure_54 rfl (sd_iret hX hr dX12_figure_55))))))))
set_option maxHeartbeats 400000 in
theorem pf_X12_figure (G : Nat → KT) (Q : Option mV → mM → Prop) (h0 : ∀ lv st M, BX12_figure_0 G Q lv st M → G 0 lv st M) (h26 : ∀ lv st M, BX12_figure_26 G Q lv st M → G 26 lv st M) (h28 : ∀ lv st M, BX12_figure_28 G Q lv st M → G 28 lv st M) (h44 : ∀ lv st M, BX12_figure_44 G Q lv st M → G 44 lv st M) (as : List mV) (M : mM) (ho : ∀ v ∈ as, okV v) (hp : pre_X12_figure as M) (hQ : Q (fn_X12_figure as M).1 (fn_X12_figure as M).2) : G 0 (inL as ++ List.replicate (4 - (inL as).length) none) [] M := by
  obtain ⟨c, a, b, rfl, t, p, ht, hp, et, ep⟩ := hp
  obtain rfl : c = 158 := k12 (ho (.inr (.inr (12, c))) (by simp))
  have eP : PZ M = p := by unfold PZ; rw [ep, nI_clamp (by omega)]
  simp only [fn_X12_figure, fgr] at hQ
  have R : ∀ (x y : Int32) (M' : mM), wi x a b = 0 → x = fgV M → Q (some (.inl (-9))) M := by
    intro x y M' h ex
    rw [← ex, if_pos h] at hQ
    exact hQ
  have R2 : ∀ (x : Int32), ¬ wi x a b = 0 → x = fgV M → Q (some (.inl x)) (mset M 158 3 (M.1 158 3 + 1)) := by
    intro x h ex
    rw [← ex, if_neg h] at hQ
    exact hQ
  clear hQ
  have L : ∀ v, v = fgV M → G 28 [some (.inr (.inr (12, 158))), some (.inl a), some (.inl b), none] [.inl v] M := by
    intro v ev
    have e : iL v.toInt64 a.toInt64 b.toInt64 = wi v a b := iLw v a b
    have r1 := fun h => R v v M h ev
    have r2 := fun h => R2 v h ev
    clear R R2 ev
    have L44 : ¬ wi v a b = 0 → G 44 [some (.inr (.inr (12, 158))), none, none, some (.inl v)] [] M := by
      intro h
      (apply h44; simp only [BX12_figure_44, s_mth, s_mab, s_at, s_iconst, s_lconst, s_iload, s_lload, s_aload, s_istore, s_lstore, s_astore, s_iinc, s_bin, s_binG, s_un, s_lbin, s_lbinG, s_lsh, s_lcmp, s_i2l, s_l2i, s_dup, s_dup2, s_pop, s_if, s_icmp, s_geti, s_getl, s_getr, s_puti, s_putz, s_putl, s_iald, s_zald, s_iast, s_zast, s_aaldS, s_aaldU, s_gets, s_tald, s_tsw, tsw, s_iret, s_zret, s_lret, s_aret, s_vret, s_callV, s_callS, c1, nl1, keepL, csum, pushR, inL, List.getD_cons_zero, List.getD_cons_succ, List.set_cons_zero, List.set_cons_succ, List.cons_append, List.nil_append, List.append_nil, List.replicate, List.length_cons, List.length_nil, List.take_succ_cons, List.take_zero, List.drop_succ_cons, List.drop_zero, List.reverse_cons, List.reverse_nil, true_and, and_true, forall_const, not_true_eq_false, not_false_eq_true, false_implies, true_implies, implies_true, one0, m10, Nat.reduceAdd, Nat.reduceSub, Nat.reduceLeDiff, Nat.zero_add, Nat.add_zero, fn_X12_in])
      exact r2 h
    have r1' : iL v.toInt64 a.toInt64 b.toInt64 = 0 → Q (some (.inl (-9))) M := by rw [e]; exact r1
    have L44' : ¬ iL v.toInt64 a.toInt64 b.toInt64 = 0 → G 44 [some (.inr (.inr (12, 158))), none, none, some (.inl v)] [] M := by rw [e]; exact L44
    clear e r1 r2 L44
    have p1 : pre_X12_in [.inr (.inl v.toInt64), .inr (.inl a.toInt64), .inr (.inl b.toInt64)] M := ⟨_, _, _, rfl⟩
    refine h28 _ _ _ ?_
    refine And.intro trivial ?_
    exact And.intro (Nat.le_refl _) (And.intro (Nat.zero_le _) (And.intro p1 (And.intro r1' L44')))
  unfold fgV at L
  rw [eP] at L
  (apply h0; simp only [BX12_figure_0, s_mth, s_mab, s_at, s_iconst, s_lconst, s_iload, s_lload, s_aload, s_istore, s_lstore, s_astore, s_iinc, s_bin, s_binG, s_un, s_lbin, s_lbinG, s_lsh, s_lcmp, s_i2l, s_l2i, s_dup, s_dup2, s_pop, s_if, s_icmp, s_geti, s_getl, s_getr, s_puti, s_putz, s_putl, s_iald, s_zald, s_iast, s_zast, s_aaldS, s_aaldU, s_gets, s_tald, s_tsw, tsw, s_iret, s_zret, s_lret, s_aret, s_vret, s_callV, s_callS, c1, nl1, keepL, csum, pushR, inL, List.getD_cons_zero, List.getD_cons_succ, List.set_cons_zero, List.set_cons_succ, List.cons_append, List.nil_append, List.append_nil, List.replicate, List.length_cons, List.length_nil, List.take_succ_cons, List.take_zero, List.drop_succ_cons, List.drop_zero, List.reverse_cons, List.reverse_nil, true_and, and_true, forall_const, not_true_eq_false, not_false_eq_true, false_implies, true_implies, implies_true, one0, m10, Nat.reduceAdd, Nat.reduceSub, Nat.reduceLeDiff, Nat.zero_add, Nat.add_zero, fn_X12_in])
  refine ⟨fun h => ?_, fun h => ?_⟩
  · (apply h26; simp only [BX12_figure_26, s_mth, s_mab, s_at, s_iconst, s_lconst, s_iload, s_lload, s_aload, s_istore, s_lstore, s_astore, s_iinc, s_bin, s_binG, s_un, s_lbin, s_lbinG, s_lsh, s_lcmp, s_i2l, s_l2i, s_dup, s_dup2, s_pop, s_if, s_icmp, s_geti, s_getl, s_getr, s_puti, s_putz, s_putl, s_iald, s_zald, s_iast, s_zast, s_aaldS, s_aaldU, s_gets, s_tald, s_tsw, tsw, s_iret, s_zret, s_lret, s_aret, s_vret, s_callV, s_callS, c1, nl1, keepL, csum, pushR, inL, List.getD_cons_zero, List.getD_cons_succ, List.set_cons_zero, List.set_cons_succ, List.cons_append, List.nil_append, List.append_nil, List.replicate, List.length_cons, List.length_nil, List.take_succ_cons, List.take_zero, List.drop_succ_cons, List.drop_zero, List.reverse_cons, List.reverse_nil, true_and, and_true, forall_const, not_true_eq_false, not_false_eq_true, false_implies, true_implies, implies_true, one0, m10, Nat.reduceAdd, Nat.reduceSub, Nat.reduceLeDiff, Nat.zero_add, Nat.add_zero, fn_X12_in])
    exact L _ (by rw [if_pos h])
  · have hlt : p < t := by
      rcases Nat.lt_or_ge p t with g | g
      · exact g
      · exact absurd (by rw [et, ep]; exact nI_le g (by omega)) h
    have L2 := L (M.1 159 p - 48) (by rw [if_neg h])
    simp only [lM]
    rw [ep, nI_clamp (by omega : p < 2 ^ 31)]
    exact ⟨vz (by omega) (by decide), L2⟩
theorem ct_X12_figure (l : Launch) : Con l yX12_figure cX12_figure 4 (Option.some FieldType.int) 1 pre_X12_figure fn_X12_figure := con_of (by decide +kernel) ok_X12_figure len_X12_figure (fun p e s m args below meth c D ca ad A as M hX hr hp ho => pf_X12_figure _ _ (bsX12_figure_0 hX hr) (bsX12_figure_26 hX hr) (bsX12_figure_28 hX hr) (bsX12_figure_44 hX hr) as M ho hp ⟨rfl, rfl⟩)
theorem PS_fgr {M : mM} {a b : Int32} (h : PS M) (ha : wi (-9) a b = 0) : PS (fgr M a b).2 := by
  obtain ⟨t, p, ht, hp, et, ep⟩ := h
  unfold fgr
  split
  · exact ⟨t, p, ht, hp, et, ep⟩
  · next g =>
    have hlt : p < t := by
      rcases Nat.lt_or_ge p t with g2 | g2
      · exact g2
      · exfalso
        apply g
        unfold fgV
        rw [et, ep, if_pos (nI_le g2 (by omega))]
        exact ha
    exact ⟨t, p + 1, ht, by omega, by rw [mset_o (by decide)]; exact et, by rw [mset_s, ep, nI_1]⟩
theorem fgr_n {M : mM} {a b : Int32} {k j : Nat} (h : k ≠ 158 ∨ j ≠ 3) : (fgr M a b).2.1 k j = M.1 k j := by
  unfold fgr
  split
  · rfl
  · rw [mset_get, if_neg (by omega)]
theorem w9a : wi (-9) 1 4 = 0 := by decide
theorem w9b : wi (-9) 0 9 = 0 := by decide
theorem w9c : wi (-9) 1 9 = 0 := by decide
theorem PS_m {M : mM} {k j : Nat} {v : Int32} (h : PS M) (hk : k ≠ 158 ∨ (j ≠ 2 ∧ j ≠ 3)) : PS (mset M k j v) := by
  obtain ⟨t, p, ht, hp, et, ep⟩ := h
  exact ⟨t, p, ht, hp, by rw [mset_get, if_neg (by omega)]; exact et, by rw [mset_get, if_neg (by omega)]; exact ep⟩
def rh4 (M : mM) : Int32 × mM := (if M.1 158 11 = -9 then 0 else 1, M)
def rh3 (M : mM) : Int32 × mM := if M.1 158 10 = -9 then rh4 (mset M 158 11 (-9)) else rh4 (mset (fgr M 0 9).2 158 11 (fgr M 0 9).1)
def rh2 (M : mM) : Int32 × mM := if M.1 158 9 = -9 then rh3 (mset M 158 10 (-9)) else rh3 (mset (fgr M 1 4).2 158 10 (fgr M 1 4).1)
def rh1 (M : mM) : Int32 × mM := rh2 (mset (fgr M 1 4).2 158 9 (fgr M 1 4).1)
def rhd (M : mM) : Int32 × mM := if M.1 158 2 = 0 then (0, M) else if M.1 159 0 = 67 then rh1 (mset M 158 3 1) else (0, M)
def pre_X12_readHead (as : List mV) (M : mM) : Prop := ∃ c, as = [.inr (.inr (12, c))] ∧ ∃ t, t ≤ 80 ∧ M.1 158 2 = nI t
def fn_X12_readHead : List mV → mM → Option mV × mM
  | [.inr (.inr (_, c))], M => (some (.inl (rhd M).1), (rhd M).2)
  | _, M => (none, M)
theorem ok_X12_readHead (as : List mV) (M : mM) (h : pre_X12_readHead as M) (_ : ∀ v ∈ as, okV v) : okR (fn_X12_readHead as M).1 := by
  obtain ⟨c, rfl, -⟩ := h
  first | trivial | exact (by decide +kernel : kof 14 = 8)
theorem len_X12_readHead (as : List mV) (M : mM) (h : pre_X12_readHead as M) : (inL as).length ≤ 1 := by
  obtain ⟨c, rfl, -⟩ := h
  exact Nat.le_of_ble_eq_true rfl

theorem fl_732 : FLk "FairBlocksModel" 97 12 9 0 := ⟨RX12, TX12, 32, rfl, inX12, by decide, w_732, by decide, rfl⟩
theorem fl_733 : FLk "FairBlocksModel" 100 12 10 0 := ⟨RX12, TX12, 32, rfl, inX12, by decide, w_733, by decide, rfl⟩
theorem fl_734 : FLk "FairBlocksModel" 103 12 11 0 := ⟨RX12, TX12, 32, rfl, inX12, by decide, w_734, by decide, rfl⟩
theorem fp_732 : FPk "FairBlocksModel" 97 12 9 0 .int := ⟨RX12, TX12, 32, tyX12, rfl, inX12, by decide, w_732, by decide, rfl, tyX12_ok, nmX12, rfl, rfl⟩
theorem fp_733 : FPk "FairBlocksModel" 100 12 10 0 .int := ⟨RX12, TX12, 32, tyX12, rfl, inX12, by decide, w_733, by decide, rfl, tyX12_ok, nmX12, rfl, rfl⟩
theorem fp_734 : FPk "FairBlocksModel" 103 12 11 0 .int := ⟨RX12, TX12, 32, tyX12, rfl, inX12, by decide, w_734, by decide, rfl, tyX12_ok, nmX12, rfl, rfl⟩
theorem dX12_readHead_0 : decode cX12_readHead 0 = .ok (.aload_n 0, 1) := by decide +kernel
theorem dX12_readHead_1 : decode cX12_readHead 1 = .ok (.getfield 87, 3) := by decide +kernel
theorem dX12_readHead_4 : decode cX12_readHead 4 = .ok (.ifCond .eq 14, 3) := by decide +kernel
theorem dX12_readHead_7 : decode cX12_readHead 7 = .ok (.aload_n 0, 1) := by decide +kernel
theorem dX12_readHead_8 : decode cX12_readHead 8 = .ok (.getfield 27, 3) := by decide +kernel
theorem dX12_readHead_11 : decode cX12_readHead 11 = .ok (.iconst 0, 1) := by decide +kernel
theorem dX12_readHead_12 : decode cX12_readHead 12 = .ok (.iaload, 1) := by decide +kernel
theorem dX12_readHead_13 : decode cX12_readHead 13 = .ok (.bipush 67, 2) := by decide +kernel
theorem dX12_readHead_15 : decode cX12_readHead 15 = .ok (.if_icmp .eq 5, 3) := by decide +kernel
theorem dX12_readHead_18 : decode cX12_readHead 18 = .ok (.iconst 0, 1) := by decide +kernel
theorem dX12_readHead_19 : decode cX12_readHead 19 = .ok (.ireturn, 1) := by decide +kernel
theorem dX12_readHead_20 : decode cX12_readHead 20 = .ok (.aload_n 0, 1) := by decide +kernel
theorem dX12_readHead_21 : decode cX12_readHead 21 = .ok (.iconst 1, 1) := by decide +kernel
theorem dX12_readHead_22 : decode cX12_readHead 22 = .ok (.putfield 90, 3) := by decide +kernel
theorem dX12_readHead_25 : decode cX12_readHead 25 = .ok (.aload_n 0, 1) := by decide +kernel
theorem dX12_readHead_26 : decode cX12_readHead 26 = .ok (.aload_n 0, 1) := by decide +kernel
theorem dX12_readHead_27 : decode cX12_readHead 27 = .ok (.iconst 1, 1) := by decide +kernel
theorem dX12_readHead_28 : decode cX12_readHead 28 = .ok (.iconst 4, 1) := by decide +kernel
theorem dX12_readHead_29 : decode cX12_readHead 29 = .ok (.invokevirtual 93, 3) := by decide +kernel
theorem dX12_readHead_32 : decode cX12_readHead 32 = .ok (.putfield 97, 3) := by decide +kernel
theorem dX12_readHead_35 : decode cX12_readHead 35 = .ok (.aload_n 0, 1) := by decide +kernel
theorem dX12_readHead_36 : decode cX12_readHead 36 = .ok (.aload_n 0, 1) := by decide +kernel
theorem dX12_readHead_37 : decode cX12_readHead 37 = .ok (.getfield 97, 3) := by decide +kernel
theorem dX12_readHead_40 : decode cX12_readHead 40 = .ok (.bipush (-9), 2) := by decide +kernel
theorem dX12_readHead_42 : decode cX12_readHead 42 = .ok (.if_icmp .ne 8, 3) := by decide +kernel
theorem dX12_readHead_45 : decode cX12_readHead 45 = .ok (.bipush (-9), 2) := by decide +kernel
theorem dX12_readHead_47 : decode cX12_readHead 47 = .ok (.goto 9, 3) := by decide +kernel
theorem dX12_readHead_50 : decode cX12_readHead 50 = .ok (.aload_n 0, 1) := by decide +kernel
theorem dX12_readHead_51 : decode cX12_readHead 51 = .ok (.iconst 1, 1) := by decide +kernel
theorem dX12_readHead_52 : decode cX12_readHead 52 = .ok (.iconst 4, 1) := by decide +kernel
theorem dX12_readHead_53 : decode cX12_readHead 53 = .ok (.invokevirtual 93, 3) := by decide +kernel
theorem dX12_readHead_56 : decode cX12_readHead 56 = .ok (.putfield 100, 3) := by decide +kernel
theorem dX12_readHead_59 : decode cX12_readHead 59 = .ok (.aload_n 0, 1) := by decide +kernel
theorem dX12_readHead_60 : decode cX12_readHead 60 = .ok (.aload_n 0, 1) := by decide +kernel
theorem dX12_readHead_61 : decode cX12_readHead 61 = .ok (.getfield 100, 3) := by decide +kernel
theorem dX12_readHead_64 : decode cX12_readHead 64 = .ok (.bipush (-9), 2) := by decide +kernel
theorem dX12_readHead_66 : decode cX12_readHead 66 = .ok (.if_icmp .ne 8, 3) := by decide +kernel
theorem dX12_readHead_69 : decode cX12_readHead 69 = .ok (.bipush (-9), 2) := by decide +kernel
theorem dX12_readHead_71 : decode cX12_readHead 71 = .ok (.goto 10, 3) := by decide +kernel
theorem dX12_readHead_74 : decode cX12_readHead 74 = .ok (.aload_n 0, 1) := by decide +kernel
theorem dX12_readHead_75 : decode cX12_readHead 75 = .ok (.iconst 0, 1) := by decide +kernel
theorem dX12_readHead_76 : decode cX12_readHead 76 = .ok (.bipush 9, 2) := by decide +kernel
theorem dX12_readHead_78 : decode cX12_readHead 78 = .ok (.invokevirtual 93, 3) := by decide +kernel
theorem dX12_readHead_81 : decode cX12_readHead 81 = .ok (.putfield 103, 3) := by decide +kernel
theorem dX12_readHead_84 : decode cX12_readHead 84 = .ok (.aload_n 0, 1) := by decide +kernel
theorem dX12_readHead_85 : decode cX12_readHead 85 = .ok (.getfield 103, 3) := by decide +kernel
theorem dX12_readHead_88 : decode cX12_readHead 88 = .ok (.bipush (-9), 2) := by decide +kernel
theorem dX12_readHead_90 : decode cX12_readHead 90 = .ok (.if_icmp .eq 7, 3) := by decide +kernel
theorem dX12_readHead_93 : decode cX12_readHead 93 = .ok (.iconst 1, 1) := by decide +kernel
theorem dX12_readHead_94 : decode cX12_readHead 94 = .ok (.goto 4, 3) := by decide +kernel
theorem dX12_readHead_97 : decode cX12_readHead 97 = .ok (.iconst 0, 1) := by decide +kernel
theorem dX12_readHead_98 : decode cX12_readHead 98 = .ok (.ireturn, 1) := by decide +kernel
theorem mk_X12_readHead : MVk yX12_readHead "FairBlocksModel" cX12_readHead 1 (Option.some FieldType.boolean) 0 := ⟨w_843, w_842, wp_15, w_13, rfl, by decide +kernel, by decide +kernel, by decide +kernel⟩
def BX12_readHead_0 (G : Nat → KT) (Q : Option mV → mM → Prop) : KT := (s_aload 0 (s_geti 12 2 (s_if (fun x => x = 0) (s_at G 18 [false]) (s_aload 0 (s_getr 12 13 (fun _ => 159) (s_iconst (0) (s_iald (s_iconst (67) (s_icmp (fun x y => x = y) (s_at G 20 [true]) (s_at G 18 [false]))))))))))
set_option maxRecDepth 4000 in
theorem bsX12_readHead_0 {p : Program} {l : Launch} {e : Env} {s : State} {m : MethodId} {args : Array Value} {below : List Frame} {meth : Method} {c : Code} {D : va_G} {ca : Nat → ClassId} {ad : Nat → Nat} {A : Nat → Prop} {Q : Option mV → mM → Prop} (hX : CX p s m args meth c 1 cX12_readHead "FairBlocksModel" D ca ad A) (hr : meth.sig.returnType = (Option.some FieldType.boolean)) : ∀ lv st M, BX12_readHead_0 (Gd p l e (rmD 2) s m args below meth c 1 D ca ad A 0 0 (MQ below (QC D ca ad A Q) args s 0 0 A)) Q lv st M → Gd p l e (rmD 2) s m args below meth c 1 D ca ad A 0 0 (MQ below (QC D ca ad A Q) args s 0 0 A) 0 lv st M :=
  (sd_aload_n hX dX12_readHead_0 rfl (sd_geti hX fl_725 (by decide) dX12_readHead_1 (sd_if_eq hX dX12_readHead_4 (by decide) sd_at (sd_aload_n hX dX12_readHead_7 rfl (sd_getr hX fl_724 (fun _ => rfl) (fun _ _ _ => by decide +kernel) dX12_readHead_8 (sd_iconst hX dX12_readHead_11 rfl (sd_iald hX dX12_readHead_12 (sd_bipush hX dX12_readHead_13 rfl (sd_icmp_eq hX dX12_readHead_15 (by decide) sd_at sd_at)))))))))
def BX12_readHead_18 (G : Nat → KT) (Q : Option mV → mM → Prop) : KT := (s_iconst (0) (s_zret Q))
set_option maxRecDepth 4000 in
theorem bsX12_readHead_18 {p : Program} {l : Launch} {e : Env} {s : State} {m : MethodId} {args : Array Value} {below : List Frame} {meth : Method} {c : Code} {D : va_G} {ca : Nat → ClassId} {ad : Nat → Nat} {A : Nat → Prop} {Q : Option mV → mM → Prop} (hX : CX p s m args meth c 1 cX12_readHead "FairBlocksModel" D ca ad A) (hr : meth.sig.returnType = (Option.some FieldType.boolean)) : ∀ lv st M, BX12_readHead_18 (Gd p l e (rmD 2) s m args below meth c 1 D ca ad A 0 0 (MQ below (QC D ca ad A Q) args s 0 0 A)) Q lv st M → Gd p l e (rmD 2) s m args below meth c 1 D ca ad A 0 0 (MQ below (QC D ca ad A Q) args s 0 0 A) 18 lv st M :=
  (sd_iconst hX dX12_readHead_18 rfl (sd_zret hX hr dX12_readHead_19))
def BX12_readHead_20 (G : Nat → KT) (Q : Option mV → mM → Prop) : KT := (s_aload 0 (s_iconst (1) (s_puti 12 3 (s_aload 0 (s_aload 0 (s_iconst (1) (s_iconst (4) (s_callV 12 2 pre_X12_figure fn_X12_figure (s_puti 12 9 (s_aload 0 (s_aload 0 (s_geti 12 9 (s_iconst (-9) (s_icmp (fun x y => x = y) ((s_iconst (-9) (s_at G 56 [true]))) (s_at G 50 [true])))))))))))))))
set_option maxRecDepth 4000 in
theorem bsX12_readHead_20 {p : Program} {l : Launch} {e : Env} {s : State} {m : MethodId} {args : Array Value} {below : List Frame} {meth : Method} {c : Code} {D : va_G} {ca : Nat → ClassId} {ad : Nat → Nat} {A : Nat → Prop} {Q : Option mV → mM → Prop} (hX : CX p s m args meth c 1 cX12_readHead "FairBlocksModel" D ca ad A) (hr : meth.sig.returnType = (Option.some FieldType.boolean)) : ∀ lv st M, BX12_readHead_20 (Gd p l e (rmD 2) s m args below meth c 1 D ca ad A 0 0 (MQ below (QC D ca ad A Q) args s 0 0 A)) Q lv st M → Gd p l e (rmD 2) s m args below meth c 1 D ca ad A 0 0 (MQ below (QC D ca ad A Q) args s 0 0 A) 20 lv st M :=
  (sd_aload_n hX dX12_readHead_20 rfl (sd_iconst hX dX12_readHead_21 rfl (sd_puti hX fp_726 dX12_readHead_22 (sd_aload_n hX dX12_readHead_25 rfl (sd_aload_n hX dX12_readHead_26 rfl (sd_iconst hX dX12_readHead_27 rfl (sd_iconst hX dX12_readHead_28 rfl (sd_callV hX (kd := 12) rfl (by decide) (ct_X12_figure l) mk_X12_figure w_844 ⟨⟨by decide, by decide⟩, by decide, by decide⟩ dX12_readHead_29 (sd_puti hX fp_732 dX12_readHead_32 (sd_aload_n hX dX12_readHead_35 rfl (sd_aload_n hX dX12_readHead_36 rfl (sd_geti hX fl_732 (by decide) dX12_readHead_37 (sd_bipush hX dX12_readHead_40 rfl (sd_icmp_ne hX dX12_readHead_42 (by decide) sd_at (sd_bipush hX dX12_readHead_45 rfl (sd_goto hX dX12_readHead_47 (by decide) sd_at))))))))))))))))
def BX12_readHead_50 (G : Nat → KT) (Q : Option mV → mM → Prop) : KT := (s_aload 0 (s_iconst (1) (s_iconst (4) (s_callV 12 2 pre_X12_figure fn_X12_figure (s_at G 56 [true])))))
set_option maxRecDepth 4000 in
theorem bsX12_readHead_50 {p : Program} {l : Launch} {e : Env} {s : State} {m : MethodId} {args : Array Value} {below : List Frame} {meth : Method} {c : Code} {D : va_G} {ca : Nat → ClassId} {ad : Nat → Nat} {A : Nat → Prop} {Q : Option mV → mM → Prop} (hX : CX p s m args meth c 1 cX12_readHead "FairBlocksModel" D ca ad A) (hr : meth.sig.returnType = (Option.some FieldType.boolean)) : ∀ lv st M, BX12_readHead_50 (Gd p l e (rmD 2) s m args below meth c 1 D ca ad A 0 0 (MQ below (QC D ca ad A Q) args s 0 0 A)) Q lv st M → Gd p l e (rmD 2) s m args below meth c 1 D ca ad A 0 0 (MQ below (QC D ca ad A Q) args s 0 0 A) 50 lv st M :=
  (sd_aload_n hX dX12_readHead_50 rfl (sd_iconst hX dX12_readHead_51 rfl (sd_iconst hX dX12_readHead_52 rfl (sd_callV hX (kd := 12) rfl (by decide) (ct_X12_figure l) mk_X12_figure w_844 ⟨⟨by decide, by decide⟩, by decide, by decide⟩ dX12_readHead_53 sd_at))))
def BX12_readHead_56 (G : Nat → KT) (Q : Option mV → mM → Prop) : KT := (s_puti 12 10 (s_aload 0 (s_aload 0 (s_geti 12 10 (s_iconst (-9) (s_icmp (fun x y => x = y) ((s_iconst (-9) (s_at G 81 [true]))) (s_at G 74 [true])))))))
set_option maxRecDepth 4000 in
theorem bsX12_readHead_56 {p : Program} {l : Launch} {e : Env} {s : State} {m : MethodId} {args : Array Value} {below : List Frame} {meth : Method} {c : Code} {D : va_G} {ca : Nat → ClassId} {ad : Nat → Nat} {A : Nat → Prop} {Q : Option mV → mM → Prop} (hX : CX p s m args meth c 1 cX12_readHead "FairBlocksModel" D ca ad A) (hr : meth.sig.returnType = (Option.some FieldType.boolean)) : ∀ lv st M, BX12_readHead_56 (Gd p l e (rmD 2) s m args below meth c 1 D ca ad A 0 0 (MQ below (QC D ca ad A Q) args s 0 0 A)) Q lv st M → Gd p l e (rmD 2) s m args below meth c 1 D ca ad A 0 0 (MQ below (QC D ca ad A Q) args s 0 0 A) 56 lv st M :=
  (sd_puti hX fp_733 dX12_readHead_56 (sd_aload_n hX dX12_readHead_59 rfl (sd_aload_n hX dX12_readHead_60 rfl (sd_geti hX fl_733 (by decide) dX12_readHead_61 (sd_bipush hX dX12_readHead_64 rfl (sd_icmp_ne hX dX12_readHead_66 (by decide) sd_at (sd_bipush hX dX12_readHead_69 rfl (sd_goto hX dX12_readHead_71 (by decide) sd_at))))))))
def BX12_readHead_74 (G : Nat → KT) (Q : Option mV → mM → Prop) : KT := (s_aload 0 (s_iconst (0) (s_iconst (9) (s_callV 12 2 pre_X12_figure fn_X12_figure (s_at G 81 [true])))))
set_option maxRecDepth 4000 in
theorem bsX12_readHead_74 {p : Program} {l : Launch} {e : Env} {s : State} {m : MethodId} {args : Array Value} {below : List Frame} {meth : Method} {c : Code} {D : va_G} {ca : Nat → ClassId} {ad : Nat → Nat} {A : Nat → Prop} {Q : Option mV → mM → Prop} (hX : CX p s m args meth c 1 cX12_readHead "FairBlocksModel" D ca ad A) (hr : meth.sig.returnType = (Option.some FieldType.boolean)) : ∀ lv st M, BX12_readHead_74 (Gd p l e (rmD 2) s m args below meth c 1 D ca ad A 0 0 (MQ below (QC D ca ad A Q) args s 0 0 A)) Q lv st M → Gd p l e (rmD 2) s m args below meth c 1 D ca ad A 0 0 (MQ below (QC D ca ad A Q) args s 0 0 A) 74 lv st M :=
  (sd_aload_n hX dX12_readHead_74 rfl (sd_iconst hX dX12_readHead_75 rfl (sd_bipush hX dX12_readHead_76 rfl (sd_callV hX (kd := 12) rfl (by decide) (ct_X12_figure l) mk_X12_figure w_844 ⟨⟨by decide, by decide⟩, by decide, by decide⟩ dX12_readHead_78 sd_at))))
def BX12_readHead_81 (G : Nat → KT) (Q : Option mV → mM → Prop) : KT := (s_puti 12 11 (s_aload 0 (s_geti 12 11 (s_iconst (-9) (s_icmp (fun x y => x = y) (s_at G 97 [false]) (s_iconst (1) (s_at G 98 [false])))))))
set_option maxRecDepth 4000 in
theorem bsX12_readHead_81 {p : Program} {l : Launch} {e : Env} {s : State} {m : MethodId} {args : Array Value} {below : List Frame} {meth : Method} {c : Code} {D : va_G} {ca : Nat → ClassId} {ad : Nat → Nat} {A : Nat → Prop} {Q : Option mV → mM → Prop} (hX : CX p s m args meth c 1 cX12_readHead "FairBlocksModel" D ca ad A) (hr : meth.sig.returnType = (Option.some FieldType.boolean)) : ∀ lv st M, BX12_readHead_81 (Gd p l e (rmD 2) s m args below meth c 1 D ca ad A 0 0 (MQ below (QC D ca ad A Q) args s 0 0 A)) Q lv st M → Gd p l e (rmD 2) s m args below meth c 1 D ca ad A 0 0 (MQ below (QC D ca ad A Q) args s 0 0 A) 81 lv st M :=
  (sd_puti hX fp_734 dX12_readHead_81 (sd_aload_n hX dX12_readHead_84 rfl (sd_geti hX fl_734 (by decide) dX12_readHead_85 (sd_bipush hX dX12_readHead_88 rfl (sd_icmp_eq hX dX12_readHead_90 (by decide) sd_at (sd_iconst hX dX12_readHead_93 rfl (sd_goto hX dX12_readHead_94 (by decide) sd_at)))))))
def BX12_readHead_97 (G : Nat → KT) (Q : Option mV → mM → Prop) : KT := (s_iconst (0) (s_at G 98 [false]))
set_option maxRecDepth 4000 in
theorem bsX12_readHead_97 {p : Program} {l : Launch} {e : Env} {s : State} {m : MethodId} {args : Array Value} {below : List Frame} {meth : Method} {c : Code} {D : va_G} {ca : Nat → ClassId} {ad : Nat → Nat} {A : Nat → Prop} {Q : Option mV → mM → Prop} (hX : CX p s m args meth c 1 cX12_readHead "FairBlocksModel" D ca ad A) (hr : meth.sig.returnType = (Option.some FieldType.boolean)) : ∀ lv st M, BX12_readHead_97 (Gd p l e (rmD 2) s m args below meth c 1 D ca ad A 0 0 (MQ below (QC D ca ad A Q) args s 0 0 A)) Q lv st M → Gd p l e (rmD 2) s m args below meth c 1 D ca ad A 0 0 (MQ below (QC D ca ad A Q) args s 0 0 A) 97 lv st M :=
  (sd_iconst hX dX12_readHead_97 rfl sd_at)
def BX12_readHead_98 (G : Nat → KT) (Q : Option mV → mM → Prop) : KT := (s_zret Q)
set_option maxRecDepth 4000 in
theorem bsX12_readHead_98 {p : Program} {l : Launch} {e : Env} {s : State} {m : MethodId} {args : Array Value} {below : List Frame} {meth : Method} {c : Code} {D : va_G} {ca : Nat → ClassId} {ad : Nat → Nat} {A : Nat → Prop} {Q : Option mV → mM → Prop} (hX : CX p s m args meth c 1 cX12_readHead "FairBlocksModel" D ca ad A) (hr : meth.sig.returnType = (Option.some FieldType.boolean)) : ∀ lv st M, BX12_readHead_98 (Gd p l e (rmD 2) s m args below meth c 1 D ca ad A 0 0 (MQ below (QC D ca ad A Q) args s 0 0 A)) Q lv st M → Gd p l e (rmD 2) s m args below meth c 1 D ca ad A 0 0 (MQ below (QC D ca ad A Q) args s 0 0 A) 98 lv st M :=
  sd_zret hX hr dX12_readHead_98
set_option maxHeartbeats 400000 in
theorem pf_X12_readHead (G : Nat → KT) (Q : Option mV → mM → Prop) (h0 : ∀ lv st M, BX12_readHead_0 G Q lv st M → G 0 lv st M) (h18 : ∀ lv st M, BX12_readHead_18 G Q lv st M → G 18 lv st M) (h20 : ∀ lv st M, BX12_readHead_20 G Q lv st M → G 20 lv st M) (h50 : ∀ lv st M, BX12_readHead_50 G Q lv st M → G 50 lv st M) (h56 : ∀ lv st M, BX12_readHead_56 G Q lv st M → G 56 lv st M) (h74 : ∀ lv st M, BX12_readHead_74 G Q lv st M → G 74 lv st M) (h81 : ∀ lv st M, BX12_readHead_81 G Q lv st M → G 81 lv st M) (h97 : ∀ lv st M, BX12_readHead_97 G Q lv st M → G 97 lv st M) (h98 : ∀ lv st M, BX12_readHead_98 G Q lv st M → G 98 lv st M) (as : List mV) (M : mM) (ho : ∀ v ∈ as, okV v) (hp : pre_X12_readHead as M) (hQ : Q (fn_X12_readHead as M).1 (fn_X12_readHead as M).2) : G 0 (inL as ++ List.replicate (1 - (inL as).length) none) [] M := by
  obtain ⟨c, rfl, t, ht, et⟩ := hp
  obtain rfl : c = 158 := k12 (ho (.inr (.inr (12, c))) (by simp))
  simp only [fn_X12_readHead, rhd] at hQ
  have F : Q (some (.inl 0)) M → G 18 [none] [] M := by
    intro hQ
    (apply h18; simp only [BX12_readHead_18, s_mth, s_mab, s_at, s_iconst, s_lconst, s_iload, s_lload, s_aload, s_istore, s_lstore, s_astore, s_iinc, s_bin, s_binG, s_un, s_lbin, s_lbinG, s_lsh, s_lcmp, s_i2l, s_l2i, s_dup, s_dup2, s_pop, s_if, s_icmp, s_geti, s_getl, s_getr, s_puti, s_putz, s_putl, s_iald, s_zald, s_iast, s_zast, s_aaldS, s_aaldU, s_gets, s_tald, s_tsw, tsw, s_iret, s_zret, s_lret, s_aret, s_vret, s_callV, s_callS, c1, nl1, keepL, csum, pushR, inL, List.getD_cons_zero, List.getD_cons_succ, List.set_cons_zero, List.set_cons_succ, List.cons_append, List.nil_append, List.append_nil, List.replicate, List.length_cons, List.length_nil, List.take_succ_cons, List.take_zero, List.drop_succ_cons, List.drop_zero, List.reverse_cons, List.reverse_nil, true_and, and_true, forall_const, not_true_eq_false, not_false_eq_true, false_implies, true_implies, implies_true, one0, m10, Nat.reduceAdd, Nat.reduceSub, Nat.reduceLeDiff, Nat.zero_add, Nat.add_zero, fn_X12_figure])
    exact ⟨by simp, hQ⟩
  have L4 : ∀ (v : Int32) (M : mM), Q (some (.inl (rh4 (mset M 158 11 v)).1)) (rh4 (mset M 158 11 v)).2 → G 81 [some (.inr (.inr (12, 158)))] [.inl v, .inr (.inr (12, 158))] M := by
    intro v M hQ
    simp only [rh4] at hQ
    (apply h81; simp only [BX12_readHead_81, s_mth, s_mab, s_at, s_iconst, s_lconst, s_iload, s_lload, s_aload, s_istore, s_lstore, s_astore, s_iinc, s_bin, s_binG, s_un, s_lbin, s_lbinG, s_lsh, s_lcmp, s_i2l, s_l2i, s_dup, s_dup2, s_pop, s_if, s_icmp, s_geti, s_getl, s_getr, s_puti, s_putz, s_putl, s_iald, s_zald, s_iast, s_zast, s_aaldS, s_aaldU, s_gets, s_tald, s_tsw, tsw, s_iret, s_zret, s_lret, s_aret, s_vret, s_callV, s_callS, c1, nl1, keepL, csum, pushR, inL, List.getD_cons_zero, List.getD_cons_succ, List.set_cons_zero, List.set_cons_succ, List.cons_append, List.nil_append, List.append_nil, List.replicate, List.length_cons, List.length_nil, List.take_succ_cons, List.take_zero, List.drop_succ_cons, List.drop_zero, List.reverse_cons, List.reverse_nil, true_and, and_true, forall_const, not_true_eq_false, not_false_eq_true, false_implies, true_implies, implies_true, one0, m10, Nat.reduceAdd, Nat.reduceSub, Nat.reduceLeDiff, Nat.zero_add, Nat.add_zero, fn_X12_figure])
    refine ⟨fun h => ?_, fun h => ?_⟩
    · rw [if_pos h] at hQ
      (apply h97; simp only [BX12_readHead_97, s_mth, s_mab, s_at, s_iconst, s_lconst, s_iload, s_lload, s_aload, s_istore, s_lstore, s_astore, s_iinc, s_bin, s_binG, s_un, s_lbin, s_lbinG, s_lsh, s_lcmp, s_i2l, s_l2i, s_dup, s_dup2, s_pop, s_if, s_icmp, s_geti, s_getl, s_getr, s_puti, s_putz, s_putl, s_iald, s_zald, s_iast, s_zast, s_aaldS, s_aaldU, s_gets, s_tald, s_tsw, tsw, s_iret, s_zret, s_lret, s_aret, s_vret, s_callV, s_callS, c1, nl1, keepL, csum, pushR, inL, List.getD_cons_zero, List.getD_cons_succ, List.set_cons_zero, List.set_cons_succ, List.cons_append, List.nil_append, List.append_nil, List.replicate, List.length_cons, List.length_nil, List.take_succ_cons, List.take_zero, List.drop_succ_cons, List.drop_zero, List.reverse_cons, List.reverse_nil, true_and, and_true, forall_const, not_true_eq_false, not_false_eq_true, false_implies, true_implies, implies_true, one0, m10, Nat.reduceAdd, Nat.reduceSub, Nat.reduceLeDiff, Nat.zero_add, Nat.add_zero, fn_X12_figure])
      (apply h98; simp only [BX12_readHead_98, s_mth, s_mab, s_at, s_iconst, s_lconst, s_iload, s_lload, s_aload, s_istore, s_lstore, s_astore, s_iinc, s_bin, s_binG, s_un, s_lbin, s_lbinG, s_lsh, s_lcmp, s_i2l, s_l2i, s_dup, s_dup2, s_pop, s_if, s_icmp, s_geti, s_getl, s_getr, s_puti, s_putz, s_putl, s_iald, s_zald, s_iast, s_zast, s_aaldS, s_aaldU, s_gets, s_tald, s_tsw, tsw, s_iret, s_zret, s_lret, s_aret, s_vret, s_callV, s_callS, c1, nl1, keepL, csum, pushR, inL, List.getD_cons_zero, List.getD_cons_succ, List.set_cons_zero, List.set_cons_succ, List.cons_append, List.nil_append, List.append_nil, List.replicate, List.length_cons, List.length_nil, List.take_succ_cons, List.take_zero, List.drop_succ_cons, List.drop_zero, List.reverse_cons, List.reverse_nil, true_and, and_true, forall_const, not_true_eq_false, not_false_eq_true, false_implies, true_implies, implies_true, one0, m10, Nat.reduceAdd, Nat.reduceSub, Nat.reduceLeDiff, Nat.zero_add, Nat.add_zero, fn_X12_figure])
      exact ⟨by simp, hQ⟩
    · rw [if_neg h] at hQ
      (apply h98; simp only [BX12_readHead_98, s_mth, s_mab, s_at, s_iconst, s_lconst, s_iload, s_lload, s_aload, s_istore, s_lstore, s_astore, s_iinc, s_bin, s_binG, s_un, s_lbin, s_lbinG, s_lsh, s_lcmp, s_i2l, s_l2i, s_dup, s_dup2, s_pop, s_if, s_icmp, s_geti, s_getl, s_getr, s_puti, s_putz, s_putl, s_iald, s_zald, s_iast, s_zast, s_aaldS, s_aaldU, s_gets, s_tald, s_tsw, tsw, s_iret, s_zret, s_lret, s_aret, s_vret, s_callV, s_callS, c1, nl1, keepL, csum, pushR, inL, List.getD_cons_zero, List.getD_cons_succ, List.set_cons_zero, List.set_cons_succ, List.cons_append, List.nil_append, List.append_nil, List.replicate, List.length_cons, List.length_nil, List.take_succ_cons, List.take_zero, List.drop_succ_cons, List.drop_zero, List.reverse_cons, List.reverse_nil, true_and, and_true, forall_const, not_true_eq_false, not_false_eq_true, false_implies, true_implies, implies_true, one0, m10, Nat.reduceAdd, Nat.reduceSub, Nat.reduceLeDiff, Nat.zero_add, Nat.add_zero, fn_X12_figure])
      exact ⟨by simp, hQ⟩
  have L3 : ∀ (v : Int32) (M : mM), PS M → Q (some (.inl (rh3 (mset M 158 10 v)).1)) (rh3 (mset M 158 10 v)).2 → G 56 [some (.inr (.inr (12, 158)))] [.inl v, .inr (.inr (12, 158))] M := by
    intro v M hS hQ
    have hS' : PS (mset M 158 10 v) := PS_m hS (Or.inr ⟨by decide, by decide⟩)
    unfold rh3 at hQ
    (apply h56; simp only [BX12_readHead_56, s_mth, s_mab, s_at, s_iconst, s_lconst, s_iload, s_lload, s_aload, s_istore, s_lstore, s_astore, s_iinc, s_bin, s_binG, s_un, s_lbin, s_lbinG, s_lsh, s_lcmp, s_i2l, s_l2i, s_dup, s_dup2, s_pop, s_if, s_icmp, s_geti, s_getl, s_getr, s_puti, s_putz, s_putl, s_iald, s_zald, s_iast, s_zast, s_aaldS, s_aaldU, s_gets, s_tald, s_tsw, tsw, s_iret, s_zret, s_lret, s_aret, s_vret, s_callV, s_callS, c1, nl1, keepL, csum, pushR, inL, List.getD_cons_zero, List.getD_cons_succ, List.set_cons_zero, List.set_cons_succ, List.cons_append, List.nil_append, List.append_nil, List.replicate, List.length_cons, List.length_nil, List.take_succ_cons, List.take_zero, List.drop_succ_cons, List.drop_zero, List.reverse_cons, List.reverse_nil, true_and, and_true, forall_const, not_true_eq_false, not_false_eq_true, false_implies, true_implies, implies_true, one0, m10, Nat.reduceAdd, Nat.reduceSub, Nat.reduceLeDiff, Nat.zero_add, Nat.add_zero, fn_X12_figure])
    generalize mset M 158 10 v = M1 at *
    refine ⟨fun h => ?_, fun h => ?_⟩
    · rw [if_pos h] at hQ
      exact L4 _ _ hQ
    · rw [if_neg h] at hQ
      (apply h74; simp only [BX12_readHead_74, s_mth, s_mab, s_at, s_iconst, s_lconst, s_iload, s_lload, s_aload, s_istore, s_lstore, s_astore, s_iinc, s_bin, s_binG, s_un, s_lbin, s_lbinG, s_lsh, s_lcmp, s_i2l, s_l2i, s_dup, s_dup2, s_pop, s_if, s_icmp, s_geti, s_getl, s_getr, s_puti, s_putz, s_putl, s_iald, s_zald, s_iast, s_zast, s_aaldS, s_aaldU, s_gets, s_tald, s_tsw, tsw, s_iret, s_zret, s_lret, s_aret, s_vret, s_callV, s_callS, c1, nl1, keepL, csum, pushR, inL, List.getD_cons_zero, List.getD_cons_succ, List.set_cons_zero, List.set_cons_succ, List.cons_append, List.nil_append, List.append_nil, List.replicate, List.length_cons, List.length_nil, List.take_succ_cons, List.take_zero, List.drop_succ_cons, List.drop_zero, List.reverse_cons, List.reverse_nil, true_and, and_true, forall_const, not_true_eq_false, not_false_eq_true, false_implies, true_implies, implies_true, one0, m10, Nat.reduceAdd, Nat.reduceSub, Nat.reduceLeDiff, Nat.zero_add, Nat.add_zero, fn_X12_figure])
      exact ⟨⟨_, _, _, rfl, hS'⟩, L4 _ _ hQ⟩
  (apply h0; simp only [BX12_readHead_0, s_mth, s_mab, s_at, s_iconst, s_lconst, s_iload, s_lload, s_aload, s_istore, s_lstore, s_astore, s_iinc, s_bin, s_binG, s_un, s_lbin, s_lbinG, s_lsh, s_lcmp, s_i2l, s_l2i, s_dup, s_dup2, s_pop, s_if, s_icmp, s_geti, s_getl, s_getr, s_puti, s_putz, s_putl, s_iald, s_zald, s_iast, s_zast, s_aaldS, s_aaldU, s_gets, s_tald, s_tsw, tsw, s_iret, s_zret, s_lret, s_aret, s_vret, s_callV, s_callS, c1, nl1, keepL, csum, pushR, inL, List.getD_cons_zero, List.getD_cons_succ, List.set_cons_zero, List.set_cons_succ, List.cons_append, List.nil_append, List.append_nil, List.replicate, List.length_cons, List.length_nil, List.take_succ_cons, List.take_zero, List.drop_succ_cons, List.drop_zero, List.reverse_cons, List.reverse_nil, true_and, and_true, forall_const, not_true_eq_false, not_false_eq_true, false_implies, true_implies, implies_true, one0, m10, Nat.reduceAdd, Nat.reduceSub, Nat.reduceLeDiff, Nat.zero_add, Nat.add_zero, fn_X12_figure])
  simp only [lM]
  refine ⟨fun h => ?_, fun h => ⟨vp_in_nI (n := 0) (by decide) (by decide), fun h2 => ?_, fun h2 => ?_⟩⟩
  · rw [if_pos h] at hQ; exact F hQ
  · have h2' : M.1 159 0 = 67 := h2
    rw [if_neg h, if_pos h2'] at hQ
    have ht0 : t ≠ 0 := fun g => h (by rw [et, g]; rfl)
    have hS : PS (mset M 158 3 1) := ⟨t, 1, ht, by omega, by rw [mset_o (by decide)]; exact et, mset_s⟩
    unfold rh1 at hQ
    (apply h20; simp only [BX12_readHead_20, s_mth, s_mab, s_at, s_iconst, s_lconst, s_iload, s_lload, s_aload, s_istore, s_lstore, s_astore, s_iinc, s_bin, s_binG, s_un, s_lbin, s_lbinG, s_lsh, s_lcmp, s_i2l, s_l2i, s_dup, s_dup2, s_pop, s_if, s_icmp, s_geti, s_getl, s_getr, s_puti, s_putz, s_putl, s_iald, s_zald, s_iast, s_zast, s_aaldS, s_aaldU, s_gets, s_tald, s_tsw, tsw, s_iret, s_zret, s_lret, s_aret, s_vret, s_callV, s_callS, c1, nl1, keepL, csum, pushR, inL, List.getD_cons_zero, List.getD_cons_succ, List.set_cons_zero, List.set_cons_succ, List.cons_append, List.nil_append, List.append_nil, List.replicate, List.length_cons, List.length_nil, List.take_succ_cons, List.take_zero, List.drop_succ_cons, List.drop_zero, List.reverse_cons, List.reverse_nil, true_and, and_true, forall_const, not_true_eq_false, not_false_eq_true, false_implies, true_implies, implies_true, one0, m10, Nat.reduceAdd, Nat.reduceSub, Nat.reduceLeDiff, Nat.zero_add, Nat.add_zero, fn_X12_figure])
    generalize mset M 158 3 1 = M1 at *
    refine ⟨⟨_, _, _, rfl, hS⟩, ?_⟩
    have hS1 := PS_fgr (a := 1) (b := 4) hS w9a
    have hS2 : PS (mset (fgr M1 1 4).2 158 9 (fgr M1 1 4).1) := PS_m hS1 (Or.inr ⟨by decide, by decide⟩)
    generalize mset (fgr M1 1 4).2 158 9 (fgr M1 1 4).1 = M2 at *
    unfold rh2 at hQ
    refine ⟨fun h => ?_, fun h => ?_⟩
    · rw [if_pos h] at hQ
      exact L3 _ _ hS2 hQ
    · rw [if_neg h] at hQ
      (apply h50; simp only [BX12_readHead_50, s_mth, s_mab, s_at, s_iconst, s_lconst, s_iload, s_lload, s_aload, s_istore, s_lstore, s_astore, s_iinc, s_bin, s_binG, s_un, s_lbin, s_lbinG, s_lsh, s_lcmp, s_i2l, s_l2i, s_dup, s_dup2, s_pop, s_if, s_icmp, s_geti, s_getl, s_getr, s_puti, s_putz, s_putl, s_iald, s_zald, s_iast, s_zast, s_aaldS, s_aaldU, s_gets, s_tald, s_tsw, tsw, s_iret, s_zret, s_lret, s_aret, s_vret, s_callV, s_callS, c1, nl1, keepL, csum, pushR, inL, List.getD_cons_zero, List.getD_cons_succ, List.set_cons_zero, List.set_cons_succ, List.cons_append, List.nil_append, List.append_nil, List.replicate, List.length_cons, List.length_nil, List.take_succ_cons, List.take_zero, List.drop_succ_cons, List.drop_zero, List.reverse_cons, List.reverse_nil, true_and, and_true, forall_const, not_true_eq_false, not_false_eq_true, false_implies, true_implies, implies_true, one0, m10, Nat.reduceAdd, Nat.reduceSub, Nat.reduceLeDiff, Nat.zero_add, Nat.add_zero, fn_X12_figure])
      exact ⟨⟨_, _, _, rfl, hS2⟩, L3 _ _ (PS_fgr hS2 w9a) hQ⟩
  · have h2' : ¬ M.1 159 0 = 67 := h2
    rw [if_neg h, if_neg h2'] at hQ; exact F hQ
theorem ct_X12_readHead (l : Launch) : Con l yX12_readHead cX12_readHead 1 (Option.some FieldType.boolean) 2 pre_X12_readHead fn_X12_readHead := con_of (by decide +kernel) ok_X12_readHead len_X12_readHead (fun p e s m args below meth c D ca ad A as M hX hr hp ho => pf_X12_readHead _ _ (bsX12_readHead_0 hX hr) (bsX12_readHead_18 hX hr) (bsX12_readHead_20 hX hr) (bsX12_readHead_50 hX hr) (bsX12_readHead_56 hX hr) (bsX12_readHead_74 hX hr) (bsX12_readHead_81 hX hr) (bsX12_readHead_97 hX hr) (bsX12_readHead_98 hX hr) as M ho hp ⟨rfl, rfl⟩)
/-- a user is read: its rates one by one -/
def rlA (u : Nat) (v : Int32) (M : mM) : mM := mset (mset M 162 (6 * u + (M.1 163 u).toNatClampNeg) v) 163 u (M.1 163 u + 1)
def rlL (u : Nat) : Nat → Int32 → mM → mM
  | 0, _, M => M
  | k + 1, v, M => if v = -9 then M else if 6 ≤ (rlA u v M).1 163 u then rlA u v M else rlL u k (fgr (rlA u v M) 0 9).1 (fgr (rlA u v M) 0 9).2
def ruZ (u : Nat) (a b d : Int32) (M : mM) : mM := mset (mset (mset (mset (mset M 158 3 (M.1 158 3 + 1)) 164 (10 * u + 0) a) 164 (10 * u + 1) b) 164 (10 * u + 2) d) 158 12 (M.1 158 12 + 1)
def ru6 (u : Nat) (a b d : Int32) (M : mM) : Int32 × mM := if M.1 158 3 = M.1 158 2 then (0, M) else if M.1 159 (PZ M) = 46 then (1, ruZ u a b d M) else (0, M)
def ru5 (u : Nat) (a b d : Int32) (q : Int32 × mM) : Int32 × mM := if q.1 = -9 then (0, q.2) else ru6 u a b d (rlL u 6 q.1 (mset q.2 163 u 0))
def ruX (q : Int32 × mM) (a b : Int32) : Int32 × mM := if q.1 = -9 then (-9, q.2) else fgr q.2 a b
def ru1 (u : Nat) (M : mM) : Int32 × mM := ru5 u (fgr M 0 9).1 (ruX (fgr M 0 9) 1 9).1 (ruX (ruX (fgr M 0 9) 1 9) 0 9).1 (ruX (ruX (ruX (fgr M 0 9) 1 9) 0 9) 0 9)
def rus (M : mM) : Int32 × mM := if M.1 158 12 = 5 then (0, M) else if M.1 159 (PZ M) = 117 then ru1 (M.1 158 12).toNatClampNeg (mset M 158 3 (M.1 158 3 + 1)) else (0, M)
theorem PS_ruX {q : Int32 × mM} {a b : Int32} (h : PS q.2) (ha : wi (-9) a b = 0) : PS (ruX q a b).2 := by
  unfold ruX
  split
  · exact h
  · exact PS_fgr h ha
theorem ruX_n {q : Int32 × mM} {a b : Int32} {k j : Nat} (h : k ≠ 158 ∨ j ≠ 3) : (ruX q a b).2.1 k j = q.2.1 k j := by
  unfold ruX
  split
  · rfl
  · exact fgr_n h
def pre_X12_readUser (as : List mV) (M : mM) : Prop := ∃ c, as = [.inr (.inr (12, c))] ∧ ∃ t p u, t ≤ 80 ∧ p < t ∧ u ≤ 5 ∧ M.1 158 2 = nI t ∧ M.1 158 3 = nI p ∧ M.1 158 12 = nI u
def fn_X12_readUser : List mV → mM → Option mV × mM
  | [.inr (.inr (_, c))], M => (some (.inl (rus M).1), (rus M).2)
  | _, M => (none, M)
theorem ok_X12_readUser (as : List mV) (M : mM) (h : pre_X12_readUser as M) (_ : ∀ v ∈ as, okV v) : okR (fn_X12_readUser as M).1 := by
  obtain ⟨c, rfl, -⟩ := h
  first | trivial | exact (by decide +kernel : kof 14 = 8)
theorem len_X12_readUser (as : List mV) (M : mM) (h : pre_X12_readUser as M) : (inL as).length ≤ 6 := by
  obtain ⟨c, rfl, -⟩ := h
  exact Nat.le_of_ble_eq_true rfl

theorem fl_735 : FLk "FairBlocksModel" 106 12 12 0 := ⟨RX12, TX12, 32, rfl, inX12, by decide, w_735, by decide, rfl⟩
theorem fl_736 : FLk "FairBlocksModel" 42 12 13 16 := ⟨RX12, TX12, 32, rfl, inX12, by decide, w_736, by decide, rfl⟩
theorem fl_737 : FLk "FairBlocksModel" 45 12 14 16 := ⟨RX12, TX12, 32, rfl, inX12, by decide, w_737, by decide, rfl⟩
theorem fl_738 : FLk "FairBlocksModel" 48 12 15 16 := ⟨RX12, TX12, 32, rfl, inX12, by decide, w_738, by decide, rfl⟩
theorem fp_735 : FPk "FairBlocksModel" 106 12 12 0 .int := ⟨RX12, TX12, 32, tyX12, rfl, inX12, by decide, w_735, by decide, rfl, tyX12_ok, nmX12, rfl, rfl⟩
theorem dX12_readUser_0 : decode cX12_readUser 0 = .ok (.aload_n 0, 1) := by decide +kernel
theorem dX12_readUser_1 : decode cX12_readUser 1 = .ok (.getfield 106, 3) := by decide +kernel
theorem dX12_readUser_4 : decode cX12_readUser 4 = .ok (.iconst 5, 1) := by decide +kernel
theorem dX12_readUser_5 : decode cX12_readUser 5 = .ok (.if_icmp .eq 17, 3) := by decide +kernel
theorem dX12_readUser_8 : decode cX12_readUser 8 = .ok (.aload_n 0, 1) := by decide +kernel
theorem dX12_readUser_9 : decode cX12_readUser 9 = .ok (.getfield 27, 3) := by decide +kernel
theorem dX12_readUser_12 : decode cX12_readUser 12 = .ok (.aload_n 0, 1) := by decide +kernel
theorem dX12_readUser_13 : decode cX12_readUser 13 = .ok (.getfield 90, 3) := by decide +kernel
theorem dX12_readUser_16 : decode cX12_readUser 16 = .ok (.iaload, 1) := by decide +kernel
theorem dX12_readUser_17 : decode cX12_readUser 17 = .ok (.bipush 117, 2) := by decide +kernel
theorem dX12_readUser_19 : decode cX12_readUser 19 = .ok (.if_icmp .eq 5, 3) := by decide +kernel
theorem dX12_readUser_22 : decode cX12_readUser 22 = .ok (.iconst 0, 1) := by decide +kernel
theorem dX12_readUser_23 : decode cX12_readUser 23 = .ok (.ireturn, 1) := by decide +kernel
theorem dX12_readUser_24 : decode cX12_readUser 24 = .ok (.aload_n 0, 1) := by decide +kernel
theorem dX12_readUser_25 : decode cX12_readUser 25 = .ok (.dup, 1) := by decide +kernel
theorem dX12_readUser_26 : decode cX12_readUser 26 = .ok (.getfield 90, 3) := by decide +kernel
theorem dX12_readUser_29 : decode cX12_readUser 29 = .ok (.iconst 1, 1) := by decide +kernel
theorem dX12_readUser_30 : decode cX12_readUser 30 = .ok (.iadd, 1) := by decide +kernel
theorem dX12_readUser_31 : decode cX12_readUser 31 = .ok (.putfield 90, 3) := by decide +kernel
theorem dX12_readUser_34 : decode cX12_readUser 34 = .ok (.aload_n 0, 1) := by decide +kernel
theorem dX12_readUser_35 : decode cX12_readUser 35 = .ok (.getfield 106, 3) := by decide +kernel
theorem dX12_readUser_38 : decode cX12_readUser 38 = .ok (.istore_n 1, 1) := by decide +kernel
theorem dX12_readUser_39 : decode cX12_readUser 39 = .ok (.aload_n 0, 1) := by decide +kernel
theorem dX12_readUser_40 : decode cX12_readUser 40 = .ok (.iconst 0, 1) := by decide +kernel
theorem dX12_readUser_41 : decode cX12_readUser 41 = .ok (.bipush 9, 2) := by decide +kernel
theorem dX12_readUser_43 : decode cX12_readUser 43 = .ok (.invokevirtual 93, 3) := by decide +kernel
theorem dX12_readUser_46 : decode cX12_readUser 46 = .ok (.istore_n 2, 1) := by decide +kernel
theorem dX12_readUser_47 : decode cX12_readUser 47 = .ok (.iload_n 2, 1) := by decide +kernel
theorem dX12_readUser_48 : decode cX12_readUser 48 = .ok (.bipush (-9), 2) := by decide +kernel
theorem dX12_readUser_50 : decode cX12_readUser 50 = .ok (.if_icmp .ne 8, 3) := by decide +kernel
theorem dX12_readUser_53 : decode cX12_readUser 53 = .ok (.bipush (-9), 2) := by decide +kernel
theorem dX12_readUser_55 : decode cX12_readUser 55 = .ok (.goto 10, 3) := by decide +kernel
theorem dX12_readUser_58 : decode cX12_readUser 58 = .ok (.aload_n 0, 1) := by decide +kernel
theorem dX12_readUser_59 : decode cX12_readUser 59 = .ok (.iconst 1, 1) := by decide +kernel
theorem dX12_readUser_60 : decode cX12_readUser 60 = .ok (.bipush 9, 2) := by decide +kernel
theorem dX12_readUser_62 : decode cX12_readUser 62 = .ok (.invokevirtual 93, 3) := by decide +kernel
theorem dX12_readUser_65 : decode cX12_readUser 65 = .ok (.istore_n 3, 1) := by decide +kernel
theorem dX12_readUser_66 : decode cX12_readUser 66 = .ok (.iload_n 3, 1) := by decide +kernel
theorem dX12_readUser_67 : decode cX12_readUser 67 = .ok (.bipush (-9), 2) := by decide +kernel
theorem dX12_readUser_69 : decode cX12_readUser 69 = .ok (.if_icmp .ne 8, 3) := by decide +kernel
theorem dX12_readUser_72 : decode cX12_readUser 72 = .ok (.bipush (-9), 2) := by decide +kernel
theorem dX12_readUser_74 : decode cX12_readUser 74 = .ok (.goto 10, 3) := by decide +kernel
theorem dX12_readUser_77 : decode cX12_readUser 77 = .ok (.aload_n 0, 1) := by decide +kernel
theorem dX12_readUser_78 : decode cX12_readUser 78 = .ok (.iconst 0, 1) := by decide +kernel
theorem dX12_readUser_79 : decode cX12_readUser 79 = .ok (.bipush 9, 2) := by decide +kernel
theorem dX12_readUser_81 : decode cX12_readUser 81 = .ok (.invokevirtual 93, 3) := by decide +kernel
theorem dX12_readUser_84 : decode cX12_readUser 84 = .ok (.istore 4, 2) := by decide +kernel
theorem dX12_readUser_86 : decode cX12_readUser 86 = .ok (.iload 4, 2) := by decide +kernel
theorem dX12_readUser_88 : decode cX12_readUser 88 = .ok (.bipush (-9), 2) := by decide +kernel
theorem dX12_readUser_90 : decode cX12_readUser 90 = .ok (.if_icmp .ne 8, 3) := by decide +kernel
theorem dX12_readUser_93 : decode cX12_readUser 93 = .ok (.bipush (-9), 2) := by decide +kernel
theorem dX12_readUser_95 : decode cX12_readUser 95 = .ok (.goto 10, 3) := by decide +kernel
theorem dX12_readUser_98 : decode cX12_readUser 98 = .ok (.aload_n 0, 1) := by decide +kernel
theorem dX12_readUser_99 : decode cX12_readUser 99 = .ok (.iconst 0, 1) := by decide +kernel
theorem dX12_readUser_100 : decode cX12_readUser 100 = .ok (.bipush 9, 2) := by decide +kernel
theorem dX12_readUser_102 : decode cX12_readUser 102 = .ok (.invokevirtual 93, 3) := by decide +kernel
theorem dX12_readUser_105 : decode cX12_readUser 105 = .ok (.istore 5, 2) := by decide +kernel
theorem dX12_readUser_107 : decode cX12_readUser 107 = .ok (.iload 5, 2) := by decide +kernel
theorem dX12_readUser_109 : decode cX12_readUser 109 = .ok (.bipush (-9), 2) := by decide +kernel
theorem dX12_readUser_111 : decode cX12_readUser 111 = .ok (.if_icmp .ne 5, 3) := by decide +kernel
theorem dX12_readUser_114 : decode cX12_readUser 114 = .ok (.iconst 0, 1) := by decide +kernel
theorem dX12_readUser_115 : decode cX12_readUser 115 = .ok (.ireturn, 1) := by decide +kernel
theorem dX12_readUser_116 : decode cX12_readUser 116 = .ok (.aload_n 0, 1) := by decide +kernel
theorem dX12_readUser_117 : decode cX12_readUser 117 = .ok (.getfield 45, 3) := by decide +kernel
theorem dX12_readUser_120 : decode cX12_readUser 120 = .ok (.iload_n 1, 1) := by decide +kernel
theorem dX12_readUser_121 : decode cX12_readUser 121 = .ok (.iconst 0, 1) := by decide +kernel
theorem dX12_readUser_122 : decode cX12_readUser 122 = .ok (.iastore, 1) := by decide +kernel
theorem dX12_readUser_123 : decode cX12_readUser 123 = .ok (.iload 5, 2) := by decide +kernel
theorem dX12_readUser_125 : decode cX12_readUser 125 = .ok (.bipush (-9), 2) := by decide +kernel
theorem dX12_readUser_127 : decode cX12_readUser 127 = .ok (.if_icmp .eq 59, 3) := by decide +kernel
theorem dX12_readUser_130 : decode cX12_readUser 130 = .ok (.aload_n 0, 1) := by decide +kernel
theorem dX12_readUser_131 : decode cX12_readUser 131 = .ok (.getfield 42, 3) := by decide +kernel
theorem dX12_readUser_134 : decode cX12_readUser 134 = .ok (.bipush 6, 2) := by decide +kernel
theorem dX12_readUser_136 : decode cX12_readUser 136 = .ok (.iload_n 1, 1) := by decide +kernel
theorem dX12_readUser_137 : decode cX12_readUser 137 = .ok (.imul, 1) := by decide +kernel
theorem dX12_readUser_138 : decode cX12_readUser 138 = .ok (.aload_n 0, 1) := by decide +kernel
theorem dX12_readUser_139 : decode cX12_readUser 139 = .ok (.getfield 45, 3) := by decide +kernel
theorem dX12_readUser_142 : decode cX12_readUser 142 = .ok (.iload_n 1, 1) := by decide +kernel
theorem dX12_readUser_143 : decode cX12_readUser 143 = .ok (.iaload, 1) := by decide +kernel
theorem dX12_readUser_144 : decode cX12_readUser 144 = .ok (.iadd, 1) := by decide +kernel
theorem dX12_readUser_145 : decode cX12_readUser 145 = .ok (.iload 5, 2) := by decide +kernel
theorem dX12_readUser_147 : decode cX12_readUser 147 = .ok (.iastore, 1) := by decide +kernel
theorem dX12_readUser_148 : decode cX12_readUser 148 = .ok (.aload_n 0, 1) := by decide +kernel
theorem dX12_readUser_149 : decode cX12_readUser 149 = .ok (.getfield 45, 3) := by decide +kernel
theorem dX12_readUser_152 : decode cX12_readUser 152 = .ok (.iload_n 1, 1) := by decide +kernel
theorem dX12_readUser_153 : decode cX12_readUser 153 = .ok (.dup2, 1) := by decide +kernel
theorem dX12_readUser_154 : decode cX12_readUser 154 = .ok (.iaload, 1) := by decide +kernel
theorem dX12_readUser_155 : decode cX12_readUser 155 = .ok (.iconst 1, 1) := by decide +kernel
theorem dX12_readUser_156 : decode cX12_readUser 156 = .ok (.iadd, 1) := by decide +kernel
theorem dX12_readUser_157 : decode cX12_readUser 157 = .ok (.iastore, 1) := by decide +kernel
theorem dX12_readUser_158 : decode cX12_readUser 158 = .ok (.aload_n 0, 1) := by decide +kernel
theorem dX12_readUser_159 : decode cX12_readUser 159 = .ok (.getfield 45, 3) := by decide +kernel
theorem dX12_readUser_162 : decode cX12_readUser 162 = .ok (.iload_n 1, 1) := by decide +kernel
theorem dX12_readUser_163 : decode cX12_readUser 163 = .ok (.iaload, 1) := by decide +kernel
theorem dX12_readUser_164 : decode cX12_readUser 164 = .ok (.bipush 6, 2) := by decide +kernel
theorem dX12_readUser_166 : decode cX12_readUser 166 = .ok (.if_icmp .ge 13, 3) := by decide +kernel
theorem dX12_readUser_169 : decode cX12_readUser 169 = .ok (.aload_n 0, 1) := by decide +kernel
theorem dX12_readUser_170 : decode cX12_readUser 170 = .ok (.iconst 0, 1) := by decide +kernel
theorem dX12_readUser_171 : decode cX12_readUser 171 = .ok (.bipush 9, 2) := by decide +kernel
theorem dX12_readUser_173 : decode cX12_readUser 173 = .ok (.invokevirtual 93, 3) := by decide +kernel
theorem dX12_readUser_176 : decode cX12_readUser 176 = .ok (.goto 5, 3) := by decide +kernel
theorem dX12_readUser_179 : decode cX12_readUser 179 = .ok (.bipush (-9), 2) := by decide +kernel
theorem dX12_readUser_181 : decode cX12_readUser 181 = .ok (.istore 5, 2) := by decide +kernel
theorem dX12_readUser_183 : decode cX12_readUser 183 = .ok (.goto (-60), 3) := by decide +kernel
theorem dX12_readUser_186 : decode cX12_readUser 186 = .ok (.aload_n 0, 1) := by decide +kernel
theorem dX12_readUser_187 : decode cX12_readUser 187 = .ok (.getfield 90, 3) := by decide +kernel
theorem dX12_readUser_190 : decode cX12_readUser 190 = .ok (.aload_n 0, 1) := by decide +kernel
theorem dX12_readUser_191 : decode cX12_readUser 191 = .ok (.getfield 87, 3) := by decide +kernel
theorem dX12_readUser_194 : decode cX12_readUser 194 = .ok (.if_icmp .eq 17, 3) := by decide +kernel
theorem dX12_readUser_197 : decode cX12_readUser 197 = .ok (.aload_n 0, 1) := by decide +kernel
theorem dX12_readUser_198 : decode cX12_readUser 198 = .ok (.getfield 27, 3) := by decide +kernel
theorem dX12_readUser_201 : decode cX12_readUser 201 = .ok (.aload_n 0, 1) := by decide +kernel
theorem dX12_readUser_202 : decode cX12_readUser 202 = .ok (.getfield 90, 3) := by decide +kernel
theorem dX12_readUser_205 : decode cX12_readUser 205 = .ok (.iaload, 1) := by decide +kernel
theorem dX12_readUser_206 : decode cX12_readUser 206 = .ok (.bipush 46, 2) := by decide +kernel
theorem dX12_readUser_208 : decode cX12_readUser 208 = .ok (.if_icmp .eq 5, 3) := by decide +kernel
theorem dX12_readUser_211 : decode cX12_readUser 211 = .ok (.iconst 0, 1) := by decide +kernel
theorem dX12_readUser_212 : decode cX12_readUser 212 = .ok (.ireturn, 1) := by decide +kernel
theorem dX12_readUser_213 : decode cX12_readUser 213 = .ok (.aload_n 0, 1) := by decide +kernel
theorem dX12_readUser_214 : decode cX12_readUser 214 = .ok (.dup, 1) := by decide +kernel
theorem dX12_readUser_215 : decode cX12_readUser 215 = .ok (.getfield 90, 3) := by decide +kernel
theorem dX12_readUser_218 : decode cX12_readUser 218 = .ok (.iconst 1, 1) := by decide +kernel
theorem dX12_readUser_219 : decode cX12_readUser 219 = .ok (.iadd, 1) := by decide +kernel
theorem dX12_readUser_220 : decode cX12_readUser 220 = .ok (.putfield 90, 3) := by decide +kernel
theorem dX12_readUser_223 : decode cX12_readUser 223 = .ok (.aload_n 0, 1) := by decide +kernel
theorem dX12_readUser_224 : decode cX12_readUser 224 = .ok (.getfield 48, 3) := by decide +kernel
theorem dX12_readUser_227 : decode cX12_readUser 227 = .ok (.bipush 10, 2) := by decide +kernel
theorem dX12_readUser_229 : decode cX12_readUser 229 = .ok (.iload_n 1, 1) := by decide +kernel
theorem dX12_readUser_230 : decode cX12_readUser 230 = .ok (.imul, 1) := by decide +kernel
theorem dX12_readUser_231 : decode cX12_readUser 231 = .ok (.iconst 0, 1) := by decide +kernel
theorem dX12_readUser_232 : decode cX12_readUser 232 = .ok (.iadd, 1) := by decide +kernel
theorem dX12_readUser_233 : decode cX12_readUser 233 = .ok (.iload_n 2, 1) := by decide +kernel
theorem dX12_readUser_234 : decode cX12_readUser 234 = .ok (.iastore, 1) := by decide +kernel
theorem dX12_readUser_235 : decode cX12_readUser 235 = .ok (.aload_n 0, 1) := by decide +kernel
theorem dX12_readUser_236 : decode cX12_readUser 236 = .ok (.getfield 48, 3) := by decide +kernel
theorem dX12_readUser_239 : decode cX12_readUser 239 = .ok (.bipush 10, 2) := by decide +kernel
theorem dX12_readUser_241 : decode cX12_readUser 241 = .ok (.iload_n 1, 1) := by decide +kernel
theorem dX12_readUser_242 : decode cX12_readUser 242 = .ok (.imul, 1) := by decide +kernel
theorem dX12_readUser_243 : decode cX12_readUser 243 = .ok (.iconst 1, 1) := by decide +kernel
theorem dX12_readUser_244 : decode cX12_readUser 244 = .ok (.iadd, 1) := by decide +kernel
theorem dX12_readUser_245 : decode cX12_readUser 245 = .ok (.iload_n 3, 1) := by decide +kernel
theorem dX12_readUser_246 : decode cX12_readUser 246 = .ok (.iastore, 1) := by decide +kernel
theorem dX12_readUser_247 : decode cX12_readUser 247 = .ok (.aload_n 0, 1) := by decide +kernel
theorem dX12_readUser_248 : decode cX12_readUser 248 = .ok (.getfield 48, 3) := by decide +kernel
theorem dX12_readUser_251 : decode cX12_readUser 251 = .ok (.bipush 10, 2) := by decide +kernel
theorem dX12_readUser_253 : decode cX12_readUser 253 = .ok (.iload_n 1, 1) := by decide +kernel
theorem dX12_readUser_254 : decode cX12_readUser 254 = .ok (.imul, 1) := by decide +kernel
theorem dX12_readUser_255 : decode cX12_readUser 255 = .ok (.iconst 2, 1) := by decide +kernel
theorem dX12_readUser_256 : decode cX12_readUser 256 = .ok (.iadd, 1) := by decide +kernel
theorem dX12_readUser_257 : decode cX12_readUser 257 = .ok (.iload 4, 2) := by decide +kernel
theorem dX12_readUser_259 : decode cX12_readUser 259 = .ok (.iastore, 1) := by decide +kernel
theorem dX12_readUser_260 : decode cX12_readUser 260 = .ok (.aload_n 0, 1) := by decide +kernel
theorem dX12_readUser_261 : decode cX12_readUser 261 = .ok (.dup, 1) := by decide +kernel
theorem dX12_readUser_262 : decode cX12_readUser 262 = .ok (.getfield 106, 3) := by decide +kernel
theorem dX12_readUser_265 : decode cX12_readUser 265 = .ok (.iconst 1, 1) := by decide +kernel
theorem dX12_readUser_266 : decode cX12_readUser 266 = .ok (.iadd, 1) := by decide +kernel
theorem dX12_readUser_267 : decode cX12_readUser 267 = .ok (.putfield 106, 3) := by decide +kernel
theorem dX12_readUser_270 : decode cX12_readUser 270 = .ok (.iconst 1, 1) := by decide +kernel
theorem dX12_readUser_271 : decode cX12_readUser 271 = .ok (.ireturn, 1) := by decide +kernel
theorem mk_X12_readUser : MVk yX12_readUser "FairBlocksModel" cX12_readUser 6 (Option.some FieldType.boolean) 0 := ⟨w_851, w_850, wp_17, w_13, rfl, by decide +kernel, by decide +kernel, by decide +kernel⟩
def BX12_readUser_0 (G : Nat → KT) (Q : Option mV → mM → Prop) : KT := (s_aload 0 (s_geti 12 12 (s_iconst (5) (s_icmp (fun x y => x = y) (s_at G 22 [false, false, false, false, false, false]) (s_aload 0 (s_getr 12 13 (fun _ => 159) (s_aload 0 (s_geti 12 3 (s_iald (s_iconst (117) (s_icmp (fun x y => x = y) (s_at G 24 [true, false, false, false, false, false]) (s_at G 22 [false, false, false, false, false, false]))))))))))))
set_option maxRecDepth 4000 in
theorem bsX12_readUser_0 {p : Program} {l : Launch} {e : Env} {s : State} {m : MethodId} {args : Array Value} {below : List Frame} {meth : Method} {c : Code} {D : va_G} {ca : Nat → ClassId} {ad : Nat → Nat} {A : Nat → Prop} {Q : Option mV → mM → Prop} (hX : CX p s m args meth c 6 cX12_readUser "FairBlocksModel" D ca ad A) (hr : meth.sig.returnType = (Option.some FieldType.boolean)) : ∀ lv st M, BX12_readUser_0 (Gd p l e (rmD 2) s m args below meth c 6 D ca ad A 0 0 (MQ below (QC D ca ad A Q) args s 0 0 A)) Q lv st M → Gd p l e (rmD 2) s m args below meth c 6 D ca ad A 0 0 (MQ below (QC D ca ad A Q) args s 0 0 A) 0 lv st M :=
  (sd_aload_n hX dX12_readUser_0 rfl (sd_geti hX fl_735 (by decide) dX12_readUser_1 (sd_iconst hX dX12_readUser_4 rfl (sd_icmp_eq hX dX12_readUser_5 (by decide) sd_at (sd_aload_n hX dX12_readUser_8 rfl (sd_getr hX fl_724 (fun _ => rfl) (fun _ _ _ => by decide +kernel) dX12_readUser_9 (sd_aload_n hX dX12_readUser_12 rfl (sd_geti hX fl_726 (by decide) dX12_readUser_13 (sd_iald hX dX12_readUser_16 (sd_bipush hX dX12_readUser_17 rfl (sd_icmp_eq hX dX12_readUser_19 (by decide) sd_at sd_at)))))))))))
def BX12_readUser_22 (G : Nat → KT) (Q : Option mV → mM → Prop) : KT := (s_iconst (0) (s_zret Q))
set_option maxRecDepth 4000 in
theorem bsX12_readUser_22 {p : Program} {l : Launch} {e : Env} {s : State} {m : MethodId} {args : Array Value} {below : List Frame} {meth : Method} {c : Code} {D : va_G} {ca : Nat → ClassId} {ad : Nat → Nat} {A : Nat → Prop} {Q : Option mV → mM → Prop} (hX : CX p s m args meth c 6 cX12_readUser "FairBlocksModel" D ca ad A) (hr : meth.sig.returnType = (Option.some FieldType.boolean)) : ∀ lv st M, BX12_readUser_22 (Gd p l e (rmD 2) s m args below meth c 6 D ca ad A 0 0 (MQ below (QC D ca ad A Q) args s 0 0 A)) Q lv st M → Gd p l e (rmD 2) s m args below meth c 6 D ca ad A 0 0 (MQ below (QC D ca ad A Q) args s 0 0 A) 22 lv st M :=
  (sd_iconst hX dX12_readUser_22 rfl (sd_zret hX hr dX12_readUser_23))
def BX12_readUser_24 (G : Nat → KT) (Q : Option mV → mM → Prop) : KT := (s_aload 0 (s_dup (s_geti 12 3 (s_iconst (1) (s_bin (fun x y => x + y) (s_puti 12 3 (s_aload 0 (s_geti 12 12 (s_istore 1 (s_aload 0 (s_iconst (0) (s_iconst (9) (s_callV 12 2 pre_X12_figure fn_X12_figure (s_istore 2 (s_iload 2 (s_iconst (-9) (s_icmp (fun x y => x = y) ((s_iconst (-9) (s_at G 65 [true, true, true, false, false, false]))) (s_at G 58 [true, true, true, false, false, false]))))))))))))))))))
set_option maxRecDepth 4000 in
theorem bsX12_readUser_24 {p : Program} {l : Launch} {e : Env} {s : State} {m : MethodId} {args : Array Value} {below : List Frame} {meth : Method} {c : Code} {D : va_G} {ca : Nat → ClassId} {ad : Nat → Nat} {A : Nat → Prop} {Q : Option mV → mM → Prop} (hX : CX p s m args meth c 6 cX12_readUser "FairBlocksModel" D ca ad A) (hr : meth.sig.returnType = (Option.some FieldType.boolean)) : ∀ lv st M, BX12_readUser_24 (Gd p l e (rmD 2) s m args below meth c 6 D ca ad A 0 0 (MQ below (QC D ca ad A Q) args s 0 0 A)) Q lv st M → Gd p l e (rmD 2) s m args below meth c 6 D ca ad A 0 0 (MQ below (QC D ca ad A Q) args s 0 0 A) 24 lv st M :=
  (sd_aload_n hX dX12_readUser_24 rfl (sd_dup hX dX12_readUser_25 (sd_geti hX fl_726 (by decide) dX12_readUser_26 (sd_iconst hX dX12_readUser_29 rfl (sd_iadd hX dX12_readUser_30 (sd_puti hX fp_726 dX12_readUser_31 (sd_aload_n hX dX12_readUser_34 rfl (sd_geti hX fl_735 (by decide) dX12_readUser_35 (sd_istore_n hX (by decide) dX12_readUser_38 rfl (sd_aload_n hX dX12_readUser_39 rfl (sd_iconst hX dX12_readUser_40 rfl (sd_bipush hX dX12_readUser_41 rfl (sd_callV hX (kd := 12) rfl (by decide) (ct_X12_figure l) mk_X12_figure w_844 ⟨⟨by decide, by decide⟩, by decide, by decide⟩ dX12_readUser_43 (sd_istore_n hX (by decide) dX12_readUser_46 rfl (sd_iload_n hX dX12_readUser_47 rfl (sd_bipush hX dX12_readUser_48 rfl (sd_icmp_ne hX dX12_readUser_50 (by decide) sd_at (sd_bipush hX dX12_readUser_53 rfl (sd_goto hX dX12_readUser_55 (by decide) sd_at)))))))))))))))))))
def BX12_readUser_58 (G : Nat → KT) (Q : Option mV → mM → Prop) : KT := (s_aload 0 (s_iconst (1) (s_iconst (9) (s_callV 12 2 pre_X12_figure fn_X12_figure (s_at G 65 [true, true, true, false, false, false])))))
set_option maxRecDepth 4000 in
theorem bsX12_readUser_58 {p : Program} {l : Launch} {e : Env} {s : State} {m : MethodId} {args : Array Value} {below : List Frame} {meth : Method} {c : Code} {D : va_G} {ca : Nat → ClassId} {ad : Nat → Nat} {A : Nat → Prop} {Q : Option mV → mM → Prop} (hX : CX p s m args meth c 6 cX12_readUser "FairBlocksModel" D ca ad A) (hr : meth.sig.returnType = (Option.some FieldType.boolean)) : ∀ lv st M, BX12_readUser_58 (Gd p l e (rmD 2) s m args below meth c 6 D ca ad A 0 0 (MQ below (QC D ca ad A Q) args s 0 0 A)) Q lv st M → Gd p l e (rmD 2) s m args below meth c 6 D ca ad A 0 0 (MQ below (QC D ca ad A Q) args s 0 0 A) 58 lv st M :=
  (sd_aload_n hX dX12_readUser_58 rfl (sd_iconst hX dX12_readUser_59 rfl (sd_bipush hX dX12_readUser_60 rfl (sd_callV hX (kd := 12) rfl (by decide) (ct_X12_figure l) mk_X12_figure w_844 ⟨⟨by decide, by decide⟩, by decide, by decide⟩ dX12_readUser_62 sd_at))))
def BX12_readUser_65 (G : Nat → KT) (Q : Option mV → mM → Prop) : KT := (s_istore 3 (s_iload 3 (s_iconst (-9) (s_icmp (fun x y => x = y) ((s_iconst (-9) (s_at G 84 [true, true, true, true, false, false]))) (s_at G 77 [true, true, true, true, false, false])))))
set_option maxRecDepth 4000 in
theorem bsX12_readUser_65 {p : Program} {l : Launch} {e : Env} {s : State} {m : MethodId} {args : Array Value} {below : List Frame} {meth : Method} {c : Code} {D : va_G} {ca : Nat → ClassId} {ad : Nat → Nat} {A : Nat → Prop} {Q : Option mV → mM → Prop} (hX : CX p s m args meth c 6 cX12_readUser "FairBlocksModel" D ca ad A) (hr : meth.sig.returnType = (Option.some FieldType.boolean)) : ∀ lv st M, BX12_readUser_65 (Gd p l e (rmD 2) s m args below meth c 6 D ca ad A 0 0 (MQ below (QC D ca ad A Q) args s 0 0 A)) Q lv st M → Gd p l e (rmD 2) s m args below meth c 6 D ca ad A 0 0 (MQ below (QC D ca ad A Q) args s 0 0 A) 65 lv st M :=
  (sd_istore_n hX (by decide) dX12_readUser_65 rfl (sd_iload_n hX dX12_readUser_66 rfl (sd_bipush hX dX12_readUser_67 rfl (sd_icmp_ne hX dX12_readUser_69 (by decide) sd_at (sd_bipush hX dX12_readUser_72 rfl (sd_goto hX dX12_readUser_74 (by decide) sd_at))))))
def BX12_readUser_77 (G : Nat → KT) (Q : Option mV → mM → Prop) : KT := (s_aload 0 (s_iconst (0) (s_iconst (9) (s_callV 12 2 pre_X12_figure fn_X12_figure (s_at G 84 [true, true, true, true, false, false])))))
set_option maxRecDepth 4000 in
theorem bsX12_readUser_77 {p : Program} {l : Launch} {e : Env} {s : State} {m : MethodId} {args : Array Value} {below : List Frame} {meth : Method} {c : Code} {D : va_G} {ca : Nat → ClassId} {ad : Nat → Nat} {A : Nat → Prop} {Q : Option mV → mM → Prop} (hX : CX p s m args meth c 6 cX12_readUser "FairBlocksModel" D ca ad A) (hr : meth.sig.returnType = (Option.some FieldType.boolean)) : ∀ lv st M, BX12_readUser_77 (Gd p l e (rmD 2) s m args below meth c 6 D ca ad A 0 0 (MQ below (QC D ca ad A Q) args s 0 0 A)) Q lv st M → Gd p l e (rmD 2) s m args below meth c 6 D ca ad A 0 0 (MQ below (QC D ca ad A Q) args s 0 0 A) 77 lv st M :=
  (sd_aload_n hX dX12_readUser_77 rfl (sd_iconst hX dX12_readUser_78 rfl (sd_bipush hX dX12_readUser_79 rfl (sd_callV hX (kd := 12) rfl (by decide) (ct_X12_figure l) mk_X12_figure w_844 ⟨⟨by decide, by decide⟩, by decide, by decide⟩ dX12_readUser_81 sd_at))))
def BX12_readUser_84 (G : Nat → KT) (Q : Option mV → mM → Prop) : KT := (s_istore 4 (s_iload 4 (s_iconst (-9) (s_icmp (fun x y => x = y) ((s_iconst (-9) (s_at G 105 [true, true, true, true, true, false]))) (s_at G 98 [true, true, true, true, true, false])))))
set_option maxRecDepth 4000 in
theorem bsX12_readUser_84 {p : Program} {l : Launch} {e : Env} {s : State} {m : MethodId} {args : Array Value} {below : List Frame} {meth : Method} {c : Code} {D : va_G} {ca : Nat → ClassId} {ad : Nat → Nat} {A : Nat → Prop} {Q : Option mV → mM → Prop} (hX : CX p s m args meth c 6 cX12_readUser "FairBlocksModel" D ca ad A) (hr : meth.sig.returnType = (Option.some FieldType.boolean)) : ∀ lv st M, BX12_readUser_84 (Gd p l e (rmD 2) s m args below meth c 6 D ca ad A 0 0 (MQ below (QC D ca ad A Q) args s 0 0 A)) Q lv st M → Gd p l e (rmD 2) s m args below meth c 6 D ca ad A 0 0 (MQ below (QC D ca ad A Q) args s 0 0 A) 84 lv st M :=
  (sd_istore hX (by decide) dX12_readUser_84 (sd_iload hX dX12_readUser_86 (sd_bipush hX dX12_readUser_88 rfl (sd_icmp_ne hX dX12_readUser_90 (by decide) sd_at (sd_bipush hX dX12_readUser_93 rfl (sd_goto hX dX12_readUser_95 (by decide) sd_at))))))
def BX12_readUser_98 (G : Nat → KT) (Q : Option mV → mM → Prop) : KT := (s_aload 0 (s_iconst (0) (s_iconst (9) (s_callV 12 2 pre_X12_figure fn_X12_figure (s_at G 105 [true, true, true, true, true, false])))))
set_option maxRecDepth 4000 in
theorem bsX12_readUser_98 {p : Program} {l : Launch} {e : Env} {s : State} {m : MethodId} {args : Array Value} {below : List Frame} {meth : Method} {c : Code} {D : va_G} {ca : Nat → ClassId} {ad : Nat → Nat} {A : Nat → Prop} {Q : Option mV → mM → Prop} (hX : CX p s m args meth c 6 cX12_readUser "FairBlocksModel" D ca ad A) (hr : meth.sig.returnType = (Option.some FieldType.boolean)) : ∀ lv st M, BX12_readUser_98 (Gd p l e (rmD 2) s m args below meth c 6 D ca ad A 0 0 (MQ below (QC D ca ad A Q) args s 0 0 A)) Q lv st M → Gd p l e (rmD 2) s m args below meth c 6 D ca ad A 0 0 (MQ below (QC D ca ad A Q) args s 0 0 A) 98 lv st M :=
  (sd_aload_n hX dX12_readUser_98 rfl (sd_iconst hX dX12_readUser_99 rfl (sd_bipush hX dX12_readUser_100 rfl (sd_callV hX (kd := 12) rfl (by decide) (ct_X12_figure l) mk_X12_figure w_844 ⟨⟨by decide, by decide⟩, by decide, by decide⟩ dX12_readUser_102 sd_at))))
def BX12_readUser_105 (G : Nat → KT) (Q : Option mV → mM → Prop) : KT := (s_istore 5 (s_iload 5 (s_iconst (-9) (s_icmp (fun x y => x = y) ((s_iconst (0) (s_zret Q))) (s_at G 116 [true, true, true, true, true, true])))))
set_option maxRecDepth 4000 in
theorem bsX12_readUser_105 {p : Program} {l : Launch} {e : Env} {s : State} {m : MethodId} {args : Array Value} {below : List Frame} {meth : Method} {c : Code} {D : va_G} {ca : Nat → ClassId} {ad : Nat → Nat} {A : Nat → Prop} {Q : Option mV → mM → Prop} (hX : CX p s m args meth c 6 cX12_readUser "FairBlocksModel" D ca ad A) (hr : meth.sig.returnType = (Option.some FieldType.boolean)) : ∀ lv st M, BX12_readUser_105 (Gd p l e (rmD 2) s m args below meth c 6 D ca ad A 0 0 (MQ below (QC D ca ad A Q) args s 0 0 A)) Q lv st M → Gd p l e (rmD 2) s m args below meth c 6 D ca ad A 0 0 (MQ below (QC D ca ad A Q) args s 0 0 A) 105 lv st M :=
  (sd_istore hX (by decide) dX12_readUser_105 (sd_iload hX dX12_readUser_107 (sd_bipush hX dX12_readUser_109 rfl (sd_icmp_ne hX dX12_readUser_111 (by decide) sd_at (sd_iconst hX dX12_readUser_114 rfl (sd_zret hX hr dX12_readUser_115))))))
def BX12_readUser_116 (G : Nat → KT) (Q : Option mV → mM → Prop) : KT := (s_aload 0 (s_getr 12 13 (fun _ => 163) (s_iload 1 (s_iconst (0) (s_iast (s_at G 123 [true, true, true, true, true, true]))))))
set_option maxRecDepth 4000 in
theorem bsX12_readUser_116 {p : Program} {l : Launch} {e : Env} {s : State} {m : MethodId} {args : Array Value} {below : List Frame} {meth : Method} {c : Code} {D : va_G} {ca : Nat → ClassId} {ad : Nat → Nat} {A : Nat → Prop} {Q : Option mV → mM → Prop} (hX : CX p s m args meth c 6 cX12_readUser "FairBlocksModel" D ca ad A) (hr : meth.sig.returnType = (Option.some FieldType.boolean)) : ∀ lv st M, BX12_readUser_116 (Gd p l e (rmD 2) s m args below meth c 6 D ca ad A 0 0 (MQ below (QC D ca ad A Q) args s 0 0 A)) Q lv st M → Gd p l e (rmD 2) s m args below meth c 6 D ca ad A 0 0 (MQ below (QC D ca ad A Q) args s 0 0 A) 116 lv st M :=
  (sd_aload_n hX dX12_readUser_116 rfl (sd_getr hX fl_737 (fun _ => rfl) (fun _ _ _ => by decide +kernel) dX12_readUser_117 (sd_iload_n hX dX12_readUser_120 rfl (sd_iconst hX dX12_readUser_121 rfl (sd_iast hX dX12_readUser_122 sd_at)))))
def BX12_readUser_123 (G : Nat → KT) (Q : Option mV → mM → Prop) : KT := (s_iload 5 (s_iconst (-9) (s_icmp (fun x y => x = y) (s_at G 186 [true, true, true, true, true, false]) (s_aload 0 (s_getr 12 13 (fun _ => 162) (s_iconst (6) (s_iload 1 (s_bin (fun x y => x * y) (s_aload 0 (s_getr 12 13 (fun _ => 163) (s_iload 1 (s_iald (s_bin (fun x y => x + y) (s_iload 5 (s_iast (s_aload 0 (s_getr 12 13 (fun _ => 163) (s_iload 1 (s_dup2 (s_iald (s_iconst (1) (s_bin (fun x y => x + y) (s_iast (s_aload 0 (s_getr 12 13 (fun _ => 163) (s_iload 1 (s_iald (s_iconst (6) (s_icmp (fun x y => y ≤ x) (s_at G 179 [true, true, true, true, true, false]) (s_aload 0 (s_iconst (0) (s_iconst (9) (s_callV 12 2 pre_X12_figure fn_X12_figure (s_at G 181 [true, true, true, true, true, false]))))))))))))))))))))))))))))))))))
set_option maxRecDepth 4000 in
theorem bsX12_readUser_123 {p : Program} {l : Launch} {e : Env} {s : State} {m : MethodId} {args : Array Value} {below : List Frame} {meth : Method} {c : Code} {D : va_G} {ca : Nat → ClassId} {ad : Nat → Nat} {A : Nat → Prop} {Q : Option mV → mM → Prop} (hX : CX p s m args meth c 6 cX12_readUser "FairBlocksModel" D ca ad A) (hr : meth.sig.returnType = (Option.some FieldType.boolean)) : ∀ lv st M, BX12_readUser_123 (Gd p l e (rmD 2) s m args below meth c 6 D ca ad A 0 0 (MQ below (QC D ca ad A Q) args s 0 0 A)) Q lv st M → Gd p l e (rmD 2) s m args below meth c 6 D ca ad A 0 0 (MQ below (QC D ca ad A Q) args s 0 0 A) 123 lv st M :=
  (sd_iload hX dX12_readUser_123 (sd_bipush hX dX12_readUser_125 rfl (sd_icmp_eq hX dX12_readUser_127 (by decide) sd_at (sd_aload_n hX dX12_readUser_130 rfl (sd_getr hX fl_736 (fun _ => rfl) (fun _ _ _ => by decide +kernel) dX12_readUser_131 (sd_bipush hX dX12_readUser_134 rfl (sd_iload_n hX dX12_readUser_136 rfl (sd_imul hX dX12_readUser_137 (sd_aload_n hX dX12_readUser_138 rfl (sd_getr hX fl_737 (fun _ => rfl) (fun _ _ _ => by decide +kernel) dX12_readUser_139 (sd_iload_n hX dX12_readUser_142 rfl (sd_iald hX dX12_readUser_143 (sd_iadd hX dX12_readUser_144 (sd_iload hX dX12_readUser_145 (sd_iast hX dX12_readUser_147 (sd_aload_n hX dX12_readUser_148 rfl (sd_getr hX fl_737 (fun _ => rfl) (fun _ _ _ => by decide +kernel) dX12_readUser_149 (sd_iload_n hX dX12_readUser_152 rfl (sd_dup2 hX dX12_readUser_153 (sd_iald hX dX12_readUser_154 (sd_iconst hX dX12_readUser_155 rfl (sd_iadd hX dX12_readUser_156 (sd_iast hX dX12_readUser_157 (sd_aload_n hX dX12_readUser_158 rfl (sd_getr hX fl_737 (fun _ => rfl) (fun _ _ _ => by decide +kernel) dX12_readUser_159 (sd_iload_n hX dX12_readUser_162 rfl (sd_iald hX dX12_readUser_163 (sd_bipush hX dX12_readUser_164 rfl (sd_icmp_ge hX dX12_readUser_166 (by decide) sd_at (sd_aload_n hX dX12_readUser_169 rfl (sd_iconst hX dX12_readUser_170 rfl (sd_bipush hX dX12_readUser_171 rfl (sd_callV hX (kd := 12) rfl (by decide) (ct_X12_figure l) mk_X12_figure w_844 ⟨⟨by decide, by decide⟩, by decide, by decide⟩ dX12_readUser_173 (sd_goto hX dX12_readUser_176 (by decide) sd_at))))))))))))))))))))))))))))))))))
def BX12_readUser_179 (G : Nat → KT) (Q : Option mV → mM → Prop) : KT := (s_iconst (-9) (s_at G 181 [true, true, true, true, true, false]))
set_option maxRecDepth 4000 in
theorem bsX12_readUser_179 {p : Program} {l : Launch} {e : Env} {s : State} {m : MethodId} {args : Array Value} {below : List Frame} {meth : Method} {c : Code} {D : va_G} {ca : Nat → ClassId} {ad : Nat → Nat} {A : Nat → Prop} {Q : Option mV → mM → Prop} (hX : CX p s m args meth c 6 cX12_readUser "FairBlocksModel" D ca ad A) (hr : meth.sig.returnType = (Option.some FieldType.boolean)) : ∀ lv st M, BX12_readUser_179 (Gd p l e (rmD 2) s m args below meth c 6 D ca ad A 0 0 (MQ below (QC D ca ad A Q) args s 0 0 A)) Q lv st M → Gd p l e (rmD 2) s m args below meth c 6 D ca ad A 0 0 (MQ below (QC D ca ad A Q) args s 0 0 A) 179 lv st M :=
  (sd_bipush hX dX12_readUser_179 rfl sd_at)
def BX12_readUser_181 (G : Nat → KT) (Q : Option mV → mM → Prop) : KT := (s_istore 5 (s_at G 123 [true, true, true, true, true, true]))
set_option maxRecDepth 4000 in
theorem bsX12_readUser_181 {p : Program} {l : Launch} {e : Env} {s : State} {m : MethodId} {args : Array Value} {below : List Frame} {meth : Method} {c : Code} {D : va_G} {ca : Nat → ClassId} {ad : Nat → Nat} {A : Nat → Prop} {Q : Option mV → mM → Prop} (hX : CX p s m args meth c 6 cX12_readUser "FairBlocksModel" D ca ad A) (hr : meth.sig.returnType = (Option.some FieldType.boolean)) : ∀ lv st M, BX12_readUser_181 (Gd p l e (rmD 2) s m args below meth c 6 D ca ad A 0 0 (MQ below (QC D ca ad A Q) args s 0 0 A)) Q lv st M → Gd p l e (rmD 2) s m args below meth c 6 D ca ad A 0 0 (MQ below (QC D ca ad A Q) args s 0 0 A) 181 lv st M :=
  (sd_istore hX (by decide) dX12_readUser_181 (sd_goto hX dX12_readUser_183 (by decide) sd_at))
def BX12_readUser_186 (G : Nat → KT) (Q : Option mV → mM → Prop) : KT := (s_aload 0 (s_geti 12 3 (s_aload 0 (s_geti 12 2 (s_icmp (fun x y => x = y) (s_at G 211 [false, false, false, false, false, false]) (s_aload 0 (s_getr 12 13 (fun _ => 159) (s_aload 0 (s_geti 12 3 (s_iald (s_iconst (46) (s_icmp (fun x y => x = y) (s_at G 213 [true, true, true, true, true, false]) (s_at G 211 [false, false, false, false, false, false])))))))))))))
set_option maxRecDepth 4000 in
theorem bsX12_readUser_186 {p : Program} {l : Launch} {e : Env} {s : State} {m : MethodId} {args : Array Value} {below : List Frame} {meth : Method} {c : Code} {D : va_G} {ca : Nat → ClassId} {ad : Nat → Nat} {A : Nat → Prop} {Q : Option mV → mM → Prop} (hX : CX p s m args meth c 6 cX12_readUser "FairBlocksModel" D ca ad A) (hr : meth.sig.returnType = (Option.some FieldType.boolean)) : ∀ lv st M, BX12_readUser_186 (Gd p l e (rmD 2) s m args below meth c 6 D ca ad A 0 0 (MQ below (QC D ca ad A Q) args s 0 0 A)) Q lv st M → Gd p l e (rmD 2) s m args below meth c 6 D ca ad A 0 0 (MQ below (QC D ca ad A Q) args s 0 0 A) 186 lv st M :=
  (sd_aload_n hX dX12_readUser_186 rfl (sd_geti hX fl_726 (by decide) dX12_readUser_187 (sd_aload_n hX dX12_readUser_190 rfl (sd_geti hX fl_725 (by decide) dX12_readUser_191 (sd_icmp_eq hX dX12_readUser_194 (by decide) sd_at (sd_aload_n hX dX12_readUser_197 rfl (sd_getr hX fl_724 (fun _ => rfl) (fun _ _ _ => by decide +kernel) dX12_readUser_198 (sd_aload_n hX dX12_readUser_201 rfl (sd_geti hX fl_726 (by decide) dX12_readUser_202 (sd_iald hX dX12_readUser_205 (sd_bipush hX dX12_readUser_206 rfl (sd_icmp_eq hX dX12_readUser_208 (by decide) sd_at sd_at))))))))))))
def BX12_readUser_211 (G : Nat → KT) (Q : Option mV → mM → Prop) : KT := (s_iconst (0) (s_zret Q))
set_option maxRecDepth 4000 in
theorem bsX12_readUser_211 {p : Program} {l : Launch} {e : Env} {s : State} {m : MethodId} {args : Array Value} {below : List Frame} {meth : Method} {c : Code} {D : va_G} {ca : Nat → ClassId} {ad : Nat → Nat} {A : Nat → Prop} {Q : Option mV → mM → Prop} (hX : CX p s m args meth c 6 cX12_readUser "FairBlocksModel" D ca ad A) (hr : meth.sig.returnType = (Option.some FieldType.boolean)) : ∀ lv st M, BX12_readUser_211 (Gd p l e (rmD 2) s m args below meth c 6 D ca ad A 0 0 (MQ below (QC D ca ad A Q) args s 0 0 A)) Q lv st M → Gd p l e (rmD 2) s m args below meth c 6 D ca ad A 0 0 (MQ below (QC D ca ad A Q) args s 0 0 A) 211 lv st M :=
  (sd_iconst hX dX12_readUser_211 rfl (sd_zret hX hr dX12_readUser_212))
def BX12_readUser_213 (G : Nat → KT) (Q : Option mV → mM → Prop) : KT := (s_aload 0 (s_dup (s_geti 12 3 (s_iconst (1) (s_bin (fun x y => x + y) (s_puti 12 3 (s_aload 0 (s_getr 12 13 (fun _ => 164) (s_iconst (10) (s_iload 1 (s_bin (fun x y => x * y) (s_iconst (0) (s_bin (fun x y => x + y) (s_iload 2 (s_iast (s_aload 0 (s_getr 12 13 (fun _ => 164) (s_iconst (10) (s_iload 1 (s_bin (fun x y => x * y) (s_iconst (1) (s_bin (fun x y => x + y) (s_iload 3 (s_iast (s_aload 0 (s_getr 12 13 (fun _ => 164) (s_iconst (10) (s_iload 1 (s_bin (fun x y => x * y) (s_iconst (2) (s_bin (fun x y => x + y) (s_iload 4 (s_iast (s_aload 0 (s_dup (s_geti 12 12 (s_iconst (1) (s_bin (fun x y => x + y) (s_puti 12 12 (s_iconst (1) (s_zret Q)))))))))))))))))))))))))))))))))))))))))
set_option maxRecDepth 4000 in
theorem bsX12_readUser_213 {p : Program} {l : Launch} {e : Env} {s : State} {m : MethodId} {args : Array Value} {below : List Frame} {meth : Method} {c : Code} {D : va_G} {ca : Nat → ClassId} {ad : Nat → Nat} {A : Nat → Prop} {Q : Option mV → mM → Prop} (hX : CX p s m args meth c 6 cX12_readUser "FairBlocksModel" D ca ad A) (hr : meth.sig.returnType = (Option.some FieldType.boolean)) : ∀ lv st M, BX12_readUser_213 (Gd p l e (rmD 2) s m args below meth c 6 D ca ad A 0 0 (MQ below (QC D ca ad A Q) args s 0 0 A)) Q lv st M → Gd p l e (rmD 2) s m args below meth c 6 D ca ad A 0 0 (MQ below (QC D ca ad A Q) args s 0 0 A) 213 lv st M :=
  (sd_aload_n hX dX12_readUser_213 rfl (sd_dup hX dX12_readUser_214 (sd_geti hX fl_726 (by decide) dX12_readUser_215 (sd_iconst hX dX12_readUser_218 rfl (sd_iadd hX dX12_readUser_219 (sd_puti hX fp_726 dX12_readUser_220 (sd_aload_n hX dX12_readUser_223 rfl (sd_getr hX fl_738 (fun _ => rfl) (fun _ _ _ => by decide +kernel) dX12_readUser_224 (sd_bipush hX dX12_readUser_227 rfl (sd_iload_n hX dX12_readUser_229 rfl (sd_imul hX dX12_readUser_230 (sd_iconst hX dX12_readUser_231 rfl (sd_iadd hX dX12_readUser_232 (sd_iload_n hX dX12_readUser_233 rfl (sd_iast hX dX12_readUser_234 (sd_aload_n hX dX12_readUser_235 rfl (sd_getr hX fl_738 (fun _ => rfl) (fun _ _ _ => by decide +kernel) dX12_readUser_236 (sd_bipush hX dX12_readUser_239 rfl (sd_iload_n hX dX12_readUser_241 rfl (sd_imul hX dX12_readUser_242 (sd_iconst hX dX12_readUser_243 rfl (sd_iadd hX dX12_readUser_244 (sd_iload_n hX dX12_readUser_245 rfl (sd_iast hX dX12_readUser_246 (sd_aload_n hX dX12_readUser_247 rfl (sd_getr hX fl_738 (fun _ => rfl) (fun _ _ _ => by decide +kernel) dX12_readUser_248 (sd_bipush hX dX12_readUser_251 rfl (sd_iload_n hX dX12_readUser_253 rfl (sd_imul hX dX12_readUser_254 (sd_iconst hX dX12_readUser_255 rfl (sd_iadd hX dX12_readUser_256 (sd_iload hX dX12_readUser_257 (sd_iast hX dX12_readUser_259 (sd_aload_n hX dX12_readUser_260 rfl (sd_dup hX dX12_readUser_261 (sd_geti hX fl_735 (by decide) dX12_readUser_262 (sd_iconst hX dX12_readUser_265 rfl (sd_iadd hX dX12_readUser_266 (sd_puti hX fp_735 dX12_readUser_267 (sd_iconst hX dX12_readUser_270 rfl (sd_zret hX hr dX12_readUser_271)))))))))))))))))))))))))))))))))))))))))
set_option maxHeartbeats 400000 in
theorem pf_X12_readUser (G : Nat → KT) (Q : Option mV → mM → Prop) (h0 : ∀ lv st M, BX12_readUser_0 G Q lv st M → G 0 lv st M) (h22 : ∀ lv st M, BX12_readUser_22 G Q lv st M → G 22 lv st M) (h24 : ∀ lv st M, BX12_readUser_24 G Q lv st M → G 24 lv st M) (h58 : ∀ lv st M, BX12_readUser_58 G Q lv st M → G 58 lv st M) (h65 : ∀ lv st M, BX12_readUser_65 G Q lv st M → G 65 lv st M) (h77 : ∀ lv st M, BX12_readUser_77 G Q lv st M → G 77 lv st M) (h84 : ∀ lv st M, BX12_readUser_84 G Q lv st M → G 84 lv st M) (h98 : ∀ lv st M, BX12_readUser_98 G Q lv st M → G 98 lv st M) (h105 : ∀ lv st M, BX12_readUser_105 G Q lv st M → G 105 lv st M) (h116 : ∀ lv st M, BX12_readUser_116 G Q lv st M → G 116 lv st M) (h123 : ∀ lv st M, BX12_readUser_123 G Q lv st M → G 123 lv st M) (h179 : ∀ lv st M, BX12_readUser_179 G Q lv st M → G 179 lv st M) (h181 : ∀ lv st M, BX12_readUser_181 G Q lv st M → G 181 lv st M) (h186 : ∀ lv st M, BX12_readUser_186 G Q lv st M → G 186 lv st M) (h211 : ∀ lv st M, BX12_readUser_211 G Q lv st M → G 211 lv st M) (h213 : ∀ lv st M, BX12_readUser_213 G Q lv st M → G 213 lv st M) (as : List mV) (M : mM) (ho : ∀ v ∈ as, okV v) (hp : pre_X12_readUser as M) (hQ : Q (fn_X12_readUser as M).1 (fn_X12_readUser as M).2) : G 0 (inL as ++ List.replicate (6 - (inL as).length) none) [] M := by
  obtain ⟨c, rfl, t, p, u, ht, hpt, hu, et, ep, eu⟩ := hp
  obtain rfl : c = 158 := k12 (ho (.inr (.inr (12, c))) (by simp))
  have eP : PZ M = p := by unfold PZ; rw [ep, nI_clamp (by omega)]
  simp only [fn_X12_readUser, rus, eP] at hQ
  have F : ∀ M, Q (some (.inl 0)) M → G 22 [none, none, none, none, none, none] [] M := by
    intro M hQ
    (apply h22; simp only [BX12_readUser_22, s_mth, s_mab, s_at, s_iconst, s_lconst, s_iload, s_lload, s_aload, s_istore, s_lstore, s_astore, s_iinc, s_bin, s_binG, s_un, s_lbin, s_lbinG, s_lsh, s_lcmp, s_i2l, s_l2i, s_dup, s_dup2, s_pop, s_if, s_icmp, s_geti, s_getl, s_getr, s_puti, s_putz, s_putl, s_iald, s_zald, s_iast, s_zast, s_aaldS, s_aaldU, s_gets, s_tald, s_tsw, tsw, s_iret, s_zret, s_lret, s_aret, s_vret, s_callV, s_callS, c1, nl1, keepL, csum, pushR, inL, List.getD_cons_zero, List.getD_cons_succ, List.set_cons_zero, List.set_cons_succ, List.cons_append, List.nil_append, List.append_nil, List.replicate, List.length_cons, List.length_nil, List.take_succ_cons, List.take_zero, List.drop_succ_cons, List.drop_zero, List.reverse_cons, List.reverse_nil, true_and, and_true, forall_const, not_true_eq_false, not_false_eq_true, false_implies, true_implies, implies_true, one0, m10, Nat.reduceAdd, Nat.reduceSub, Nat.reduceLeDiff, Nat.zero_add, Nat.add_zero, fn_X12_figure])
    exact ⟨by simp, hQ⟩
  (apply h0; simp only [BX12_readUser_0, s_mth, s_mab, s_at, s_iconst, s_lconst, s_iload, s_lload, s_aload, s_istore, s_lstore, s_astore, s_iinc, s_bin, s_binG, s_un, s_lbin, s_lbinG, s_lsh, s_lcmp, s_i2l, s_l2i, s_dup, s_dup2, s_pop, s_if, s_icmp, s_geti, s_getl, s_getr, s_puti, s_putz, s_putl, s_iald, s_zald, s_iast, s_zast, s_aaldS, s_aaldU, s_gets, s_tald, s_tsw, tsw, s_iret, s_zret, s_lret, s_aret, s_vret, s_callV, s_callS, c1, nl1, keepL, csum, pushR, inL, List.getD_cons_zero, List.getD_cons_succ, List.set_cons_zero, List.set_cons_succ, List.cons_append, List.nil_append, List.append_nil, List.replicate, List.length_cons, List.length_nil, List.take_succ_cons, List.take_zero, List.drop_succ_cons, List.drop_zero, List.reverse_cons, List.reverse_nil, true_and, and_true, forall_const, not_true_eq_false, not_false_eq_true, false_implies, true_implies, implies_true, one0, m10, Nat.reduceAdd, Nat.reduceSub, Nat.reduceLeDiff, Nat.zero_add, Nat.add_zero, fn_X12_figure])
  simp only [lM]
  rw [ep, nI_clamp (by omega : p < 2 ^ 31)]
  refine ⟨fun h => ?_, fun h => ⟨vz (by omega) (by decide), fun h2 => ?_, fun h2 => ?_⟩⟩
  · rw [if_pos h] at hQ; exact F _ hQ
  · rw [if_neg h, if_pos h2] at hQ
    have hu5 : u < 5 := by
      have : u ≠ 5 := fun g => h (by rw [eu, g]; rfl)
      omega
    have hvu : vp_in (nI u) 5 := vz hu5 (by decide)
    have ecu : (nI u).toNatClampNeg = u := nI_clamp (by omega)
    rw [eu, ecu] at hQ
    have hS : PS (mset M 158 3 (M.1 158 3 + 1)) := ⟨t, p + 1, ht, by omega, by rw [mset_o (by decide)]; exact et, by rw [mset_s, ep, nI_1]⟩
    have h12 : (mset M 158 3 (M.1 158 3 + 1)).1 158 12 = nI u := by rw [mset_o (by decide)]; exact eu
    have x0 : ((10 : Int32) * nI u + 0).toNatClampNeg = 10 * u + 0 := cx hu5 0 (by decide)
    have v0 : vp_in ((10 : Int32) * nI u + 0) 52 := vx hu5 0 (by decide)
    have x1 : ((10 : Int32) * nI u + 1).toNatClampNeg = 10 * u + 1 := cx hu5 1 (by decide)
    have v1 : vp_in ((10 : Int32) * nI u + 1) 52 := vx hu5 1 (by decide)
    have x2 : ((10 : Int32) * nI u + 2).toNatClampNeg = 10 * u + 2 := cx hu5 2 (by decide)
    have v2 : vp_in ((10 : Int32) * nI u + 2) 52 := vx hu5 2 (by decide)
    have x3 : ((10 : Int32) * nI u + 3).toNatClampNeg = 10 * u + 3 := cx hu5 3 (by decide)
    have v3 : vp_in ((10 : Int32) * nI u + 3) 52 := vx hu5 3 (by decide)
    have x4 : ((10 : Int32) * nI u + 4).toNatClampNeg = 10 * u + 4 := cx hu5 4 (by decide)
    have v4 : vp_in ((10 : Int32) * nI u + 4) 52 := vx hu5 4 (by decide)
    have x5 : ((10 : Int32) * nI u + 5).toNatClampNeg = 10 * u + 5 := cx hu5 5 (by decide)
    have v5 : vp_in ((10 : Int32) * nI u + 5) 52 := vx hu5 5 (by decide)
    have x6 : ((10 : Int32) * nI u + 6).toNatClampNeg = 10 * u + 6 := cx hu5 6 (by decide)
    have v6 : vp_in ((10 : Int32) * nI u + 6) 52 := vx hu5 6 (by decide)
    have x7 : ((10 : Int32) * nI u + 7).toNatClampNeg = 10 * u + 7 := cx hu5 7 (by decide)
    have v7 : vp_in ((10 : Int32) * nI u + 7) 52 := vx hu5 7 (by decide)
    have x8 : ((10 : Int32) * nI u + 8).toNatClampNeg = 10 * u + 8 := cx hu5 8 (by decide)
    have v8 : vp_in ((10 : Int32) * nI u + 8) 52 := vx hu5 8 (by decide)
    have x9 : ((10 : Int32) * nI u + 9).toNatClampNeg = 10 * u + 9 := cx hu5 9 (by decide)
    have v9 : vp_in ((10 : Int32) * nI u + 9) 52 := vx hu5 9 (by decide)
    (apply h24; simp only [BX12_readUser_24, s_mth, s_mab, s_at, s_iconst, s_lconst, s_iload, s_lload, s_aload, s_istore, s_lstore, s_astore, s_iinc, s_bin, s_binG, s_un, s_lbin, s_lbinG, s_lsh, s_lcmp, s_i2l, s_l2i, s_dup, s_dup2, s_pop, s_if, s_icmp, s_geti, s_getl, s_getr, s_puti, s_putz, s_putl, s_iald, s_zald, s_iast, s_zast, s_aaldS, s_aaldU, s_gets, s_tald, s_tsw, tsw, s_iret, s_zret, s_lret, s_aret, s_vret, s_callV, s_callS, c1, nl1, keepL, csum, pushR, inL, List.getD_cons_zero, List.getD_cons_succ, List.set_cons_zero, List.set_cons_succ, List.cons_append, List.nil_append, List.append_nil, List.replicate, List.length_cons, List.length_nil, List.take_succ_cons, List.take_zero, List.drop_succ_cons, List.drop_zero, List.reverse_cons, List.reverse_nil, true_and, and_true, forall_const, not_true_eq_false, not_false_eq_true, false_implies, true_implies, implies_true, one0, m10, Nat.reduceAdd, Nat.reduceSub, Nat.reduceLeDiff, Nat.zero_add, Nat.add_zero, fn_X12_figure])
    generalize mset M 158 3 (M.1 158 3 + 1) = M1 at *
    rw [h12]
    unfold ru1 at hQ
    have hS1 := PS_fgr (a := 0) (b := 9) hS w9b
    have hS2 := PS_ruX (q := fgr M1 0 9) (a := 1) (b := 9) hS1 w9c
    have hS3 := PS_ruX (a := 0) (b := 9) hS2 w9b
    have hS4 := PS_ruX (a := 0) (b := 9) hS3 w9b
    have L211 : ∀ M, Q (some (.inl 0)) M → G 211 [none, none, none, none, none, none] [] M := by
      intro M hQ
      (apply h211; simp only [BX12_readUser_211, s_mth, s_mab, s_at, s_iconst, s_lconst, s_iload, s_lload, s_aload, s_istore, s_lstore, s_astore, s_iinc, s_bin, s_binG, s_un, s_lbin, s_lbinG, s_lsh, s_lcmp, s_i2l, s_l2i, s_dup, s_dup2, s_pop, s_if, s_icmp, s_geti, s_getl, s_getr, s_puti, s_putz, s_putl, s_iald, s_zald, s_iast, s_zast, s_aaldS, s_aaldU, s_gets, s_tald, s_tsw, tsw, s_iret, s_zret, s_lret, s_aret, s_vret, s_callV, s_callS, c1, nl1, keepL, csum, pushR, inL, List.getD_cons_zero, List.getD_cons_succ, List.set_cons_zero, List.set_cons_succ, List.cons_append, List.nil_append, List.append_nil, List.replicate, List.length_cons, List.length_nil, List.take_succ_cons, List.take_zero, List.drop_succ_cons, List.drop_zero, List.reverse_cons, List.reverse_nil, true_and, and_true, forall_const, not_true_eq_false, not_false_eq_true, false_implies, true_implies, implies_true, one0, m10, Nat.reduceAdd, Nat.reduceSub, Nat.reduceLeDiff, Nat.zero_add, Nat.add_zero, fn_X12_figure])
      exact ⟨by simp, hQ⟩
    have L186 : ∀ (a b d : Int32) (M : mM), PS M → Q (some (.inl (ru6 u a b d M).1)) (ru6 u a b d M).2 → G 186 [some (.inr (.inr (12, 158))), some (.inl (nI u)), some (.inl a), some (.inl b), some (.inl d), none] [] M := by
      intro a b d M hS hQ
      unfold ru6 at hQ
      obtain ⟨t, p, ht, hp, et, ep⟩ := hS
      have eP : PZ M = p := by unfold PZ; rw [ep, nI_clamp (by omega)]
      rw [eP] at hQ
      (apply h186; simp only [BX12_readUser_186, s_mth, s_mab, s_at, s_iconst, s_lconst, s_iload, s_lload, s_aload, s_istore, s_lstore, s_astore, s_iinc, s_bin, s_binG, s_un, s_lbin, s_lbinG, s_lsh, s_lcmp, s_i2l, s_l2i, s_dup, s_dup2, s_pop, s_if, s_icmp, s_geti, s_getl, s_getr, s_puti, s_putz, s_putl, s_iald, s_zald, s_iast, s_zast, s_aaldS, s_aaldU, s_gets, s_tald, s_tsw, tsw, s_iret, s_zret, s_lret, s_aret, s_vret, s_callV, s_callS, c1, nl1, keepL, csum, pushR, inL, List.getD_cons_zero, List.getD_cons_succ, List.set_cons_zero, List.set_cons_succ, List.cons_append, List.nil_append, List.append_nil, List.replicate, List.length_cons, List.length_nil, List.take_succ_cons, List.take_zero, List.drop_succ_cons, List.drop_zero, List.reverse_cons, List.reverse_nil, true_and, and_true, forall_const, not_true_eq_false, not_false_eq_true, false_implies, true_implies, implies_true, one0, m10, Nat.reduceAdd, Nat.reduceSub, Nat.reduceLeDiff, Nat.zero_add, Nat.add_zero, fn_X12_figure])
      simp only [lM]
      refine ⟨fun g => ?_, fun g => ?_⟩
      · rw [if_pos g] at hQ; exact L211 _ hQ
      · rw [if_neg g] at hQ
        have hlt : p < t := by
          have : p ≠ t := fun g2 => g (by rw [et, ep, g2])
          omega
        rw [ep, nI_clamp (by omega : p < 2 ^ 31)]
        refine ⟨vz (by omega) (by decide), fun g2 => ?_, fun g2 => ?_⟩
        · rw [if_pos g2] at hQ
          unfold ruZ at hQ
          (apply h213; simp only [BX12_readUser_213, s_mth, s_mab, s_at, s_iconst, s_lconst, s_iload, s_lload, s_aload, s_istore, s_lstore, s_astore, s_iinc, s_bin, s_binG, s_un, s_lbin, s_lbinG, s_lsh, s_lcmp, s_i2l, s_l2i, s_dup, s_dup2, s_pop, s_if, s_icmp, s_geti, s_getl, s_getr, s_puti, s_putz, s_putl, s_iald, s_zald, s_iast, s_zast, s_aaldS, s_aaldU, s_gets, s_tald, s_tsw, tsw, s_iret, s_zret, s_lret, s_aret, s_vret, s_callV, s_callS, c1, nl1, keepL, csum, pushR, inL, List.getD_cons_zero, List.getD_cons_succ, List.set_cons_zero, List.set_cons_succ, List.cons_append, List.nil_append, List.append_nil, List.replicate, List.length_cons, List.length_nil, List.take_succ_cons, List.take_zero, List.drop_succ_cons, List.drop_zero, List.reverse_cons, List.reverse_nil, true_and, and_true, forall_const, not_true_eq_false, not_false_eq_true, false_implies, true_implies, implies_true, one0, m10, Nat.reduceAdd, Nat.reduceSub, Nat.reduceLeDiff, Nat.zero_add, Nat.add_zero, fn_X12_figure])
          simp only [lM, x0, x1, x2]
          rw [mset_n (show (158 : Nat) ≠ 164 by decide), mset_n (show (158 : Nat) ≠ 164 by decide), mset_n (show (158 : Nat) ≠ 164 by decide), mset_o (show (12 : Nat) ≠ 3 by decide)]
          exact ⟨v0, v1, v2, by simp, hQ⟩
        · rw [if_neg g2] at hQ; exact L211 _ hQ
    have loop : ∀ (k i : Nat) (a b d v : Int32) (M : mM), i + k = 6 → PS M → M.1 163 u = nI i → (k = 0 → v = -9) → Q (some (.inl (ru6 u a b d (rlL u k v M)).1)) (ru6 u a b d (rlL u k v M)).2 → G 123 [some (.inr (.inr (12, 158))), some (.inl (nI u)), some (.inl a), some (.inl b), some (.inl d), some (.inl v)] [] M := by
      intro k
      induction k with
      | zero =>
        intro i a b d v M hi hS h163 hv hq
        have e9 := hv rfl
        rw [rlL] at hq
        (apply h123; simp only [BX12_readUser_123, s_mth, s_mab, s_at, s_iconst, s_lconst, s_iload, s_lload, s_aload, s_istore, s_lstore, s_astore, s_iinc, s_bin, s_binG, s_un, s_lbin, s_lbinG, s_lsh, s_lcmp, s_i2l, s_l2i, s_dup, s_dup2, s_pop, s_if, s_icmp, s_geti, s_getl, s_getr, s_puti, s_putz, s_putl, s_iald, s_zald, s_iast, s_zast, s_aaldS, s_aaldU, s_gets, s_tald, s_tsw, tsw, s_iret, s_zret, s_lret, s_aret, s_vret, s_callV, s_callS, c1, nl1, keepL, csum, pushR, inL, List.getD_cons_zero, List.getD_cons_succ, List.set_cons_zero, List.set_cons_succ, List.cons_append, List.nil_append, List.append_nil, List.replicate, List.length_cons, List.length_nil, List.take_succ_cons, List.take_zero, List.drop_succ_cons, List.drop_zero, List.reverse_cons, List.reverse_nil, true_and, and_true, forall_const, not_true_eq_false, not_false_eq_true, false_implies, true_implies, implies_true, one0, m10, Nat.reduceAdd, Nat.reduceSub, Nat.reduceLeDiff, Nat.zero_add, Nat.add_zero, fn_X12_figure])
        refine ⟨fun _ => L186 a b d M hS hq, fun g => absurd e9 g⟩
      | succ k ih =>
        intro i a b d v M hi hS h163 hv hq
        rw [rlL] at hq
        have e6 : (6 : Int32) * nI u + nI i = nI (6 * u + i) := by rw [show (6 : Int32) = nI 6 from rfl, pk_mul, nI_add]
        have eA : rlA u v M = mset (mset M 162 (6 * u + i) v) 163 u (nI i + 1) := by unfold rlA; rw [h163, nI_clamp (by omega)]
        have eA1 : (rlA u v M).1 163 u = nI (i + 1) := by rw [eA, mset_s, nI_1]
        have hSA : PS (rlA u v M) := PS_m (PS_m hS (Or.inl (by decide))) (Or.inl (by decide))
        have L181 : ∀ (w : Int32) (M : mM), PS M → M.1 163 u = nI (i + 1) → (k = 0 → w = -9) → Q (some (.inl (ru6 u a b d (rlL u k w M)).1)) (ru6 u a b d (rlL u k w M)).2 → G 181 [some (.inr (.inr (12, 158))), some (.inl (nI u)), some (.inl a), some (.inl b), some (.inl d), none] [.inl w] M := by
          intro w M hS h1 hw hq
          (apply h181; simp only [BX12_readUser_181, s_mth, s_mab, s_at, s_iconst, s_lconst, s_iload, s_lload, s_aload, s_istore, s_lstore, s_astore, s_iinc, s_bin, s_binG, s_un, s_lbin, s_lbinG, s_lsh, s_lcmp, s_i2l, s_l2i, s_dup, s_dup2, s_pop, s_if, s_icmp, s_geti, s_getl, s_getr, s_puti, s_putz, s_putl, s_iald, s_zald, s_iast, s_zast, s_aaldS, s_aaldU, s_gets, s_tald, s_tsw, tsw, s_iret, s_zret, s_lret, s_aret, s_vret, s_callV, s_callS, c1, nl1, keepL, csum, pushR, inL, List.getD_cons_zero, List.getD_cons_succ, List.set_cons_zero, List.set_cons_succ, List.cons_append, List.nil_append, List.append_nil, List.replicate, List.length_cons, List.length_nil, List.take_succ_cons, List.take_zero, List.drop_succ_cons, List.drop_zero, List.reverse_cons, List.reverse_nil, true_and, and_true, forall_const, not_true_eq_false, not_false_eq_true, false_implies, true_implies, implies_true, one0, m10, Nat.reduceAdd, Nat.reduceSub, Nat.reduceLeDiff, Nat.zero_add, Nat.add_zero, fn_X12_figure])
          exact ih (i + 1) a b d w M (by omega) hS h1 hw hq
        (apply h123; simp only [BX12_readUser_123, s_mth, s_mab, s_at, s_iconst, s_lconst, s_iload, s_lload, s_aload, s_istore, s_lstore, s_astore, s_iinc, s_bin, s_binG, s_un, s_lbin, s_lbinG, s_lsh, s_lcmp, s_i2l, s_l2i, s_dup, s_dup2, s_pop, s_if, s_icmp, s_geti, s_getl, s_getr, s_puti, s_putz, s_putl, s_iald, s_zald, s_iast, s_zast, s_aaldS, s_aaldU, s_gets, s_tald, s_tsw, tsw, s_iret, s_zret, s_lret, s_aret, s_vret, s_callV, s_callS, c1, nl1, keepL, csum, pushR, inL, List.getD_cons_zero, List.getD_cons_succ, List.set_cons_zero, List.set_cons_succ, List.cons_append, List.nil_append, List.append_nil, List.replicate, List.length_cons, List.length_nil, List.take_succ_cons, List.take_zero, List.drop_succ_cons, List.drop_zero, List.reverse_cons, List.reverse_nil, true_and, and_true, forall_const, not_true_eq_false, not_false_eq_true, false_implies, true_implies, implies_true, one0, m10, Nat.reduceAdd, Nat.reduceSub, Nat.reduceLeDiff, Nat.zero_add, Nat.add_zero, fn_X12_figure])
        simp only [lM, ecu]
        rw [h163, e6]
        rw [mset_n (show (163 : Nat) ≠ 162 by decide), h163]
        rw [nI_clamp (show 6 * u + i < 2 ^ 31 by omega), ← eA, eA1]
        refine ⟨fun g => ?_, fun g => ⟨hvu, vz (by omega) (by decide), hvu, hvu, hvu, fun g2 => ?_, fun g2 => ?_⟩⟩
        · rw [if_pos g] at hq
          exact L186 a b d M hS hq
        · have g3 : 6 ≤ (rlA u v M).1 163 u := by rw [eA1]; exact g2
          rw [if_neg g, if_pos g3] at hq
          (apply h179; simp only [BX12_readUser_179, s_mth, s_mab, s_at, s_iconst, s_lconst, s_iload, s_lload, s_aload, s_istore, s_lstore, s_astore, s_iinc, s_bin, s_binG, s_un, s_lbin, s_lbinG, s_lsh, s_lcmp, s_i2l, s_l2i, s_dup, s_dup2, s_pop, s_if, s_icmp, s_geti, s_getl, s_getr, s_puti, s_putz, s_putl, s_iald, s_zald, s_iast, s_zast, s_aaldS, s_aaldU, s_gets, s_tald, s_tsw, tsw, s_iret, s_zret, s_lret, s_aret, s_vret, s_callV, s_callS, c1, nl1, keepL, csum, pushR, inL, List.getD_cons_zero, List.getD_cons_succ, List.set_cons_zero, List.set_cons_succ, List.cons_append, List.nil_append, List.append_nil, List.replicate, List.length_cons, List.length_nil, List.take_succ_cons, List.take_zero, List.drop_succ_cons, List.drop_zero, List.reverse_cons, List.reverse_nil, true_and, and_true, forall_const, not_true_eq_false, not_false_eq_true, false_implies, true_implies, implies_true, one0, m10, Nat.reduceAdd, Nat.reduceSub, Nat.reduceLeDiff, Nat.zero_add, Nat.add_zero, fn_X12_figure])
          refine L181 (-9) _ hSA eA1 (fun _ => rfl) ?_
          have er : rlL u k (-9) (rlA u v M) = rlA u v M := by
            cases k with
            | zero => rfl
            | succ k => rw [rlL, if_pos rfl]
          rw [er]
          exact hq
        · have g3 : ¬ 6 ≤ (rlA u v M).1 163 u := by rw [eA1]; exact g2
          rw [if_neg g, if_neg g3] at hq
          refine ⟨⟨_, _, _, rfl, hSA⟩, ?_⟩
          refine L181 _ _ (PS_fgr hSA w9b) (by rw [fgr_n (Or.inl (by decide))]; exact eA1) (fun g4 => ?_) hq
          exfalso
          apply g2
          have : i + 1 = 6 := by omega
          rw [this]
          decide
    have L105 : ∀ (a b d : Int32) (q : Int32 × mM), PS q.2 → Q (some (.inl (ru5 u a b d q).1)) (ru5 u a b d q).2 → G 105 [some (.inr (.inr (12, 158))), some (.inl (nI u)), some (.inl a), some (.inl b), some (.inl d), none] [.inl q.1] q.2 := by
      intro a b d q hS hQ
      unfold ru5 at hQ
      (apply h105; simp only [BX12_readUser_105, s_mth, s_mab, s_at, s_iconst, s_lconst, s_iload, s_lload, s_aload, s_istore, s_lstore, s_astore, s_iinc, s_bin, s_binG, s_un, s_lbin, s_lbinG, s_lsh, s_lcmp, s_i2l, s_l2i, s_dup, s_dup2, s_pop, s_if, s_icmp, s_geti, s_getl, s_getr, s_puti, s_putz, s_putl, s_iald, s_zald, s_iast, s_zast, s_aaldS, s_aaldU, s_gets, s_tald, s_tsw, tsw, s_iret, s_zret, s_lret, s_aret, s_vret, s_callV, s_callS, c1, nl1, keepL, csum, pushR, inL, List.getD_cons_zero, List.getD_cons_succ, List.set_cons_zero, List.set_cons_succ, List.cons_append, List.nil_append, List.append_nil, List.replicate, List.length_cons, List.length_nil, List.take_succ_cons, List.take_zero, List.drop_succ_cons, List.drop_zero, List.reverse_cons, List.reverse_nil, true_and, and_true, forall_const, not_true_eq_false, not_false_eq_true, false_implies, true_implies, implies_true, one0, m10, Nat.reduceAdd, Nat.reduceSub, Nat.reduceLeDiff, Nat.zero_add, Nat.add_zero, fn_X12_figure])
      refine ⟨fun g => ?_, fun g => ?_⟩
      · rw [if_pos g] at hQ
        exact ⟨by simp, hQ⟩
      · rw [if_neg g] at hQ
        (apply h116; simp only [BX12_readUser_116, s_mth, s_mab, s_at, s_iconst, s_lconst, s_iload, s_lload, s_aload, s_istore, s_lstore, s_astore, s_iinc, s_bin, s_binG, s_un, s_lbin, s_lbinG, s_lsh, s_lcmp, s_i2l, s_l2i, s_dup, s_dup2, s_pop, s_if, s_icmp, s_geti, s_getl, s_getr, s_puti, s_putz, s_putl, s_iald, s_zald, s_iast, s_zast, s_aaldS, s_aaldU, s_gets, s_tald, s_tsw, tsw, s_iret, s_zret, s_lret, s_aret, s_vret, s_callV, s_callS, c1, nl1, keepL, csum, pushR, inL, List.getD_cons_zero, List.getD_cons_succ, List.set_cons_zero, List.set_cons_succ, List.cons_append, List.nil_append, List.append_nil, List.replicate, List.length_cons, List.length_nil, List.take_succ_cons, List.take_zero, List.drop_succ_cons, List.drop_zero, List.reverse_cons, List.reverse_nil, true_and, and_true, forall_const, not_true_eq_false, not_false_eq_true, false_implies, true_implies, implies_true, one0, m10, Nat.reduceAdd, Nat.reduceSub, Nat.reduceLeDiff, Nat.zero_add, Nat.add_zero, fn_X12_figure])
        simp only [lM, ecu]
        exact ⟨hvu, loop 6 0 a b d q.1 _ rfl (PS_m hS (Or.inl (by decide))) mset_s (fun g => absurd g (by decide)) hQ⟩
    refine ⟨⟨_, _, _, rfl, hS⟩, ?_⟩
    generalize fgr M1 0 9 = q1 at *
    have L84 : G 84 [some (.inr (.inr (12, 158))), some (.inl (nI u)), some (.inl q1.1), some (.inl (ruX q1 1 9).1), none, none] [.inl (ruX (ruX q1 1 9) 0 9).1] (ruX (ruX q1 1 9) 0 9).2 := by
      generalize ruX q1 1 9 = q2 at *
      generalize ruX q2 0 9 = q3 at *
      have L := L105 q1.1 q2.1 q3.1 (ruX q3 0 9) hS4 hQ
      unfold ruX at L
      (apply h84; simp only [BX12_readUser_84, s_mth, s_mab, s_at, s_iconst, s_lconst, s_iload, s_lload, s_aload, s_istore, s_lstore, s_astore, s_iinc, s_bin, s_binG, s_un, s_lbin, s_lbinG, s_lsh, s_lcmp, s_i2l, s_l2i, s_dup, s_dup2, s_pop, s_if, s_icmp, s_geti, s_getl, s_getr, s_puti, s_putz, s_putl, s_iald, s_zald, s_iast, s_zast, s_aaldS, s_aaldU, s_gets, s_tald, s_tsw, tsw, s_iret, s_zret, s_lret, s_aret, s_vret, s_callV, s_callS, c1, nl1, keepL, csum, pushR, inL, List.getD_cons_zero, List.getD_cons_succ, List.set_cons_zero, List.set_cons_succ, List.cons_append, List.nil_append, List.append_nil, List.replicate, List.length_cons, List.length_nil, List.take_succ_cons, List.take_zero, List.drop_succ_cons, List.drop_zero, List.reverse_cons, List.reverse_nil, true_and, and_true, forall_const, not_true_eq_false, not_false_eq_true, false_implies, true_implies, implies_true, one0, m10, Nat.reduceAdd, Nat.reduceSub, Nat.reduceLeDiff, Nat.zero_add, Nat.add_zero, fn_X12_figure])
      refine ⟨fun g => ?_, fun g => ?_⟩
      · rw [if_pos g] at L
        exact L
      · rw [if_neg g] at L
        (apply h98; simp only [BX12_readUser_98, s_mth, s_mab, s_at, s_iconst, s_lconst, s_iload, s_lload, s_aload, s_istore, s_lstore, s_astore, s_iinc, s_bin, s_binG, s_un, s_lbin, s_lbinG, s_lsh, s_lcmp, s_i2l, s_l2i, s_dup, s_dup2, s_pop, s_if, s_icmp, s_geti, s_getl, s_getr, s_puti, s_putz, s_putl, s_iald, s_zald, s_iast, s_zast, s_aaldS, s_aaldU, s_gets, s_tald, s_tsw, tsw, s_iret, s_zret, s_lret, s_aret, s_vret, s_callV, s_callS, c1, nl1, keepL, csum, pushR, inL, List.getD_cons_zero, List.getD_cons_succ, List.set_cons_zero, List.set_cons_succ, List.cons_append, List.nil_append, List.append_nil, List.replicate, List.length_cons, List.length_nil, List.take_succ_cons, List.take_zero, List.drop_succ_cons, List.drop_zero, List.reverse_cons, List.reverse_nil, true_and, and_true, forall_const, not_true_eq_false, not_false_eq_true, false_implies, true_implies, implies_true, one0, m10, Nat.reduceAdd, Nat.reduceSub, Nat.reduceLeDiff, Nat.zero_add, Nat.add_zero, fn_X12_figure])
        exact ⟨⟨_, _, _, rfl, hS3⟩, L⟩
    have L65 : G 65 [some (.inr (.inr (12, 158))), some (.inl (nI u)), some (.inl q1.1), none, none, none] [.inl (ruX q1 1 9).1] (ruX q1 1 9).2 := by
      generalize ruX q1 1 9 = q2 at *
      unfold ruX at L84
      (apply h65; simp only [BX12_readUser_65, s_mth, s_mab, s_at, s_iconst, s_lconst, s_iload, s_lload, s_aload, s_istore, s_lstore, s_astore, s_iinc, s_bin, s_binG, s_un, s_lbin, s_lbinG, s_lsh, s_lcmp, s_i2l, s_l2i, s_dup, s_dup2, s_pop, s_if, s_icmp, s_geti, s_getl, s_getr, s_puti, s_putz, s_putl, s_iald, s_zald, s_iast, s_zast, s_aaldS, s_aaldU, s_gets, s_tald, s_tsw, tsw, s_iret, s_zret, s_lret, s_aret, s_vret, s_callV, s_callS, c1, nl1, keepL, csum, pushR, inL, List.getD_cons_zero, List.getD_cons_succ, List.set_cons_zero, List.set_cons_succ, List.cons_append, List.nil_append, List.append_nil, List.replicate, List.length_cons, List.length_nil, List.take_succ_cons, List.take_zero, List.drop_succ_cons, List.drop_zero, List.reverse_cons, List.reverse_nil, true_and, and_true, forall_const, not_true_eq_false, not_false_eq_true, false_implies, true_implies, implies_true, one0, m10, Nat.reduceAdd, Nat.reduceSub, Nat.reduceLeDiff, Nat.zero_add, Nat.add_zero, fn_X12_figure])
      refine ⟨fun g => ?_, fun g => ?_⟩
      · rw [if_pos g] at L84
        exact L84
      · rw [if_neg g] at L84
        (apply h77; simp only [BX12_readUser_77, s_mth, s_mab, s_at, s_iconst, s_lconst, s_iload, s_lload, s_aload, s_istore, s_lstore, s_astore, s_iinc, s_bin, s_binG, s_un, s_lbin, s_lbinG, s_lsh, s_lcmp, s_i2l, s_l2i, s_dup, s_dup2, s_pop, s_if, s_icmp, s_geti, s_getl, s_getr, s_puti, s_putz, s_putl, s_iald, s_zald, s_iast, s_zast, s_aaldS, s_aaldU, s_gets, s_tald, s_tsw, tsw, s_iret, s_zret, s_lret, s_aret, s_vret, s_callV, s_callS, c1, nl1, keepL, csum, pushR, inL, List.getD_cons_zero, List.getD_cons_succ, List.set_cons_zero, List.set_cons_succ, List.cons_append, List.nil_append, List.append_nil, List.replicate, List.length_cons, List.length_nil, List.take_succ_cons, List.take_zero, List.drop_succ_cons, List.drop_zero, List.reverse_cons, List.reverse_nil, true_and, and_true, forall_const, not_true_eq_false, not_false_eq_true, false_implies, true_implies, implies_true, one0, m10, Nat.reduceAdd, Nat.reduceSub, Nat.reduceLeDiff, Nat.zero_add, Nat.add_zero, fn_X12_figure])
        exact ⟨⟨_, _, _, rfl, hS2⟩, L84⟩
    clear L84
    unfold ruX at L65
    refine ⟨fun g => ?_, fun g => ?_⟩
    · rw [if_pos g] at L65
      exact L65
    · rw [if_neg g] at L65
      (apply h58; simp only [BX12_readUser_58, s_mth, s_mab, s_at, s_iconst, s_lconst, s_iload, s_lload, s_aload, s_istore, s_lstore, s_astore, s_iinc, s_bin, s_binG, s_un, s_lbin, s_lbinG, s_lsh, s_lcmp, s_i2l, s_l2i, s_dup, s_dup2, s_pop, s_if, s_icmp, s_geti, s_getl, s_getr, s_puti, s_putz, s_putl, s_iald, s_zald, s_iast, s_zast, s_aaldS, s_aaldU, s_gets, s_tald, s_tsw, tsw, s_iret, s_zret, s_lret, s_aret, s_vret, s_callV, s_callS, c1, nl1, keepL, csum, pushR, inL, List.getD_cons_zero, List.getD_cons_succ, List.set_cons_zero, List.set_cons_succ, List.cons_append, List.nil_append, List.append_nil, List.replicate, List.length_cons, List.length_nil, List.take_succ_cons, List.take_zero, List.drop_succ_cons, List.drop_zero, List.reverse_cons, List.reverse_nil, true_and, and_true, forall_const, not_true_eq_false, not_false_eq_true, false_implies, true_implies, implies_true, one0, m10, Nat.reduceAdd, Nat.reduceSub, Nat.reduceLeDiff, Nat.zero_add, Nat.add_zero, fn_X12_figure])
      exact ⟨⟨_, _, _, rfl, hS1⟩, L65⟩
  · rw [if_neg h, if_neg h2] at hQ; exact F _ hQ
theorem ct_X12_readUser (l : Launch) : Con l yX12_readUser cX12_readUser 6 (Option.some FieldType.boolean) 2 pre_X12_readUser fn_X12_readUser := con_of (by decide +kernel) ok_X12_readUser len_X12_readUser (fun p e s m args below meth c D ca ad A as M hX hr hp ho => pf_X12_readUser _ _ (bsX12_readUser_0 hX hr) (bsX12_readUser_22 hX hr) (bsX12_readUser_24 hX hr) (bsX12_readUser_58 hX hr) (bsX12_readUser_65 hX hr) (bsX12_readUser_77 hX hr) (bsX12_readUser_84 hX hr) (bsX12_readUser_98 hX hr) (bsX12_readUser_105 hX hr) (bsX12_readUser_116 hX hr) (bsX12_readUser_123 hX hr) (bsX12_readUser_179 hX hr) (bsX12_readUser_181 hX hr) (bsX12_readUser_186 hX hr) (bsX12_readUser_211 hX hr) (bsX12_readUser_213 hX hr) as M ho hp ⟨rfl, rfl⟩)
