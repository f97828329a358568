/-! the model: acts, and what is asked of slots ahead -/
theorem nt_n {M : mM} {a : Nat} (h1 : a ≠ 158) (h2 : a ≠ 168) : (nt M).1 a = M.1 a := by
  have e : (ntA M).1 a = M.1 a := by
    unfold ntA
    split
    · rw [mset_n h1, rset_n h2]
    · rfl
  unfold nt ntC ntB
  rw [mset_n h1, rset_n h2, e]
theorem nt_158 {M : mM} {j : Nat} (h : j ≠ 20) : (nt M).1 158 j = M.1 158 j := by
  have e : (ntA M).1 158 j = M.1 158 j := by
    unfold ntA
    split
    · rw [mset_o h, rset_n (by decide)]
    · rfl
  unfold nt ntC ntB
  rw [mset_o h, rset_n (by decide), e]
theorem nt_2 {M : mM} : (nt M).2 = M.2 := by
  have e : (ntA M).2 = M.2 := by unfold ntA; split <;> rfl
  unfold nt ntC ntB
  exact e
theorem PM_nt {M : mM} (h : PM M) : PM (nt M) := PM_of h (nt_158 (by decide)) (nt_158 (by decide)) (nt_n (by decide) (by decide))
theorem PG_nt {M : mM} {b : Nat} (h : PG M 165 b) : PG (nt M) 165 b := by
  obtain ⟨h1, c, hc, e⟩ := h
  exact ⟨h1, c, hc, by rw [nt_n (by decide) (by decide)]; exact e⟩
def m_slot (M : mM) (n : Int32) : Int32 × mM := if wi n 1 99 = 0 then (-2, M) else sos (nt M) 165 n.toNatClampNeg
def pre_X12_slot (as : List mV) (M : mM) : Prop := ∃ c n, as = [.inr (.inr (12, c)), .inl n] ∧ MI M
def fn_X12_slot : List mV → mM → Option mV × mM
  | [.inr (.inr (_, c)), .inl n], M => (some (.inl (m_slot (m0 M) n).1), (m_slot (m0 M) n).2)
  | _, M => (none, M)
theorem ok_X12_slot (as : List mV) (M : mM) (h : pre_X12_slot as M) (_ : ∀ v ∈ as, okV v) : okR (fn_X12_slot as M).1 := by
  obtain ⟨c, n, rfl, -⟩ := h
  first | trivial | exact (by decide +kernel : kof 14 = 8)
theorem len_X12_slot (as : List mV) (M : mM) (h : pre_X12_slot as M) : (inL as).length ≤ 2 := by
  obtain ⟨c, n, rfl, -⟩ := h
  exact Nat.le_of_ble_eq_true rfl


theorem dX12_slot_0 : decode cX12_slot 0 = .ok (.aload_n 0, 1) := by decide +kernel
theorem dX12_slot_1 : decode cX12_slot 1 = .ok (.iconst 0, 1) := by decide +kernel
theorem dX12_slot_2 : decode cX12_slot 2 = .ok (.putfield 1, 3) := by decide +kernel
theorem dX12_slot_5 : decode cX12_slot 5 = .ok (.iload_n 1, 1) := by decide +kernel
theorem dX12_slot_6 : decode cX12_slot 6 = .ok (.i2l, 1) := by decide +kernel
theorem dX12_slot_7 : decode cX12_slot 7 = .ok (.lconst 1, 1) := by decide +kernel
theorem dX12_slot_8 : decode cX12_slot 8 = .ok (.ldc2_w 162, 3) := by decide +kernel
theorem dX12_slot_11 : decode cX12_slot 11 = .ok (.invokestatic 17, 3) := by decide +kernel
theorem dX12_slot_14 : decode cX12_slot 14 = .ok (.ifCond .ne 6, 3) := by decide +kernel
theorem dX12_slot_17 : decode cX12_slot 17 = .ok (.bipush (-2), 2) := by decide +kernel
theorem dX12_slot_19 : decode cX12_slot 19 = .ok (.ireturn, 1) := by decide +kernel
theorem dX12_slot_20 : decode cX12_slot 20 = .ok (.aload_n 0, 1) := by decide +kernel
theorem dX12_slot_21 : decode cX12_slot 21 = .ok (.invokevirtual 164, 3) := by decide +kernel
theorem dX12_slot_24 : decode cX12_slot 24 = .ok (.aload_n 0, 1) := by decide +kernel
theorem dX12_slot_25 : decode cX12_slot 25 = .ok (.aload_n 0, 1) := by decide +kernel
theorem dX12_slot_26 : decode cX12_slot 26 = .ok (.getfield 11, 3) := by decide +kernel
theorem dX12_slot_29 : decode cX12_slot 29 = .ok (.iload_n 1, 1) := by decide +kernel
theorem dX12_slot_30 : decode cX12_slot 30 = .ok (.invokevirtual 167, 3) := by decide +kernel
theorem dX12_slot_33 : decode cX12_slot 33 = .ok (.ireturn, 1) := by decide +kernel
theorem mk_X12_slot : MVk yX12_slot "FairBlocksModel" cX12_slot 2 (Option.some FieldType.int) 1 := ⟨w_872, w_870, w_871, w_13, rfl, by decide +kernel, by decide +kernel, by decide +kernel⟩
def BX12_slot_0 (G : Nat → KT) (Q : Option mV → mM → Prop) : KT := (s_aload 0 (s_iconst (0) (s_puti 12 0 (s_iload 1 (s_i2l (s_lconst 1 (s_lconst (99) (s_callS 3 pre_X12_in fn_X12_in (s_if (fun x => x = 0) ((s_iconst (-2) (s_iret Q))) (s_at G 20 [true, true]))))))))))
set_option maxRecDepth 4000 in
theorem bsX12_slot_0 {p : Program} {l : Launch} {e : Env} {s : State} {m : MethodId} {args : Array Value} {below : List Frame} {meth : Method} {c : Code} {D : va_G} {ca : Nat → ClassId} {ad : Nat → Nat} {A : Nat → Prop} {Q : Option mV → mM → Prop} (hX : CX p s m args meth c 2 cX12_slot "FairBlocksModel" D ca ad A) (hr : meth.sig.returnType = (Option.some FieldType.int)) : ∀ lv st M, BX12_slot_0 (Gd p l e (rmD 5) s m args below meth c 2 D ca ad A 0 0 (MQ below (QC D ca ad A Q) args s 0 0 A)) Q lv st M → Gd p l e (rmD 5) s m args below meth c 2 D ca ad A 0 0 (MQ below (QC D ca ad A Q) args s 0 0 A) 0 lv st M :=
  (sd_aload_n hX dX12_slot_0 rfl (sd_iconst hX dX12_slot_1 rfl (sd_puti hX fp_723 dX12_slot_2 (sd_iload_n hX dX12_slot_5 rfl (sd_i2l hX dX12_slot_6 (sd_lconst hX dX12_slot_7 rfl (sd_ldc2 hX w_873 dX12_slot_8 (sd_callS hX (ct_X12_in l) mk_X12_in w_825 ⟨⟨by decide, by decide⟩, by decide, by decide⟩ dX12_slot_11 (sd_if_ne hX dX12_slot_14 (by decide) sd_at (sd_bipush hX dX12_slot_17 rfl (sd_iret hX hr dX12_slot_19)))))))))))
def BX12_slot_20 (G : Nat → KT) (Q : Option mV → mM → Prop) : KT := (s_aload 0 (s_callV 12 0 pre_X12_note fn_X12_note (s_aload 0 (s_aload 0 (s_getr 12 13 (fun _ => 165) (s_iload 1 (s_callV 12 2 pre_X12_slotsOn fn_X12_slotsOn (s_iret Q))))))))
set_option maxRecDepth 4000 in
theorem bsX12_slot_20 {p : Program} {l : Launch} {e : Env} {s : State} {m : MethodId} {args : Array Value} {below : List Frame} {meth : Method} {c : Code} {D : va_G} {ca : Nat → ClassId} {ad : Nat → Nat} {A : Nat → Prop} {Q : Option mV → mM → Prop} (hX : CX p s m args meth c 2 cX12_slot "FairBlocksModel" D ca ad A) (hr : meth.sig.returnType = (Option.some FieldType.int)) : ∀ lv st M, BX12_slot_20 (Gd p l e (rmD 5) s m args below meth c 2 D ca ad A 0 0 (MQ below (QC D ca ad A Q) args s 0 0 A)) Q lv st M → Gd p l e (rmD 5) s m args below meth c 2 D ca ad A 0 0 (MQ below (QC D ca ad A Q) args s 0 0 A) 20 lv st M :=
  (sd_aload_n hX dX12_slot_20 rfl (sd_callV hX (kd := 12) rfl (by decide) (ct_X12_note l) mk_X12_note w_874 ⟨⟨by decide, by decide⟩, by decide, by decide⟩ dX12_slot_21 (sd_aload_n hX dX12_slot_24 rfl (sd_aload_n hX dX12_slot_25 rfl (sd_getr hX fl_739 (fun _ => rfl) (fun _ _ _ => by decide +kernel) dX12_slot_26 (sd_iload_n hX dX12_slot_29 rfl (sd_callV hX (kd := 12) rfl (by decide) (ct_X12_slotsOn l) mk_X12_slotsOn w_878 ⟨⟨by decide, by decide⟩, by decide, by decide⟩ dX12_slot_30 (sd_iret hX hr dX12_slot_33))))))))
set_option maxHeartbeats 400000 in
theorem pf_X12_slot (G : Nat → KT) (Q : Option mV → mM → Prop) (h0 : ∀ lv st M, BX12_slot_0 G Q lv st M → G 0 lv st M) (h20 : ∀ lv st M, BX12_slot_20 G Q lv st M → G 20 lv st M) (as : List mV) (M : mM) (ho : ∀ v ∈ as, okV v) (hp : pre_X12_slot as M) (hQ : Q (fn_X12_slot as M).1 (fn_X12_slot as M).2) : G 0 (inL as ++ List.replicate (2 - (inL as).length) none) [] M := by
  obtain ⟨c, n, rfl, hM⟩ := hp
  obtain rfl : c = 158 := k12 (ho (.inr (.inr (12, c))) (by simp))
  have hI := MI_0 hM
  have e : iL n.toInt64 1 99 = wi n 1 99 := iLw n 1 99
  simp only [fn_X12_slot, m_slot] at hQ
  (apply h0; simp only [BX12_slot_0, s_mth, s_mab, s_at, s_iconst, s_lconst, s_iload, s_lload, s_aload, s_istore, s_lstore, s_astore, s_iinc, s_bin, s_binG, s_un, s_lbin, s_lbinG, s_lsh, s_lcmp, s_i2l, s_l2i, s_dup, s_dup2, s_pop, s_if, s_icmp, s_geti, s_getl, s_getr, s_puti, s_putz, s_putl, s_iald, s_zald, s_iast, s_zast, s_aaldS, s_aaldU, s_gets, s_tald, s_tsw, tsw, s_iret, s_zret, s_lret, s_aret, s_vret, s_callV, s_callS, c1, nl1, keepL, csum, pushR, inL, List.getD_cons_zero, List.getD_cons_succ, List.set_cons_zero, List.set_cons_succ, List.cons_append, List.nil_append, List.append_nil, List.replicate, List.length_cons, List.length_nil, List.take_succ_cons, List.take_zero, List.drop_succ_cons, List.drop_zero, List.reverse_cons, List.reverse_nil, true_and, and_true, forall_const, not_true_eq_false, not_false_eq_true, false_implies, true_implies, implies_true, one0, m10, Nat.reduceAdd, Nat.reduceSub, Nat.reduceLeDiff, Nat.zero_add, Nat.add_zero, fn_X12_in, fn_X12_note, fn_X12_slotsOn])
  rw [show mset M 158 0 0 = m0 M from rfl, e]
  generalize m0 M = M0 at *
  refine ⟨⟨_, _, _, rfl⟩, fun h => ?_, fun h => ?_⟩
  · rw [if_pos h] at hQ; exact hQ
  · rw [if_neg h] at hQ
    obtain ⟨N, -, h1, rfl⟩ := wi_g (d := 1) (c := 99) rfl rfl (by decide) (by decide) h
    (apply h20; simp only [BX12_slot_20, s_mth, s_mab, s_at, s_iconst, s_lconst, s_iload, s_lload, s_aload, s_istore, s_lstore, s_astore, s_iinc, s_bin, s_binG, s_un, s_lbin, s_lbinG, s_lsh, s_lcmp, s_i2l, s_l2i, s_dup, s_dup2, s_pop, s_if, s_icmp, s_geti, s_getl, s_getr, s_puti, s_putz, s_putl, s_iald, s_zald, s_iast, s_zast, s_aaldS, s_aaldU, s_gets, s_tald, s_tsw, tsw, s_iret, s_zret, s_lret, s_aret, s_vret, s_callV, s_callS, c1, nl1, keepL, csum, pushR, inL, List.getD_cons_zero, List.getD_cons_succ, List.set_cons_zero, List.set_cons_succ, List.cons_append, List.nil_append, List.append_nil, List.replicate, List.length_cons, List.length_nil, List.take_succ_cons, List.take_zero, List.drop_succ_cons, List.drop_zero, List.reverse_cons, List.reverse_nil, true_and, and_true, forall_const, not_true_eq_false, not_false_eq_true, false_implies, true_implies, implies_true, one0, m10, Nat.reduceAdd, Nat.reduceSub, Nat.reduceLeDiff, Nat.zero_add, Nat.add_zero, fn_X12_in, fn_X12_note, fn_X12_slotsOn])
    exact ⟨⟨_, rfl, hI.2.1⟩, ⟨_, _, _, rfl, PM_nt hI.1.1, N, by omega, rfl, PG_le (PG_nt hI.1.2) (by omega)⟩, hQ⟩
theorem ct_X12_slot (l : Launch) : Con l yX12_slot cX12_slot 2 (Option.some FieldType.int) 5 pre_X12_slot fn_X12_slot := con_of (by decide +kernel) ok_X12_slot len_X12_slot (fun p e s m args below meth c D ca ad A as M hX hr hp ho => pf_X12_slot _ _ (bsX12_slot_0 hX hr) (bsX12_slot_20 hX hr) as M ho hp ⟨rfl, rfl⟩)
def m_turn (M : mM) (u : Int32) : Int32 × mM := if nu M u = 0 then (1 - (nt M).1 165 (10 * u.toNatClampNeg + 3), mset (nt M) 165 (10 * u.toNatClampNeg + 3) (1 - (nt M).1 165 (10 * u.toNatClampNeg + 3))) else (-1, M)
def pre_X12_turn (as : List mV) (M : mM) : Prop := ∃ c u, as = [.inr (.inr (12, c)), .inl u] ∧ MI M
def fn_X12_turn : List mV → mM → Option mV × mM
  | [.inr (.inr (_, c)), .inl u], M => (some (.inl (m_turn (m0 M) u).1), (m_turn (m0 M) u).2)
  | _, M => (none, M)
theorem ok_X12_turn (as : List mV) (M : mM) (h : pre_X12_turn as M) (_ : ∀ v ∈ as, okV v) : okR (fn_X12_turn as M).1 := by
  obtain ⟨c, u, rfl, -⟩ := h
  first | trivial | exact (by decide +kernel : kof 14 = 8)
theorem len_X12_turn (as : List mV) (M : mM) (h : pre_X12_turn as M) : (inL as).length ≤ 2 := by
  obtain ⟨c, u, rfl, -⟩ := h
  exact Nat.le_of_ble_eq_true rfl


theorem dX12_turn_0 : decode cX12_turn 0 = .ok (.aload_n 0, 1) := by decide +kernel
theorem dX12_turn_1 : decode cX12_turn 1 = .ok (.iconst 0, 1) := by decide +kernel
theorem dX12_turn_2 : decode cX12_turn 2 = .ok (.putfield 1, 3) := by decide +kernel
theorem dX12_turn_5 : decode cX12_turn 5 = .ok (.aload_n 0, 1) := by decide +kernel
theorem dX12_turn_6 : decode cX12_turn 6 = .ok (.iload_n 1, 1) := by decide +kernel
theorem dX12_turn_7 : decode cX12_turn 7 = .ok (.invokevirtual 156, 3) := by decide +kernel
theorem dX12_turn_10 : decode cX12_turn 10 = .ok (.ifCond .eq 5, 3) := by decide +kernel
theorem dX12_turn_13 : decode cX12_turn 13 = .ok (.iconst (-1), 1) := by decide +kernel
theorem dX12_turn_14 : decode cX12_turn 14 = .ok (.ireturn, 1) := by decide +kernel
theorem dX12_turn_15 : decode cX12_turn 15 = .ok (.aload_n 0, 1) := by decide +kernel
theorem dX12_turn_16 : decode cX12_turn 16 = .ok (.invokevirtual 164, 3) := by decide +kernel
theorem dX12_turn_19 : decode cX12_turn 19 = .ok (.aload_n 0, 1) := by decide +kernel
theorem dX12_turn_20 : decode cX12_turn 20 = .ok (.getfield 11, 3) := by decide +kernel
theorem dX12_turn_23 : decode cX12_turn 23 = .ok (.bipush 10, 2) := by decide +kernel
theorem dX12_turn_25 : decode cX12_turn 25 = .ok (.iload_n 1, 1) := by decide +kernel
theorem dX12_turn_26 : decode cX12_turn 26 = .ok (.imul, 1) := by decide +kernel
theorem dX12_turn_27 : decode cX12_turn 27 = .ok (.iconst 3, 1) := by decide +kernel
theorem dX12_turn_28 : decode cX12_turn 28 = .ok (.iadd, 1) := by decide +kernel
theorem dX12_turn_29 : decode cX12_turn 29 = .ok (.iconst 1, 1) := by decide +kernel
theorem dX12_turn_30 : decode cX12_turn 30 = .ok (.aload_n 0, 1) := by decide +kernel
theorem dX12_turn_31 : decode cX12_turn 31 = .ok (.getfield 11, 3) := by decide +kernel
theorem dX12_turn_34 : decode cX12_turn 34 = .ok (.bipush 10, 2) := by decide +kernel
theorem dX12_turn_36 : decode cX12_turn 36 = .ok (.iload_n 1, 1) := by decide +kernel
theorem dX12_turn_37 : decode cX12_turn 37 = .ok (.imul, 1) := by decide +kernel
theorem dX12_turn_38 : decode cX12_turn 38 = .ok (.iconst 3, 1) := by decide +kernel
theorem dX12_turn_39 : decode cX12_turn 39 = .ok (.iadd, 1) := by decide +kernel
theorem dX12_turn_40 : decode cX12_turn 40 = .ok (.iaload, 1) := by decide +kernel
theorem dX12_turn_41 : decode cX12_turn 41 = .ok (.isub, 1) := by decide +kernel
theorem dX12_turn_42 : decode cX12_turn 42 = .ok (.iastore, 1) := by decide +kernel
theorem dX12_turn_43 : decode cX12_turn 43 = .ok (.aload_n 0, 1) := by decide +kernel
theorem dX12_turn_44 : decode cX12_turn 44 = .ok (.getfield 11, 3) := by decide +kernel
theorem dX12_turn_47 : decode cX12_turn 47 = .ok (.bipush 10, 2) := by decide +kernel
theorem dX12_turn_49 : decode cX12_turn 49 = .ok (.iload_n 1, 1) := by decide +kernel
theorem dX12_turn_50 : decode cX12_turn 50 = .ok (.imul, 1) := by decide +kernel
theorem dX12_turn_51 : decode cX12_turn 51 = .ok (.iconst 3, 1) := by decide +kernel
theorem dX12_turn_52 : decode cX12_turn 52 = .ok (.iadd, 1) := by decide +kernel
theorem dX12_turn_53 : decode cX12_turn 53 = .ok (.iaload, 1) := by decide +kernel
theorem dX12_turn_54 : decode cX12_turn 54 = .ok (.ireturn, 1) := by decide +kernel
theorem mk_X12_turn : MVk yX12_turn "FairBlocksModel" cX12_turn 2 (Option.some FieldType.int) 1 := ⟨w_916, w_914, w_915, w_13, rfl, by decide +kernel, by decide +kernel, by decide +kernel⟩
def BX12_turn_0 (G : Nat → KT) (Q : Option mV → mM → Prop) : KT := (s_aload 0 (s_iconst (0) (s_puti 12 0 (s_aload 0 (s_iload 1 (s_callV 12 1 pre_X12_noUser fn_X12_noUser (s_if (fun x => x = 0) (s_at G 15 [true, true]) (s_iconst (-1) (s_iret Q)))))))))
set_option maxRecDepth 4000 in
theorem bsX12_turn_0 {p : Program} {l : Launch} {e : Env} {s : State} {m : MethodId} {args : Array Value} {below : List Frame} {meth : Method} {c : Code} {D : va_G} {ca : Nat → ClassId} {ad : Nat → Nat} {A : Nat → Prop} {Q : Option mV → mM → Prop} (hX : CX p s m args meth c 2 cX12_turn "FairBlocksModel" D ca ad A) (hr : meth.sig.returnType = (Option.some FieldType.int)) : ∀ lv st M, BX12_turn_0 (Gd p l e (rmD 2) s m args below meth c 2 D ca ad A 0 0 (MQ below (QC D ca ad A Q) args s 0 0 A)) Q lv st M → Gd p l e (rmD 2) s m args below meth c 2 D ca ad A 0 0 (MQ below (QC D ca ad A Q) args s 0 0 A) 0 lv st M :=
  (sd_aload_n hX dX12_turn_0 rfl (sd_iconst hX dX12_turn_1 rfl (sd_puti hX fp_723 dX12_turn_2 (sd_aload_n hX dX12_turn_5 rfl (sd_iload_n hX dX12_turn_6 rfl (sd_callV hX (kd := 12) rfl (by decide) (ct_X12_noUser l) mk_X12_noUser w_860 ⟨⟨by decide, by decide⟩, by decide, by decide⟩ dX12_turn_7 (sd_if_eq hX dX12_turn_10 (by decide) sd_at (sd_iconst hX dX12_turn_13 rfl (sd_iret hX hr dX12_turn_14)))))))))
def BX12_turn_15 (G : Nat → KT) (Q : Option mV → mM → Prop) : KT := (s_aload 0 (s_callV 12 0 pre_X12_note fn_X12_note (s_aload 0 (s_getr 12 13 (fun _ => 165) (s_iconst (10) (s_iload 1 (s_bin (fun x y => x * y) (s_iconst (3) (s_bin (fun x y => x + y) (s_iconst (1) (s_aload 0 (s_getr 12 13 (fun _ => 165) (s_iconst (10) (s_iload 1 (s_bin (fun x y => x * y) (s_iconst (3) (s_bin (fun x y => x + y) (s_iald (s_bin (fun x y => x - y) (s_iast (s_aload 0 (s_getr 12 13 (fun _ => 165) (s_iconst (10) (s_iload 1 (s_bin (fun x y => x * y) (s_iconst (3) (s_bin (fun x y => x + y) (s_iald (s_iret Q)))))))))))))))))))))))))))))
set_option maxRecDepth 4000 in
theorem bsX12_turn_15 {p : Program} {l : Launch} {e : Env} {s : State} {m : MethodId} {args : Array Value} {below : List Frame} {meth : Method} {c : Code} {D : va_G} {ca : Nat → ClassId} {ad : Nat → Nat} {A : Nat → Prop} {Q : Option mV → mM → Prop} (hX : CX p s m args meth c 2 cX12_turn "FairBlocksModel" D ca ad A) (hr : meth.sig.returnType = (Option.some FieldType.int)) : ∀ lv st M, BX12_turn_15 (Gd p l e (rmD 2) s m args below meth c 2 D ca ad A 0 0 (MQ below (QC D ca ad A Q) args s 0 0 A)) Q lv st M → Gd p l e (rmD 2) s m args below meth c 2 D ca ad A 0 0 (MQ below (QC D ca ad A Q) args s 0 0 A) 15 lv st M :=
  (sd_aload_n hX dX12_turn_15 rfl (sd_callV hX (kd := 12) rfl (by decide) (ct_X12_note l) mk_X12_note w_874 ⟨⟨by decide, by decide⟩, by decide, by decide⟩ dX12_turn_16 (sd_aload_n hX dX12_turn_19 rfl (sd_getr hX fl_739 (fun _ => rfl) (fun _ _ _ => by decide +kernel) dX12_turn_20 (sd_bipush hX dX12_turn_23 rfl (sd_iload_n hX dX12_turn_25 rfl (sd_imul hX dX12_turn_26 (sd_iconst hX dX12_turn_27 rfl (sd_iadd hX dX12_turn_28 (sd_iconst hX dX12_turn_29 rfl (sd_aload_n hX dX12_turn_30 rfl (sd_getr hX fl_739 (fun _ => rfl) (fun _ _ _ => by decide +kernel) dX12_turn_31 (sd_bipush hX dX12_turn_34 rfl (sd_iload_n hX dX12_turn_36 rfl (sd_imul hX dX12_turn_37 (sd_iconst hX dX12_turn_38 rfl (sd_iadd hX dX12_turn_39 (sd_iald hX dX12_turn_40 (sd_isub hX dX12_turn_41 (sd_iast hX dX12_turn_42 (sd_aload_n hX dX12_turn_43 rfl (sd_getr hX fl_739 (fun _ => rfl) (fun _ _ _ => by decide +kernel) dX12_turn_44 (sd_bipush hX dX12_turn_47 rfl (sd_iload_n hX dX12_turn_49 rfl (sd_imul hX dX12_turn_50 (sd_iconst hX dX12_turn_51 rfl (sd_iadd hX dX12_turn_52 (sd_iald hX dX12_turn_53 (sd_iret hX hr dX12_turn_54)))))))))))))))))))))))))))))
set_option maxHeartbeats 400000 in
theorem pf_X12_turn (G : Nat → KT) (Q : Option mV → mM → Prop) (h0 : ∀ lv st M, BX12_turn_0 G Q lv st M → G 0 lv st M) (h15 : ∀ lv st M, BX12_turn_15 G Q lv st M → G 15 lv st M) (as : List mV) (M : mM) (ho : ∀ v ∈ as, okV v) (hp : pre_X12_turn as M) (hQ : Q (fn_X12_turn as M).1 (fn_X12_turn as M).2) : G 0 (inL as ++ List.replicate (2 - (inL as).length) none) [] M := by
  obtain ⟨c, u, rfl, hM⟩ := hp
  obtain rfl : c = 158 := k12 (ho (.inr (.inr (12, c))) (by simp))
  have hI := MI_0 hM
  simp only [fn_X12_turn, m_turn] at hQ
  (apply h0; simp only [BX12_turn_0, s_mth, s_mab, s_at, s_iconst, s_lconst, s_iload, s_lload, s_aload, s_istore, s_lstore, s_astore, s_iinc, s_bin, s_binG, s_un, s_lbin, s_lbinG, s_lsh, s_lcmp, s_i2l, s_l2i, s_dup, s_dup2, s_pop, s_if, s_icmp, s_geti, s_getl, s_getr, s_puti, s_putz, s_putl, s_iald, s_zald, s_iast, s_zast, s_aaldS, s_aaldU, s_gets, s_tald, s_tsw, tsw, s_iret, s_zret, s_lret, s_aret, s_vret, s_callV, s_callS, c1, nl1, keepL, csum, pushR, inL, List.getD_cons_zero, List.getD_cons_succ, List.set_cons_zero, List.set_cons_succ, List.cons_append, List.nil_append, List.append_nil, List.replicate, List.length_cons, List.length_nil, List.take_succ_cons, List.take_zero, List.drop_succ_cons, List.drop_zero, List.reverse_cons, List.reverse_nil, true_and, and_true, forall_const, not_true_eq_false, not_false_eq_true, false_implies, true_implies, implies_true, one0, m10, Nat.reduceAdd, Nat.reduceSub, Nat.reduceLeDiff, Nat.zero_add, Nat.add_zero, fn_X12_noUser, fn_X12_note])
  rw [show mset M 158 0 0 = m0 M from rfl]
  generalize m0 M = M0 at *
  refine ⟨⟨_, _, rfl⟩, fun h => ?_, fun h => ?_⟩
  · rw [if_pos h] at hQ
    obtain ⟨j, hj, rfl⟩ := nu_u hI.1.1 h
    have hn := (nM_e hI.1.1).1
    have hj5 : j < 5 := by omega
    rw [nI_clamp (by omega : j < 2 ^ 31)] at hQ
    have x0 : ((10 : Int32) * nI j + 0).toNatClampNeg = 10 * j + 0 := cx hj5 0 (by decide)
    have v0 : vp_in ((10 : Int32) * nI j + 0) 52 := vx hj5 0 (by decide)
    have x1 : ((10 : Int32) * nI j + 1).toNatClampNeg = 10 * j + 1 := cx hj5 1 (by decide)
    have v1 : vp_in ((10 : Int32) * nI j + 1) 52 := vx hj5 1 (by decide)
    have x2 : ((10 : Int32) * nI j + 2).toNatClampNeg = 10 * j + 2 := cx hj5 2 (by decide)
    have v2 : vp_in ((10 : Int32) * nI j + 2) 52 := vx hj5 2 (by decide)
    have x3 : ((10 : Int32) * nI j + 3).toNatClampNeg = 10 * j + 3 := cx hj5 3 (by decide)
    have v3 : vp_in ((10 : Int32) * nI j + 3) 52 := vx hj5 3 (by decide)
    have x4 : ((10 : Int32) * nI j + 4).toNatClampNeg = 10 * j + 4 := cx hj5 4 (by decide)
    have v4 : vp_in ((10 : Int32) * nI j + 4) 52 := vx hj5 4 (by decide)
    have x5 : ((10 : Int32) * nI j + 5).toNatClampNeg = 10 * j + 5 := cx hj5 5 (by decide)
    have v5 : vp_in ((10 : Int32) * nI j + 5) 52 := vx hj5 5 (by decide)
    have x6 : ((10 : Int32) * nI j + 6).toNatClampNeg = 10 * j + 6 := cx hj5 6 (by decide)
    have v6 : vp_in ((10 : Int32) * nI j + 6) 52 := vx hj5 6 (by decide)
    have x7 : ((10 : Int32) * nI j + 7).toNatClampNeg = 10 * j + 7 := cx hj5 7 (by decide)
    have v7 : vp_in ((10 : Int32) * nI j + 7) 52 := vx hj5 7 (by decide)
    have x8 : ((10 : Int32) * nI j + 8).toNatClampNeg = 10 * j + 8 := cx hj5 8 (by decide)
    have v8 : vp_in ((10 : Int32) * nI j + 8) 52 := vx hj5 8 (by decide)
    have x9 : ((10 : Int32) * nI j + 9).toNatClampNeg = 10 * j + 9 := cx hj5 9 (by decide)
    have v9 : vp_in ((10 : Int32) * nI j + 9) 52 := vx hj5 9 (by decide)
    (apply h15; simp only [BX12_turn_15, s_mth, s_mab, s_at, s_iconst, s_lconst, s_iload, s_lload, s_aload, s_istore, s_lstore, s_astore, s_iinc, s_bin, s_binG, s_un, s_lbin, s_lbinG, s_lsh, s_lcmp, s_i2l, s_l2i, s_dup, s_dup2, s_pop, s_if, s_icmp, s_geti, s_getl, s_getr, s_puti, s_putz, s_putl, s_iald, s_zald, s_iast, s_zast, s_aaldS, s_aaldU, s_gets, s_tald, s_tsw, tsw, s_iret, s_zret, s_lret, s_aret, s_vret, s_callV, s_callS, c1, nl1, keepL, csum, pushR, inL, List.getD_cons_zero, List.getD_cons_succ, List.set_cons_zero, List.set_cons_succ, List.cons_append, List.nil_append, List.append_nil, List.replicate, List.length_cons, List.length_nil, List.take_succ_cons, List.take_zero, List.drop_succ_cons, List.drop_zero, List.reverse_cons, List.reverse_nil, true_and, and_true, forall_const, not_true_eq_false, not_false_eq_true, false_implies, true_implies, implies_true, one0, m10, Nat.reduceAdd, Nat.reduceSub, Nat.reduceLeDiff, Nat.zero_add, Nat.add_zero, fn_X12_noUser, fn_X12_note])
    simp only [lM, x3, mset_s]
    exact ⟨⟨_, rfl, hI.2.1⟩, v3, v3, v3, hQ⟩
  · rw [if_neg h] at hQ; exact hQ
theorem ct_X12_turn (l : Launch) : Con l yX12_turn cX12_turn 2 (Option.some FieldType.int) 2 pre_X12_turn fn_X12_turn := con_of (by decide +kernel) ok_X12_turn len_X12_turn (fun p e s m args below meth c D ca ad A as M hX hr hp ho => pf_X12_turn _ _ (bsX12_turn_0 hX hr) (bsX12_turn_15 hX hr) as M ho hp ⟨rfl, rfl⟩)
def m_drop (M : mM) (u : Int32) : Int32 × mM := if nu M u = 0 then ((nt M).1 165 (10 * u.toNatClampNeg + 4) + (nt M).1 165 (10 * u.toNatClampNeg + 5), mset (mset (nt M) 165 (10 * u.toNatClampNeg + 4) 0) 165 (10 * u.toNatClampNeg + 5) 0) else (-1, M)
def pre_X12_drop (as : List mV) (M : mM) : Prop := ∃ c u, as = [.inr (.inr (12, c)), .inl u] ∧ MI M
def fn_X12_drop : List mV → mM → Option mV × mM
  | [.inr (.inr (_, c)), .inl u], M => (some (.inl (m_drop (m0 M) u).1), (m_drop (m0 M) u).2)
  | _, M => (none, M)
theorem ok_X12_drop (as : List mV) (M : mM) (h : pre_X12_drop as M) (_ : ∀ v ∈ as, okV v) : okR (fn_X12_drop as M).1 := by
  obtain ⟨c, u, rfl, -⟩ := h
  first | trivial | exact (by decide +kernel : kof 14 = 8)
theorem len_X12_drop (as : List mV) (M : mM) (h : pre_X12_drop as M) : (inL as).length ≤ 3 := by
  obtain ⟨c, u, rfl, -⟩ := h
  exact Nat.le_of_ble_eq_true rfl


theorem dX12_drop_0 : decode cX12_drop 0 = .ok (.aload_n 0, 1) := by decide +kernel
theorem dX12_drop_1 : decode cX12_drop 1 = .ok (.iconst 0, 1) := by decide +kernel
theorem dX12_drop_2 : decode cX12_drop 2 = .ok (.putfield 1, 3) := by decide +kernel
theorem dX12_drop_5 : decode cX12_drop 5 = .ok (.aload_n 0, 1) := by decide +kernel
theorem dX12_drop_6 : decode cX12_drop 6 = .ok (.iload_n 1, 1) := by decide +kernel
theorem dX12_drop_7 : decode cX12_drop 7 = .ok (.invokevirtual 156, 3) := by decide +kernel
theorem dX12_drop_10 : decode cX12_drop 10 = .ok (.ifCond .eq 5, 3) := by decide +kernel
theorem dX12_drop_13 : decode cX12_drop 13 = .ok (.iconst (-1), 1) := by decide +kernel
theorem dX12_drop_14 : decode cX12_drop 14 = .ok (.ireturn, 1) := by decide +kernel
theorem dX12_drop_15 : decode cX12_drop 15 = .ok (.aload_n 0, 1) := by decide +kernel
theorem dX12_drop_16 : decode cX12_drop 16 = .ok (.invokevirtual 164, 3) := by decide +kernel
theorem dX12_drop_19 : decode cX12_drop 19 = .ok (.aload_n 0, 1) := by decide +kernel
theorem dX12_drop_20 : decode cX12_drop 20 = .ok (.getfield 11, 3) := by decide +kernel
theorem dX12_drop_23 : decode cX12_drop 23 = .ok (.bipush 10, 2) := by decide +kernel
theorem dX12_drop_25 : decode cX12_drop 25 = .ok (.iload_n 1, 1) := by decide +kernel
theorem dX12_drop_26 : decode cX12_drop 26 = .ok (.imul, 1) := by decide +kernel
theorem dX12_drop_27 : decode cX12_drop 27 = .ok (.iconst 4, 1) := by decide +kernel
theorem dX12_drop_28 : decode cX12_drop 28 = .ok (.iadd, 1) := by decide +kernel
theorem dX12_drop_29 : decode cX12_drop 29 = .ok (.iaload, 1) := by decide +kernel
theorem dX12_drop_30 : decode cX12_drop 30 = .ok (.aload_n 0, 1) := by decide +kernel
theorem dX12_drop_31 : decode cX12_drop 31 = .ok (.getfield 11, 3) := by decide +kernel
theorem dX12_drop_34 : decode cX12_drop 34 = .ok (.bipush 10, 2) := by decide +kernel
theorem dX12_drop_36 : decode cX12_drop 36 = .ok (.iload_n 1, 1) := by decide +kernel
theorem dX12_drop_37 : decode cX12_drop 37 = .ok (.imul, 1) := by decide +kernel
theorem dX12_drop_38 : decode cX12_drop 38 = .ok (.iconst 5, 1) := by decide +kernel
theorem dX12_drop_39 : decode cX12_drop 39 = .ok (.iadd, 1) := by decide +kernel
theorem dX12_drop_40 : decode cX12_drop 40 = .ok (.iaload, 1) := by decide +kernel
theorem dX12_drop_41 : decode cX12_drop 41 = .ok (.iadd, 1) := by decide +kernel
theorem dX12_drop_42 : decode cX12_drop 42 = .ok (.istore_n 2, 1) := by decide +kernel
theorem dX12_drop_43 : decode cX12_drop 43 = .ok (.aload_n 0, 1) := by decide +kernel
theorem dX12_drop_44 : decode cX12_drop 44 = .ok (.getfield 11, 3) := by decide +kernel
theorem dX12_drop_47 : decode cX12_drop 47 = .ok (.bipush 10, 2) := by decide +kernel
theorem dX12_drop_49 : decode cX12_drop 49 = .ok (.iload_n 1, 1) := by decide +kernel
theorem dX12_drop_50 : decode cX12_drop 50 = .ok (.imul, 1) := by decide +kernel
theorem dX12_drop_51 : decode cX12_drop 51 = .ok (.iconst 4, 1) := by decide +kernel
theorem dX12_drop_52 : decode cX12_drop 52 = .ok (.iadd, 1) := by decide +kernel
theorem dX12_drop_53 : decode cX12_drop 53 = .ok (.iconst 0, 1) := by decide +kernel
theorem dX12_drop_54 : decode cX12_drop 54 = .ok (.iastore, 1) := by decide +kernel
theorem dX12_drop_55 : decode cX12_drop 55 = .ok (.aload_n 0, 1) := by decide +kernel
theorem dX12_drop_56 : decode cX12_drop 56 = .ok (.getfield 11, 3) := by decide +kernel
theorem dX12_drop_59 : decode cX12_drop 59 = .ok (.bipush 10, 2) := by decide +kernel
theorem dX12_drop_61 : decode cX12_drop 61 = .ok (.iload_n 1, 1) := by decide +kernel
theorem dX12_drop_62 : decode cX12_drop 62 = .ok (.imul, 1) := by decide +kernel
theorem dX12_drop_63 : decode cX12_drop 63 = .ok (.iconst 5, 1) := by decide +kernel
theorem dX12_drop_64 : decode cX12_drop 64 = .ok (.iadd, 1) := by decide +kernel
theorem dX12_drop_65 : decode cX12_drop 65 = .ok (.iconst 0, 1) := by decide +kernel
theorem dX12_drop_66 : decode cX12_drop 66 = .ok (.iastore, 1) := by decide +kernel
theorem dX12_drop_67 : decode cX12_drop 67 = .ok (.iload_n 2, 1) := by decide +kernel
theorem dX12_drop_68 : decode cX12_drop 68 = .ok (.ireturn, 1) := by decide +kernel
theorem mk_X12_drop : MVk yX12_drop "FairBlocksModel" cX12_drop 3 (Option.some FieldType.int) 1 := ⟨w_920, w_918, w_919, w_13, rfl, by decide +kernel, by decide +kernel, by decide +kernel⟩
def BX12_drop_0 (G : Nat → KT) (Q : Option mV → mM → Prop) : KT := (s_aload 0 (s_iconst (0) (s_puti 12 0 (s_aload 0 (s_iload 1 (s_callV 12 1 pre_X12_noUser fn_X12_noUser (s_if (fun x => x = 0) (s_at G 15 [true, true, false]) (s_iconst (-1) (s_iret Q)))))))))
set_option maxRecDepth 4000 in
theorem bsX12_drop_0 {p : Program} {l : Launch} {e : Env} {s : State} {m : MethodId} {args : Array Value} {below : List Frame} {meth : Method} {c : Code} {D : va_G} {ca : Nat → ClassId} {ad : Nat → Nat} {A : Nat → Prop} {Q : Option mV → mM → Prop} (hX : CX p s m args meth c 3 cX12_drop "FairBlocksModel" D ca ad A) (hr : meth.sig.returnType = (Option.some FieldType.int)) : ∀ lv st M, BX12_drop_0 (Gd p l e (rmD 2) s m args below meth c 3 D ca ad A 0 0 (MQ below (QC D ca ad A Q) args s 0 0 A)) Q lv st M → Gd p l e (rmD 2) s m args below meth c 3 D ca ad A 0 0 (MQ below (QC D ca ad A Q) args s 0 0 A) 0 lv st M :=
  (sd_aload_n hX dX12_drop_0 rfl (sd_iconst hX dX12_drop_1 rfl (sd_puti hX fp_723 dX12_drop_2 (sd_aload_n hX dX12_drop_5 rfl (sd_iload_n hX dX12_drop_6 rfl (sd_callV hX (kd := 12) rfl (by decide) (ct_X12_noUser l) mk_X12_noUser w_860 ⟨⟨by decide, by decide⟩, by decide, by decide⟩ dX12_drop_7 (sd_if_eq hX dX12_drop_10 (by decide) sd_at (sd_iconst hX dX12_drop_13 rfl (sd_iret hX hr dX12_drop_14)))))))))
def BX12_drop_15 (G : Nat → KT) (Q : Option mV → mM → Prop) : KT := (s_aload 0 (s_callV 12 0 pre_X12_note fn_X12_note (s_aload 0 (s_getr 12 13 (fun _ => 165) (s_iconst (10) (s_iload 1 (s_bin (fun x y => x * y) (s_iconst (4) (s_bin (fun x y => x + y) (s_iald (s_aload 0 (s_getr 12 13 (fun _ => 165) (s_iconst (10) (s_iload 1 (s_bin (fun x y => x * y) (s_iconst (5) (s_bin (fun x y => x + y) (s_iald (s_bin (fun x y => x + y) (s_istore 2 (s_aload 0 (s_getr 12 13 (fun _ => 165) (s_iconst (10) (s_iload 1 (s_bin (fun x y => x * y) (s_iconst (4) (s_bin (fun x y => x + y) (s_iconst (0) (s_iast (s_aload 0 (s_getr 12 13 (fun _ => 165) (s_iconst (10) (s_iload 1 (s_bin (fun x y => x * y) (s_iconst (5) (s_bin (fun x y => x + y) (s_iconst (0) (s_iast (s_iload 2 (s_iret Q))))))))))))))))))))))))))))))))))))))))
set_option maxRecDepth 4000 in
theorem bsX12_drop_15 {p : Program} {l : Launch} {e : Env} {s : State} {m : MethodId} {args : Array Value} {below : List Frame} {meth : Method} {c : Code} {D : va_G} {ca : Nat → ClassId} {ad : Nat → Nat} {A : Nat → Prop} {Q : Option mV → mM → Prop} (hX : CX p s m args meth c 3 cX12_drop "FairBlocksModel" D ca ad A) (hr : meth.sig.returnType = (Option.some FieldType.int)) : ∀ lv st M, BX12_drop_15 (Gd p l e (rmD 2) s m args below meth c 3 D ca ad A 0 0 (MQ below (QC D ca ad A Q) args s 0 0 A)) Q lv st M → Gd p l e (rmD 2) s m args below meth c 3 D ca ad A 0 0 (MQ below (QC D ca ad A Q) args s 0 0 A) 15 lv st M :=
  (sd_aload_n hX dX12_drop_15 rfl (sd_callV hX (kd := 12) rfl (by decide) (ct_X12_note l) mk_X12_note w_874 ⟨⟨by decide, by decide⟩, by decide, by decide⟩ dX12_drop_16 (sd_aload_n hX dX12_drop_19 rfl (sd_getr hX fl_739 (fun _ => rfl) (fun _ _ _ => by decide +kernel) dX12_drop_20 (sd_bipush hX dX12_drop_23 rfl (sd_iload_n hX dX12_drop_25 rfl (sd_imul hX dX12_drop_26 (sd_iconst hX dX12_drop_27 rfl (sd_iadd hX dX12_drop_28 (sd_iald hX dX12_drop_29 (sd_aload_n hX dX12_drop_30 rfl (sd_getr hX fl_739 (fun _ => rfl) (fun _ _ _ => by decide +kernel) dX12_drop_31 (sd_bipush hX dX12_drop_34 rfl (sd_iload_n hX dX12_drop_36 rfl (sd_imul hX dX12_drop_37 (sd_iconst hX dX12_drop_38 rfl (sd_iadd hX dX12_drop_39 (sd_iald hX dX12_drop_40 (sd_iadd hX dX12_drop_41 (sd_istore_n hX (by decide) dX12_drop_42 rfl (sd_aload_n hX dX12_drop_43 rfl (sd_getr hX fl_739 (fun _ => rfl) (fun _ _ _ => by decide +kernel) dX12_drop_44 (sd_bipush hX dX12_drop_47 rfl (sd_iload_n hX dX12_drop_49 rfl (sd_imul hX dX12_drop_50 (sd_iconst hX dX12_drop_51 rfl (sd_iadd hX dX12_drop_52 (sd_iconst hX dX12_drop_53 rfl (sd_iast hX dX12_drop_54 (sd_aload_n hX dX12_drop_55 rfl (sd_getr hX fl_739 (fun _ => rfl) (fun _ _ _ => by decide +kernel) dX12_drop_56 (sd_bipush hX dX12_drop_59 rfl (sd_iload_n hX dX12_drop_61 rfl (sd_imul hX dX12_drop_62 (sd_iconst hX dX12_drop_63 rfl (sd_iadd hX dX12_drop_64 (sd_iconst hX dX12_drop_65 rfl (sd_iast hX dX12_drop_66 (sd_iload_n hX dX12_drop_67 rfl (sd_iret hX hr dX12_drop_68))))))))))))))))))))))))))))))))))))))))
set_option maxHeartbeats 400000 in
theorem pf_X12_drop (G : Nat → KT) (Q : Option mV → mM → Prop) (h0 : ∀ lv st M, BX12_drop_0 G Q lv st M → G 0 lv st M) (h15 : ∀ lv st M, BX12_drop_15 G Q lv st M → G 15 lv st M) (as : List mV) (M : mM) (ho : ∀ v ∈ as, okV v) (hp : pre_X12_drop as M) (hQ : Q (fn_X12_drop as M).1 (fn_X12_drop as M).2) : G 0 (inL as ++ List.replicate (3 - (inL as).length) none) [] M := by
  obtain ⟨c, u, rfl, hM⟩ := hp
  obtain rfl : c = 158 := k12 (ho (.inr (.inr (12, c))) (by simp))
  have hI := MI_0 hM
  simp only [fn_X12_drop, m_drop] at hQ
  (apply h0; simp only [BX12_drop_0, s_mth, s_mab, s_at, s_iconst, s_lconst, s_iload, s_lload, s_aload, s_istore, s_lstore, s_astore, s_iinc, s_bin, s_binG, s_un, s_lbin, s_lbinG, s_lsh, s_lcmp, s_i2l, s_l2i, s_dup, s_dup2, s_pop, s_if, s_icmp, s_geti, s_getl, s_getr, s_puti, s_putz, s_putl, s_iald, s_zald, s_iast, s_zast, s_aaldS, s_aaldU, s_gets, s_tald, s_tsw, tsw, s_iret, s_zret, s_lret, s_aret, s_vret, s_callV, s_callS, c1, nl1, keepL, csum, pushR, inL, List.getD_cons_zero, List.getD_cons_succ, List.set_cons_zero, List.set_cons_succ, List.cons_append, List.nil_append, List.append_nil, List.replicate, List.length_cons, List.length_nil, List.take_succ_cons, List.take_zero, List.drop_succ_cons, List.drop_zero, List.reverse_cons, List.reverse_nil, true_and, and_true, forall_const, not_true_eq_false, not_false_eq_true, false_implies, true_implies, implies_true, one0, m10, Nat.reduceAdd, Nat.reduceSub, Nat.reduceLeDiff, Nat.zero_add, Nat.add_zero, fn_X12_noUser, fn_X12_note])
  rw [show mset M 158 0 0 = m0 M from rfl]
  generalize m0 M = M0 at *
  refine ⟨⟨_, _, rfl⟩, fun h => ?_, fun h => ?_⟩
  · rw [if_pos h] at hQ
    obtain ⟨j, hj, rfl⟩ := nu_u hI.1.1 h
    have hn := (nM_e hI.1.1).1
    have hj5 : j < 5 := by omega
    rw [nI_clamp (by omega : j < 2 ^ 31)] at hQ
    have x0 : ((10 : Int32) * nI j + 0).toNatClampNeg = 10 * j + 0 := cx hj5 0 (by decide)
    have v0 : vp_in ((10 : Int32) * nI j + 0) 52 := vx hj5 0 (by decide)
    have x1 : ((10 : Int32) * nI j + 1).toNatClampNeg = 10 * j + 1 := cx hj5 1 (by decide)
    have v1 : vp_in ((10 : Int32) * nI j + 1) 52 := vx hj5 1 (by decide)
    have x2 : ((10 : Int32) * nI j + 2).toNatClampNeg = 10 * j + 2 := cx hj5 2 (by decide)
    have v2 : vp_in ((10 : Int32) * nI j + 2) 52 := vx hj5 2 (by decide)
    have x3 : ((10 : Int32) * nI j + 3).toNatClampNeg = 10 * j + 3 := cx hj5 3 (by decide)
    have v3 : vp_in ((10 : Int32) * nI j + 3) 52 := vx hj5 3 (by decide)
    have x4 : ((10 : Int32) * nI j + 4).toNatClampNeg = 10 * j + 4 := cx hj5 4 (by decide)
    have v4 : vp_in ((10 : Int32) * nI j + 4) 52 := vx hj5 4 (by decide)
    have x5 : ((10 : Int32) * nI j + 5).toNatClampNeg = 10 * j + 5 := cx hj5 5 (by decide)
    have v5 : vp_in ((10 : Int32) * nI j + 5) 52 := vx hj5 5 (by decide)
    have x6 : ((10 : Int32) * nI j + 6).toNatClampNeg = 10 * j + 6 := cx hj5 6 (by decide)
    have v6 : vp_in ((10 : Int32) * nI j + 6) 52 := vx hj5 6 (by decide)
    have x7 : ((10 : Int32) * nI j + 7).toNatClampNeg = 10 * j + 7 := cx hj5 7 (by decide)
    have v7 : vp_in ((10 : Int32) * nI j + 7) 52 := vx hj5 7 (by decide)
    have x8 : ((10 : Int32) * nI j + 8).toNatClampNeg = 10 * j + 8 := cx hj5 8 (by decide)
    have v8 : vp_in ((10 : Int32) * nI j + 8) 52 := vx hj5 8 (by decide)
    have x9 : ((10 : Int32) * nI j + 9).toNatClampNeg = 10 * j + 9 := cx hj5 9 (by decide)
    have v9 : vp_in ((10 : Int32) * nI j + 9) 52 := vx hj5 9 (by decide)
    (apply h15; simp only [BX12_drop_15, s_mth, s_mab, s_at, s_iconst, s_lconst, s_iload, s_lload, s_aload, s_istore, s_lstore, s_astore, s_iinc, s_bin, s_binG, s_un, s_lbin, s_lbinG, s_lsh, s_lcmp, s_i2l, s_l2i, s_dup, s_dup2, s_pop, s_if, s_icmp, s_geti, s_getl, s_getr, s_puti, s_putz, s_putl, s_iald, s_zald, s_iast, s_zast, s_aaldS, s_aaldU, s_gets, s_tald, s_tsw, tsw, s_iret, s_zret, s_lret, s_aret, s_vret, s_callV, s_callS, c1, nl1, keepL, csum, pushR, inL, List.getD_cons_zero, List.getD_cons_succ, List.set_cons_zero, List.set_cons_succ, List.cons_append, List.nil_append, List.append_nil, List.replicate, List.length_cons, List.length_nil, List.take_succ_cons, List.take_zero, List.drop_succ_cons, List.drop_zero, List.reverse_cons, List.reverse_nil, true_and, and_true, forall_const, not_true_eq_false, not_false_eq_true, false_implies, true_implies, implies_true, one0, m10, Nat.reduceAdd, Nat.reduceSub, Nat.reduceLeDiff, Nat.zero_add, Nat.add_zero, fn_X12_noUser, fn_X12_note])
    simp only [lM, x4, x5]
    exact ⟨⟨_, rfl, hI.2.1⟩, v4, v5, v4, v5, hQ⟩
  · rw [if_neg h] at hQ; exact hQ
theorem ct_X12_drop (l : Launch) : Con l yX12_drop cX12_drop 3 (Option.some FieldType.int) 2 pre_X12_drop fn_X12_drop := con_of (by decide +kernel) ok_X12_drop len_X12_drop (fun p e s m args below meth c D ca ad A as M hX hr hp ho => pf_X12_drop _ _ (bsX12_drop_0 hX hr) (bsX12_drop_15 hX hr) as M ho hp ⟨rfl, rfl⟩)
def m_set (M : mM) (u w v : Int32) : Int32 × mM := if nu M u = 0 then (if wi w 0 2 = 0 then (-2, M) else if wi v (if w = 1 then 1 else 0) 9 = 0 then (-2, M) else ((nt M).1 165 (10 * u.toNatClampNeg + w.toNatClampNeg), mset (nt M) 165 (10 * u.toNatClampNeg + w.toNatClampNeg) v)) else (-1, M)
def pre_X12_set (as : List mV) (M : mM) : Prop := ∃ c u w v, as = [.inr (.inr (12, c)), .inl u, .inl w, .inl v] ∧ MI M
def fn_X12_set : List mV → mM → Option mV × mM
  | [.inr (.inr (_, c)), .inl u, .inl w, .inl v], M => (some (.inl (m_set (m0 M) u w v).1), (m_set (m0 M) u w v).2)
  | _, M => (none, M)
theorem ok_X12_set (as : List mV) (M : mM) (h : pre_X12_set as M) (_ : ∀ v ∈ as, okV v) : okR (fn_X12_set as M).1 := by
  obtain ⟨c, u, w, v, rfl, -⟩ := h
  first | trivial | exact (by decide +kernel : kof 14 = 8)
theorem len_X12_set (as : List mV) (M : mM) (h : pre_X12_set as M) : (inL as).length ≤ 5 := by
  obtain ⟨c, u, w, v, rfl, -⟩ := h
  exact Nat.le_of_ble_eq_true rfl


theorem dX12_set_0 : decode cX12_set 0 = .ok (.aload_n 0, 1) := by decide +kernel
theorem dX12_set_1 : decode cX12_set 1 = .ok (.iconst 0, 1) := by decide +kernel
theorem dX12_set_2 : decode cX12_set 2 = .ok (.putfield 1, 3) := by decide +kernel
theorem dX12_set_5 : decode cX12_set 5 = .ok (.aload_n 0, 1) := by decide +kernel
theorem dX12_set_6 : decode cX12_set 6 = .ok (.iload_n 1, 1) := by decide +kernel
theorem dX12_set_7 : decode cX12_set 7 = .ok (.invokevirtual 156, 3) := by decide +kernel
theorem dX12_set_10 : decode cX12_set 10 = .ok (.ifCond .eq 5, 3) := by decide +kernel
theorem dX12_set_13 : decode cX12_set 13 = .ok (.iconst (-1), 1) := by decide +kernel
theorem dX12_set_14 : decode cX12_set 14 = .ok (.ireturn, 1) := by decide +kernel
theorem dX12_set_15 : decode cX12_set 15 = .ok (.iload_n 2, 1) := by decide +kernel
theorem dX12_set_16 : decode cX12_set 16 = .ok (.i2l, 1) := by decide +kernel
theorem dX12_set_17 : decode cX12_set 17 = .ok (.lconst 0, 1) := by decide +kernel
theorem dX12_set_18 : decode cX12_set 18 = .ok (.ldc2_w 170, 3) := by decide +kernel
theorem dX12_set_21 : decode cX12_set 21 = .ok (.invokestatic 17, 3) := by decide +kernel
theorem dX12_set_24 : decode cX12_set 24 = .ok (.ifCond .eq 24, 3) := by decide +kernel
theorem dX12_set_27 : decode cX12_set 27 = .ok (.iload_n 3, 1) := by decide +kernel
theorem dX12_set_28 : decode cX12_set 28 = .ok (.i2l, 1) := by decide +kernel
theorem dX12_set_29 : decode cX12_set 29 = .ok (.iload_n 2, 1) := by decide +kernel
theorem dX12_set_30 : decode cX12_set 30 = .ok (.iconst 1, 1) := by decide +kernel
theorem dX12_set_31 : decode cX12_set 31 = .ok (.if_icmp .ne 7, 3) := by decide +kernel
theorem dX12_set_34 : decode cX12_set 34 = .ok (.lconst 1, 1) := by decide +kernel
theorem dX12_set_35 : decode cX12_set 35 = .ok (.goto 4, 3) := by decide +kernel
theorem dX12_set_38 : decode cX12_set 38 = .ok (.lconst 0, 1) := by decide +kernel
theorem dX12_set_39 : decode cX12_set 39 = .ok (.ldc2_w 172, 3) := by decide +kernel
theorem dX12_set_42 : decode cX12_set 42 = .ok (.invokestatic 17, 3) := by decide +kernel
theorem dX12_set_45 : decode cX12_set 45 = .ok (.ifCond .ne 6, 3) := by decide +kernel
theorem dX12_set_48 : decode cX12_set 48 = .ok (.bipush (-2), 2) := by decide +kernel
theorem dX12_set_50 : decode cX12_set 50 = .ok (.ireturn, 1) := by decide +kernel
theorem dX12_set_51 : decode cX12_set 51 = .ok (.aload_n 0, 1) := by decide +kernel
theorem dX12_set_52 : decode cX12_set 52 = .ok (.invokevirtual 164, 3) := by decide +kernel
theorem dX12_set_55 : decode cX12_set 55 = .ok (.aload_n 0, 1) := by decide +kernel
theorem dX12_set_56 : decode cX12_set 56 = .ok (.getfield 11, 3) := by decide +kernel
theorem dX12_set_59 : decode cX12_set 59 = .ok (.bipush 10, 2) := by decide +kernel
theorem dX12_set_61 : decode cX12_set 61 = .ok (.iload_n 1, 1) := by decide +kernel
theorem dX12_set_62 : decode cX12_set 62 = .ok (.imul, 1) := by decide +kernel
theorem dX12_set_63 : decode cX12_set 63 = .ok (.iload_n 2, 1) := by decide +kernel
theorem dX12_set_64 : decode cX12_set 64 = .ok (.iadd, 1) := by decide +kernel
theorem dX12_set_65 : decode cX12_set 65 = .ok (.iaload, 1) := by decide +kernel
theorem dX12_set_66 : decode cX12_set 66 = .ok (.istore 4, 2) := by decide +kernel
theorem dX12_set_68 : decode cX12_set 68 = .ok (.aload_n 0, 1) := by decide +kernel
theorem dX12_set_69 : decode cX12_set 69 = .ok (.getfield 11, 3) := by decide +kernel
theorem dX12_set_72 : decode cX12_set 72 = .ok (.bipush 10, 2) := by decide +kernel
theorem dX12_set_74 : decode cX12_set 74 = .ok (.iload_n 1, 1) := by decide +kernel
theorem dX12_set_75 : decode cX12_set 75 = .ok (.imul, 1) := by decide +kernel
theorem dX12_set_76 : decode cX12_set 76 = .ok (.iload_n 2, 1) := by decide +kernel
theorem dX12_set_77 : decode cX12_set 77 = .ok (.iadd, 1) := by decide +kernel
theorem dX12_set_78 : decode cX12_set 78 = .ok (.iload_n 3, 1) := by decide +kernel
theorem dX12_set_79 : decode cX12_set 79 = .ok (.iastore, 1) := by decide +kernel
theorem dX12_set_80 : decode cX12_set 80 = .ok (.iload 4, 2) := by decide +kernel
theorem dX12_set_82 : decode cX12_set 82 = .ok (.ireturn, 1) := by decide +kernel
theorem mk_X12_set : MVk yX12_set "FairBlocksModel" cX12_set 5 (Option.some FieldType.int) 3 := ⟨w_924, w_922, w_923, w_13, rfl, by decide +kernel, by decide +kernel, by decide +kernel⟩
def BX12_set_0 (G : Nat → KT) (Q : Option mV → mM → Prop) : KT := (s_aload 0 (s_iconst (0) (s_puti 12 0 (s_aload 0 (s_iload 1 (s_callV 12 1 pre_X12_noUser fn_X12_noUser (s_if (fun x => x = 0) (s_at G 15 [true, true, true, true, false]) (s_iconst (-1) (s_iret Q)))))))))
set_option maxRecDepth 4000 in
theorem bsX12_set_0 {p : Program} {l : Launch} {e : Env} {s : State} {m : MethodId} {args : Array Value} {below : List Frame} {meth : Method} {c : Code} {D : va_G} {ca : Nat → ClassId} {ad : Nat → Nat} {A : Nat → Prop} {Q : Option mV → mM → Prop} (hX : CX p s m args meth c 5 cX12_set "FairBlocksModel" D ca ad A) (hr : meth.sig.returnType = (Option.some FieldType.int)) : ∀ lv st M, BX12_set_0 (Gd p l e (rmD 2) s m args below meth c 5 D ca ad A 0 0 (MQ below (QC D ca ad A Q) args s 0 0 A)) Q lv st M → Gd p l e (rmD 2) s m args below meth c 5 D ca ad A 0 0 (MQ below (QC D ca ad A Q) args s 0 0 A) 0 lv st M :=
  (sd_aload_n hX dX12_set_0 rfl (sd_iconst hX dX12_set_1 rfl (sd_puti hX fp_723 dX12_set_2 (sd_aload_n hX dX12_set_5 rfl (sd_iload_n hX dX12_set_6 rfl (sd_callV hX (kd := 12) rfl (by decide) (ct_X12_noUser l) mk_X12_noUser w_860 ⟨⟨by decide, by decide⟩, by decide, by decide⟩ dX12_set_7 (sd_if_eq hX dX12_set_10 (by decide) sd_at (sd_iconst hX dX12_set_13 rfl (sd_iret hX hr dX12_set_14)))))))))
def BX12_set_15 (G : Nat → KT) (Q : Option mV → mM → Prop) : KT := (s_iload 2 (s_i2l (s_lconst 0 (s_lconst (2) (s_callS 3 pre_X12_in fn_X12_in (s_if (fun x => x = 0) (s_at G 48 [false, false, false, false, false]) (s_iload 3 (s_i2l (s_iload 2 (s_iconst (1) (s_icmp (fun x y => x = y) ((s_lconst 1 (s_at G 39 [true, true, true, true, false]))) (s_at G 38 [true, true, true, true, false]))))))))))))
set_option maxRecDepth 4000 in
theorem bsX12_set_15 {p : Program} {l : Launch} {e : Env} {s : State} {m : MethodId} {args : Array Value} {below : List Frame} {meth : Method} {c : Code} {D : va_G} {ca : Nat → ClassId} {ad : Nat → Nat} {A : Nat → Prop} {Q : Option mV → mM → Prop} (hX : CX p s m args meth c 5 cX12_set "FairBlocksModel" D ca ad A) (hr : meth.sig.returnType = (Option.some FieldType.int)) : ∀ lv st M, BX12_set_15 (Gd p l e (rmD 2) s m args below meth c 5 D ca ad A 0 0 (MQ below (QC D ca ad A Q) args s 0 0 A)) Q lv st M → Gd p l e (rmD 2) s m args below meth c 5 D ca ad A 0 0 (MQ below (QC D ca ad A Q) args s 0 0 A) 15 lv st M :=
  (sd_iload_n hX dX12_set_15 rfl (sd_i2l hX dX12_set_16 (sd_lconst hX dX12_set_17 rfl (sd_ldc2 hX w_925 dX12_set_18 (sd_callS hX (ct_X12_in l) mk_X12_in w_825 ⟨⟨by decide, by decide⟩, by decide, by decide⟩ dX12_set_21 (sd_if_eq hX dX12_set_24 (by decide) sd_at (sd_iload_n hX dX12_set_27 rfl (sd_i2l hX dX12_set_28 (sd_iload_n hX dX12_set_29 rfl (sd_iconst hX dX12_set_30 rfl (sd_icmp_ne hX dX12_set_31 (by decide) sd_at (sd_lconst hX dX12_set_34 rfl (sd_goto hX dX12_set_35 (by decide) sd_at)))))))))))))
def BX12_set_38 (G : Nat → KT) (Q : Option mV → mM → Prop) : KT := (s_lconst 0 (s_at G 39 [true, true, true, true, false]))
set_option maxRecDepth 4000 in
theorem bsX12_set_38 {p : Program} {l : Launch} {e : Env} {s : State} {m : MethodId} {args : Array Value} {below : List Frame} {meth : Method} {c : Code} {D : va_G} {ca : Nat → ClassId} {ad : Nat → Nat} {A : Nat → Prop} {Q : Option mV → mM → Prop} (hX : CX p s m args meth c 5 cX12_set "FairBlocksModel" D ca ad A) (hr : meth.sig.returnType = (Option.some FieldType.int)) : ∀ lv st M, BX12_set_38 (Gd p l e (rmD 2) s m args below meth c 5 D ca ad A 0 0 (MQ below (QC D ca ad A Q) args s 0 0 A)) Q lv st M → Gd p l e (rmD 2) s m args below meth c 5 D ca ad A 0 0 (MQ below (QC D ca ad A Q) args s 0 0 A) 38 lv st M :=
  (sd_lconst hX dX12_set_38 rfl sd_at)
def BX12_set_39 (G : Nat → KT) (Q : Option mV → mM → Prop) : KT := (s_lconst (9) (s_callS 3 pre_X12_in fn_X12_in (s_if (fun x => x = 0) ((s_at G 48 [false, false, false, false, false])) (s_at G 51 [true, true, true, true, false]))))
set_option maxRecDepth 4000 in
theorem bsX12_set_39 {p : Program} {l : Launch} {e : Env} {s : State} {m : MethodId} {args : Array Value} {below : List Frame} {meth : Method} {c : Code} {D : va_G} {ca : Nat → ClassId} {ad : Nat → Nat} {A : Nat → Prop} {Q : Option mV → mM → Prop} (hX : CX p s m args meth c 5 cX12_set "FairBlocksModel" D ca ad A) (hr : meth.sig.returnType = (Option.some FieldType.int)) : ∀ lv st M, BX12_set_39 (Gd p l e (rmD 2) s m args below meth c 5 D ca ad A 0 0 (MQ below (QC D ca ad A Q) args s 0 0 A)) Q lv st M → Gd p l e (rmD 2) s m args below meth c 5 D ca ad A 0 0 (MQ below (QC D ca ad A Q) args s 0 0 A) 39 lv st M :=
  (sd_ldc2 hX w_926 dX12_set_39 (sd_callS hX (ct_X12_in l) mk_X12_in w_825 ⟨⟨by decide, by decide⟩, by decide, by decide⟩ dX12_set_42 (sd_if_ne hX dX12_set_45 (by decide) sd_at sd_at)))
def BX12_set_48 (G : Nat → KT) (Q : Option mV → mM → Prop) : KT := (s_iconst (-2) (s_iret Q))
set_option maxRecDepth 4000 in
theorem bsX12_set_48 {p : Program} {l : Launch} {e : Env} {s : State} {m : MethodId} {args : Array Value} {below : List Frame} {meth : Method} {c : Code} {D : va_G} {ca : Nat → ClassId} {ad : Nat → Nat} {A : Nat → Prop} {Q : Option mV → mM → Prop} (hX : CX p s m args meth c 5 cX12_set "FairBlocksModel" D ca ad A) (hr : meth.sig.returnType = (Option.some FieldType.int)) : ∀ lv st M, BX12_set_48 (Gd p l e (rmD 2) s m args below meth c 5 D ca ad A 0 0 (MQ below (QC D ca ad A Q) args s 0 0 A)) Q lv st M → Gd p l e (rmD 2) s m args below meth c 5 D ca ad A 0 0 (MQ below (QC D ca ad A Q) args s 0 0 A) 48 lv st M :=
  (sd_bipush hX dX12_set_48 rfl (sd_iret hX hr dX12_set_50))
def BX12_set_51 (G : Nat → KT) (Q : Option mV → mM → Prop) : KT := (s_aload 0 (s_callV 12 0 pre_X12_note fn_X12_note (s_aload 0 (s_getr 12 13 (fun _ => 165) (s_iconst (10) (s_iload 1 (s_bin (fun x y => x * y) (s_iload 2 (s_bin (fun x y => x + y) (s_iald (s_istore 4 (s_aload 0 (s_getr 12 13 (fun _ => 165) (s_iconst (10) (s_iload 1 (s_bin (fun x y => x * y) (s_iload 2 (s_bin (fun x y => x + y) (s_iload 3 (s_iast (s_iload 4 (s_iret Q))))))))))))))))))))))
set_option maxRecDepth 4000 in
theorem bsX12_set_51 {p : Program} {l : Launch} {e : Env} {s : State} {m : MethodId} {args : Array Value} {below : List Frame} {meth : Method} {c : Code} {D : va_G} {ca : Nat → ClassId} {ad : Nat → Nat} {A : Nat → Prop} {Q : Option mV → mM → Prop} (hX : CX p s m args meth c 5 cX12_set "FairBlocksModel" D ca ad A) (hr : meth.sig.returnType = (Option.some FieldType.int)) : ∀ lv st M, BX12_set_51 (Gd p l e (rmD 2) s m args below meth c 5 D ca ad A 0 0 (MQ below (QC D ca ad A Q) args s 0 0 A)) Q lv st M → Gd p l e (rmD 2) s m args below meth c 5 D ca ad A 0 0 (MQ below (QC D ca ad A Q) args s 0 0 A) 51 lv st M :=
  (sd_aload_n hX dX12_set_51 rfl (sd_callV hX (kd := 12) rfl (by decide) (ct_X12_note l) mk_X12_note w_874 ⟨⟨by decide, by decide⟩, by decide, by decide⟩ dX12_set_52 (sd_aload_n hX dX12_set_55 rfl (sd_getr hX fl_739 (fun _ => rfl) (fun _ _ _ => by decide +kernel) dX12_set_56 (sd_bipush hX dX12_set_59 rfl (sd_iload_n hX dX12_set_61 rfl (sd_imul hX dX12_set_62 (sd_iload_n hX dX12_set_63 rfl (sd_iadd hX dX12_set_64 (sd_iald hX dX12_set_65 (sd_istore hX (by decide) dX12_set_66 (sd_aload_n hX dX12_set_68 rfl (sd_getr hX fl_739 (fun _ => rfl) (fun _ _ _ => by decide +kernel) dX12_set_69 (sd_bipush hX dX12_set_72 rfl (sd_iload_n hX dX12_set_74 rfl (sd_imul hX dX12_set_75 (sd_iload_n hX dX12_set_76 rfl (sd_iadd hX dX12_set_77 (sd_iload_n hX dX12_set_78 rfl (sd_iast hX dX12_set_79 (sd_iload hX dX12_set_80 (sd_iret hX hr dX12_set_82))))))))))))))))))))))
set_option maxHeartbeats 400000 in
theorem pf_X12_set (G : Nat → KT) (Q : Option mV → mM → Prop) (h0 : ∀ lv st M, BX12_set_0 G Q lv st M → G 0 lv st M) (h15 : ∀ lv st M, BX12_set_15 G Q lv st M → G 15 lv st M) (h38 : ∀ lv st M, BX12_set_38 G Q lv st M → G 38 lv st M) (h39 : ∀ lv st M, BX12_set_39 G Q lv st M → G 39 lv st M) (h48 : ∀ lv st M, BX12_set_48 G Q lv st M → G 48 lv st M) (h51 : ∀ lv st M, BX12_set_51 G Q lv st M → G 51 lv st M) (as : List mV) (M : mM) (ho : ∀ v ∈ as, okV v) (hp : pre_X12_set as M) (hQ : Q (fn_X12_set as M).1 (fn_X12_set as M).2) : G 0 (inL as ++ List.replicate (5 - (inL as).length) none) [] M := by
  obtain ⟨c, u, w, v, rfl, hM⟩ := hp
  obtain rfl : c = 158 := k12 (ho (.inr (.inr (12, c))) (by simp))
  have hI := MI_0 hM
  have e : iL w.toInt64 0 2 = wi w 0 2 := iLw w 0 2
  simp only [fn_X12_set, m_set] at hQ
  (apply h0; simp only [BX12_set_0, s_mth, s_mab, s_at, s_iconst, s_lconst, s_iload, s_lload, s_aload, s_istore, s_lstore, s_astore, s_iinc, s_bin, s_binG, s_un, s_lbin, s_lbinG, s_lsh, s_lcmp, s_i2l, s_l2i, s_dup, s_dup2, s_pop, s_if, s_icmp, s_geti, s_getl, s_getr, s_puti, s_putz, s_putl, s_iald, s_zald, s_iast, s_zast, s_aaldS, s_aaldU, s_gets, s_tald, s_tsw, tsw, s_iret, s_zret, s_lret, s_aret, s_vret, s_callV, s_callS, c1, nl1, keepL, csum, pushR, inL, List.getD_cons_zero, List.getD_cons_succ, List.set_cons_zero, List.set_cons_succ, List.cons_append, List.nil_append, List.append_nil, List.replicate, List.length_cons, List.length_nil, List.take_succ_cons, List.take_zero, List.drop_succ_cons, List.drop_zero, List.reverse_cons, List.reverse_nil, true_and, and_true, forall_const, not_true_eq_false, not_false_eq_true, false_implies, true_implies, implies_true, one0, m10, Nat.reduceAdd, Nat.reduceSub, Nat.reduceLeDiff, Nat.zero_add, Nat.add_zero, fn_X12_in, fn_X12_noUser, fn_X12_note])
  rw [show mset M 158 0 0 = m0 M from rfl]
  generalize m0 M = M0 at *
  refine ⟨⟨_, _, rfl⟩, fun h => ?_, fun h => ?_⟩
  · rw [if_pos h] at hQ
    obtain ⟨j, hj, rfl⟩ := nu_u hI.1.1 h
    have hn := (nM_e hI.1.1).1
    have hj5 : j < 5 := by omega
    rw [nI_clamp (by omega : j < 2 ^ 31)] at hQ
    (apply h15; simp only [BX12_set_15, s_mth, s_mab, s_at, s_iconst, s_lconst, s_iload, s_lload, s_aload, s_istore, s_lstore, s_astore, s_iinc, s_bin, s_binG, s_un, s_lbin, s_lbinG, s_lsh, s_lcmp, s_i2l, s_l2i, s_dup, s_dup2, s_pop, s_if, s_icmp, s_geti, s_getl, s_getr, s_puti, s_putz, s_putl, s_iald, s_zald, s_iast, s_zast, s_aaldS, s_aaldU, s_gets, s_tald, s_tsw, tsw, s_iret, s_zret, s_lret, s_aret, s_vret, s_callV, s_callS, c1, nl1, keepL, csum, pushR, inL, List.getD_cons_zero, List.getD_cons_succ, List.set_cons_zero, List.set_cons_succ, List.cons_append, List.nil_append, List.append_nil, List.replicate, List.length_cons, List.length_nil, List.take_succ_cons, List.take_zero, List.drop_succ_cons, List.drop_zero, List.reverse_cons, List.reverse_nil, true_and, and_true, forall_const, not_true_eq_false, not_false_eq_true, false_implies, true_implies, implies_true, one0, m10, Nat.reduceAdd, Nat.reduceSub, Nat.reduceLeDiff, Nat.zero_add, Nat.add_zero, fn_X12_in, fn_X12_noUser, fn_X12_note])
    rw [e]
    refine ⟨⟨_, _, _, rfl⟩, fun h2 => ?_, fun h2 => ?_⟩
    · rw [if_pos h2] at hQ
      (apply h48; simp only [BX12_set_48, s_mth, s_mab, s_at, s_iconst, s_lconst, s_iload, s_lload, s_aload, s_istore, s_lstore, s_astore, s_iinc, s_bin, s_binG, s_un, s_lbin, s_lbinG, s_lsh, s_lcmp, s_i2l, s_l2i, s_dup, s_dup2, s_pop, s_if, s_icmp, s_geti, s_getl, s_getr, s_puti, s_putz, s_putl, s_iald, s_zald, s_iast, s_zast, s_aaldS, s_aaldU, s_gets, s_tald, s_tsw, tsw, s_iret, s_zret, s_lret, s_aret, s_vret, s_callV, s_callS, c1, nl1, keepL, csum, pushR, inL, List.getD_cons_zero, List.getD_cons_succ, List.set_cons_zero, List.set_cons_succ, List.cons_append, List.nil_append, List.append_nil, List.replicate, List.length_cons, List.length_nil, List.take_succ_cons, List.take_zero, List.drop_succ_cons, List.drop_zero, List.reverse_cons, List.reverse_nil, true_and, and_true, forall_const, not_true_eq_false, not_false_eq_true, false_implies, true_implies, implies_true, one0, m10, Nat.reduceAdd, Nat.reduceSub, Nat.reduceLeDiff, Nat.zero_add, Nat.add_zero, fn_X12_in, fn_X12_noUser, fn_X12_note])
      exact hQ
    · rw [if_neg h2] at hQ
      obtain ⟨W, -, hW, rfl⟩ := wi_g (d := 0) (c := 2) rfl rfl (by decide) (by decide) h2
      have L39 : ∀ (y : Int32), y = (if nI W = 1 then 1 else 0) → G 39 [some (.inr (.inr (12, 158))), some (.inl (nI j)), some (.inl (nI W)), some (.inl v), none] [.inr (.inl y.toInt64), .inr (.inl v.toInt64)] M0 := by
        intro y ey
        rw [← ey] at hQ
        have e2 : iL v.toInt64 y.toInt64 9 = wi v y 9 := iLw v y 9
        (apply h39; simp only [BX12_set_39, s_mth, s_mab, s_at, s_iconst, s_lconst, s_iload, s_lload, s_aload, s_istore, s_lstore, s_astore, s_iinc, s_bin, s_binG, s_un, s_lbin, s_lbinG, s_lsh, s_lcmp, s_i2l, s_l2i, s_dup, s_dup2, s_pop, s_if, s_icmp, s_geti, s_getl, s_getr, s_puti, s_putz, s_putl, s_iald, s_zald, s_iast, s_zast, s_aaldS, s_aaldU, s_gets, s_tald, s_tsw, tsw, s_iret, s_zret, s_lret, s_aret, s_vret, s_callV, s_callS, c1, nl1, keepL, csum, pushR, inL, List.getD_cons_zero, List.getD_cons_succ, List.set_cons_zero, List.set_cons_succ, List.cons_append, List.nil_append, List.append_nil, List.replicate, List.length_cons, List.length_nil, List.take_succ_cons, List.take_zero, List.drop_succ_cons, List.drop_zero, List.reverse_cons, List.reverse_nil, true_and, and_true, forall_const, not_true_eq_false, not_false_eq_true, false_implies, true_implies, implies_true, one0, m10, Nat.reduceAdd, Nat.reduceSub, Nat.reduceLeDiff, Nat.zero_add, Nat.add_zero, fn_X12_in, fn_X12_noUser, fn_X12_note])
        rw [e2]
        refine ⟨⟨_, _, _, rfl⟩, fun h3 => ?_, fun h3 => ?_⟩
        · rw [if_pos h3] at hQ
          (apply h48; simp only [BX12_set_48, s_mth, s_mab, s_at, s_iconst, s_lconst, s_iload, s_lload, s_aload, s_istore, s_lstore, s_astore, s_iinc, s_bin, s_binG, s_un, s_lbin, s_lbinG, s_lsh, s_lcmp, s_i2l, s_l2i, s_dup, s_dup2, s_pop, s_if, s_icmp, s_geti, s_getl, s_getr, s_puti, s_putz, s_putl, s_iald, s_zald, s_iast, s_zast, s_aaldS, s_aaldU, s_gets, s_tald, s_tsw, tsw, s_iret, s_zret, s_lret, s_aret, s_vret, s_callV, s_callS, c1, nl1, keepL, csum, pushR, inL, List.getD_cons_zero, List.getD_cons_succ, List.set_cons_zero, List.set_cons_succ, List.cons_append, List.nil_append, List.append_nil, List.replicate, List.length_cons, List.length_nil, List.take_succ_cons, List.take_zero, List.drop_succ_cons, List.drop_zero, List.reverse_cons, List.reverse_nil, true_and, and_true, forall_const, not_true_eq_false, not_false_eq_true, false_implies, true_implies, implies_true, one0, m10, Nat.reduceAdd, Nat.reduceSub, Nat.reduceLeDiff, Nat.zero_add, Nat.add_zero, fn_X12_in, fn_X12_noUser, fn_X12_note])
          exact hQ
        · rw [if_neg h3] at hQ
          have e1 : (10 : Int32) * nI j + nI W = nI (10 * j + W) := by rw [show (10 : Int32) = nI 10 from rfl, pk_mul, nI_add]
          (apply h51; simp only [BX12_set_51, s_mth, s_mab, s_at, s_iconst, s_lconst, s_iload, s_lload, s_aload, s_istore, s_lstore, s_astore, s_iinc, s_bin, s_binG, s_un, s_lbin, s_lbinG, s_lsh, s_lcmp, s_i2l, s_l2i, s_dup, s_dup2, s_pop, s_if, s_icmp, s_geti, s_getl, s_getr, s_puti, s_putz, s_putl, s_iald, s_zald, s_iast, s_zast, s_aaldS, s_aaldU, s_gets, s_tald, s_tsw, tsw, s_iret, s_zret, s_lret, s_aret, s_vret, s_callV, s_callS, c1, nl1, keepL, csum, pushR, inL, List.getD_cons_zero, List.getD_cons_succ, List.set_cons_zero, List.set_cons_succ, List.cons_append, List.nil_append, List.append_nil, List.replicate, List.length_cons, List.length_nil, List.take_succ_cons, List.take_zero, List.drop_succ_cons, List.drop_zero, List.reverse_cons, List.reverse_nil, true_and, and_true, forall_const, not_true_eq_false, not_false_eq_true, false_implies, true_implies, implies_true, one0, m10, Nat.reduceAdd, Nat.reduceSub, Nat.reduceLeDiff, Nat.zero_add, Nat.add_zero, fn_X12_in, fn_X12_noUser, fn_X12_note])
          rw [e1]
          simp only [lM]
          rw [nI_clamp (by omega : 10 * j + W < 2 ^ 31)]
          rw [nI_clamp (by omega : W < 2 ^ 31)] at hQ
          exact ⟨⟨_, rfl, hI.2.1⟩, vz (by omega) (by decide), vz (by omega) (by decide), hQ⟩
      refine ⟨fun h3 => ?_, fun h3 => ?_⟩
      · exact L39 1 (by rw [if_pos h3])
      · (apply h38; simp only [BX12_set_38, s_mth, s_mab, s_at, s_iconst, s_lconst, s_iload, s_lload, s_aload, s_istore, s_lstore, s_astore, s_iinc, s_bin, s_binG, s_un, s_lbin, s_lbinG, s_lsh, s_lcmp, s_i2l, s_l2i, s_dup, s_dup2, s_pop, s_if, s_icmp, s_geti, s_getl, s_getr, s_puti, s_putz, s_putl, s_iald, s_zald, s_iast, s_zast, s_aaldS, s_aaldU, s_gets, s_tald, s_tsw, tsw, s_iret, s_zret, s_lret, s_aret, s_vret, s_callV, s_callS, c1, nl1, keepL, csum, pushR, inL, List.getD_cons_zero, List.getD_cons_succ, List.set_cons_zero, List.set_cons_succ, List.cons_append, List.nil_append, List.append_nil, List.replicate, List.length_cons, List.length_nil, List.take_succ_cons, List.take_zero, List.drop_succ_cons, List.drop_zero, List.reverse_cons, List.reverse_nil, true_and, and_true, forall_const, not_true_eq_false, not_false_eq_true, false_implies, true_implies, implies_true, one0, m10, Nat.reduceAdd, Nat.reduceSub, Nat.reduceLeDiff, Nat.zero_add, Nat.add_zero, fn_X12_in, fn_X12_noUser, fn_X12_note])
        exact L39 0 (by rw [if_neg h3])
  · rw [if_neg h] at hQ; exact hQ
theorem ct_X12_set (l : Launch) : Con l yX12_set cX12_set 5 (Option.some FieldType.int) 2 pre_X12_set fn_X12_set := con_of (by decide +kernel) ok_X12_set len_X12_set (fun p e s m args below meth c D ca ad A as M hX hr hp ho => pf_X12_set _ _ (bsX12_set_0 hX hr) (bsX12_set_15 hX hr) (bsX12_set_38 hX hr) (bsX12_set_39 hX hr) (bsX12_set_48 hX hr) (bsX12_set_51 hX hr) as M ho hp ⟨rfl, rfl⟩)
theorem v50' : vp_in (50 : Int32) 52 := vp_in_nI (n := 50) (by decide) (by decide)
theorem v51' : vp_in (51 : Int32) 52 := vp_in_nI (n := 51) (by decide) (by decide)
theorem x50' : Int32.toNatClampNeg 50 = 50 := by decide
theorem x51' : Int32.toNatClampNeg 51 = 51 := by decide
def m_patience (M : mM) (v : Int32) : Int32 × mM := if wi v 0 9 = 0 then (-2, M) else ((nt M).1 165 50, mset (nt M) 165 50 v)
def pre_X12_patience (as : List mV) (M : mM) : Prop := ∃ c v, as = [.inr (.inr (12, c)), .inl v] ∧ MI M
def fn_X12_patience : List mV → mM → Option mV × mM
  | [.inr (.inr (_, c)), .inl v], M => (some (.inl (m_patience (m0 M) v).1), (m_patience (m0 M) v).2)
  | _, M => (none, M)
theorem ok_X12_patience (as : List mV) (M : mM) (h : pre_X12_patience as M) (_ : ∀ v ∈ as, okV v) : okR (fn_X12_patience as M).1 := by
  obtain ⟨c, v, rfl, -⟩ := h
  first | trivial | exact (by decide +kernel : kof 14 = 8)
theorem len_X12_patience (as : List mV) (M : mM) (h : pre_X12_patience as M) : (inL as).length ≤ 3 := by
  obtain ⟨c, v, rfl, -⟩ := h
  exact Nat.le_of_ble_eq_true rfl


theorem dX12_patience_0 : decode cX12_patience 0 = .ok (.aload_n 0, 1) := by decide +kernel
theorem dX12_patience_1 : decode cX12_patience 1 = .ok (.iconst 0, 1) := by decide +kernel
theorem dX12_patience_2 : decode cX12_patience 2 = .ok (.putfield 1, 3) := by decide +kernel
theorem dX12_patience_5 : decode cX12_patience 5 = .ok (.iload_n 1, 1) := by decide +kernel
theorem dX12_patience_6 : decode cX12_patience 6 = .ok (.i2l, 1) := by decide +kernel
theorem dX12_patience_7 : decode cX12_patience 7 = .ok (.lconst 0, 1) := by decide +kernel
theorem dX12_patience_8 : decode cX12_patience 8 = .ok (.ldc2_w 172, 3) := by decide +kernel
theorem dX12_patience_11 : decode cX12_patience 11 = .ok (.invokestatic 17, 3) := by decide +kernel
theorem dX12_patience_14 : decode cX12_patience 14 = .ok (.ifCond .ne 6, 3) := by decide +kernel
theorem dX12_patience_17 : decode cX12_patience 17 = .ok (.bipush (-2), 2) := by decide +kernel
theorem dX12_patience_19 : decode cX12_patience 19 = .ok (.ireturn, 1) := by decide +kernel
theorem dX12_patience_20 : decode cX12_patience 20 = .ok (.aload_n 0, 1) := by decide +kernel
theorem dX12_patience_21 : decode cX12_patience 21 = .ok (.invokevirtual 164, 3) := by decide +kernel
theorem dX12_patience_24 : decode cX12_patience 24 = .ok (.aload_n 0, 1) := by decide +kernel
theorem dX12_patience_25 : decode cX12_patience 25 = .ok (.getfield 11, 3) := by decide +kernel
theorem dX12_patience_28 : decode cX12_patience 28 = .ok (.bipush 50, 2) := by decide +kernel
theorem dX12_patience_30 : decode cX12_patience 30 = .ok (.iaload, 1) := by decide +kernel
theorem dX12_patience_31 : decode cX12_patience 31 = .ok (.istore_n 2, 1) := by decide +kernel
theorem dX12_patience_32 : decode cX12_patience 32 = .ok (.aload_n 0, 1) := by decide +kernel
theorem dX12_patience_33 : decode cX12_patience 33 = .ok (.getfield 11, 3) := by decide +kernel
theorem dX12_patience_36 : decode cX12_patience 36 = .ok (.bipush 50, 2) := by decide +kernel
theorem dX12_patience_38 : decode cX12_patience 38 = .ok (.iload_n 1, 1) := by decide +kernel
theorem dX12_patience_39 : decode cX12_patience 39 = .ok (.iastore, 1) := by decide +kernel
theorem dX12_patience_40 : decode cX12_patience 40 = .ok (.iload_n 2, 1) := by decide +kernel
theorem dX12_patience_41 : decode cX12_patience 41 = .ok (.ireturn, 1) := by decide +kernel
theorem mk_X12_patience : MVk yX12_patience "FairBlocksModel" cX12_patience 3 (Option.some FieldType.int) 1 := ⟨w_930, w_928, w_929, w_13, rfl, by decide +kernel, by decide +kernel, by decide +kernel⟩
def BX12_patience_0 (G : Nat → KT) (Q : Option mV → mM → Prop) : KT := (s_aload 0 (s_iconst (0) (s_puti 12 0 (s_iload 1 (s_i2l (s_lconst 0 (s_lconst (9) (s_callS 3 pre_X12_in fn_X12_in (s_if (fun x => x = 0) ((s_iconst (-2) (s_iret Q))) (s_at G 20 [true, true, false]))))))))))
set_option maxRecDepth 4000 in
theorem bsX12_patience_0 {p : Program} {l : Launch} {e : Env} {s : State} {m : MethodId} {args : Array Value} {below : List Frame} {meth : Method} {c : Code} {D : va_G} {ca : Nat → ClassId} {ad : Nat → Nat} {A : Nat → Prop} {Q : Option mV → mM → Prop} (hX : CX p s m args meth c 3 cX12_patience "FairBlocksModel" D ca ad A) (hr : meth.sig.returnType = (Option.some FieldType.int)) : ∀ lv st M, BX12_patience_0 (Gd p l e (rmD 1) s m args below meth c 3 D ca ad A 0 0 (MQ below (QC D ca ad A Q) args s 0 0 A)) Q lv st M → Gd p l e (rmD 1) s m args below meth c 3 D ca ad A 0 0 (MQ below (QC D ca ad A Q) args s 0 0 A) 0 lv st M :=
  (sd_aload_n hX dX12_patience_0 rfl (sd_iconst hX dX12_patience_1 rfl (sd_puti hX fp_723 dX12_patience_2 (sd_iload_n hX dX12_patience_5 rfl (sd_i2l hX dX12_patience_6 (sd_lconst hX dX12_patience_7 rfl (sd_ldc2 hX w_926 dX12_patience_8 (sd_callS hX (ct_X12_in l) mk_X12_in w_825 ⟨⟨by decide, by decide⟩, by decide, by decide⟩ dX12_patience_11 (sd_if_ne hX dX12_patience_14 (by decide) sd_at (sd_bipush hX dX12_patience_17 rfl (sd_iret hX hr dX12_patience_19)))))))))))
def BX12_patience_20 (G : Nat → KT) (Q : Option mV → mM → Prop) : KT := (s_aload 0 (s_callV 12 0 pre_X12_note fn_X12_note (s_aload 0 (s_getr 12 13 (fun _ => 165) (s_iconst (50) (s_iald (s_istore 2 (s_aload 0 (s_getr 12 13 (fun _ => 165) (s_iconst (50) (s_iload 1 (s_iast (s_iload 2 (s_iret Q))))))))))))))
set_option maxRecDepth 4000 in
theorem bsX12_patience_20 {p : Program} {l : Launch} {e : Env} {s : State} {m : MethodId} {args : Array Value} {below : List Frame} {meth : Method} {c : Code} {D : va_G} {ca : Nat → ClassId} {ad : Nat → Nat} {A : Nat → Prop} {Q : Option mV → mM → Prop} (hX : CX p s m args meth c 3 cX12_patience "FairBlocksModel" D ca ad A) (hr : meth.sig.returnType = (Option.some FieldType.int)) : ∀ lv st M, BX12_patience_20 (Gd p l e (rmD 1) s m args below meth c 3 D ca ad A 0 0 (MQ below (QC D ca ad A Q) args s 0 0 A)) Q lv st M → Gd p l e (rmD 1) s m args below meth c 3 D ca ad A 0 0 (MQ below (QC D ca ad A Q) args s 0 0 A) 20 lv st M :=
  (sd_aload_n hX dX12_patience_20 rfl (sd_callV hX (kd := 12) rfl (by decide) (ct_X12_note l) mk_X12_note w_874 ⟨⟨by decide, by decide⟩, by decide, by decide⟩ dX12_patience_21 (sd_aload_n hX dX12_patience_24 rfl (sd_getr hX fl_739 (fun _ => rfl) (fun _ _ _ => by decide +kernel) dX12_patience_25 (sd_bipush hX dX12_patience_28 rfl (sd_iald hX dX12_patience_30 (sd_istore_n hX (by decide) dX12_patience_31 rfl (sd_aload_n hX dX12_patience_32 rfl (sd_getr hX fl_739 (fun _ => rfl) (fun _ _ _ => by decide +kernel) dX12_patience_33 (sd_bipush hX dX12_patience_36 rfl (sd_iload_n hX dX12_patience_38 rfl (sd_iast hX dX12_patience_39 (sd_iload_n hX dX12_patience_40 rfl (sd_iret hX hr dX12_patience_41))))))))))))))
set_option maxHeartbeats 400000 in
theorem pf_X12_patience (G : Nat → KT) (Q : Option mV → mM → Prop) (h0 : ∀ lv st M, BX12_patience_0 G Q lv st M → G 0 lv st M) (h20 : ∀ lv st M, BX12_patience_20 G Q lv st M → G 20 lv st M) (as : List mV) (M : mM) (ho : ∀ v ∈ as, okV v) (hp : pre_X12_patience as M) (hQ : Q (fn_X12_patience as M).1 (fn_X12_patience as M).2) : G 0 (inL as ++ List.replicate (3 - (inL as).length) none) [] M := by
  obtain ⟨c, v, rfl, hM⟩ := hp
  obtain rfl : c = 158 := k12 (ho (.inr (.inr (12, c))) (by simp))
  have hI := MI_0 hM
  have e : iL v.toInt64 0 9 = wi v 0 9 := iLw v 0 9
  simp only [fn_X12_patience, m_patience] at hQ
  (apply h0; simp only [BX12_patience_0, s_mth, s_mab, s_at, s_iconst, s_lconst, s_iload, s_lload, s_aload, s_istore, s_lstore, s_astore, s_iinc, s_bin, s_binG, s_un, s_lbin, s_lbinG, s_lsh, s_lcmp, s_i2l, s_l2i, s_dup, s_dup2, s_pop, s_if, s_icmp, s_geti, s_getl, s_getr, s_puti, s_putz, s_putl, s_iald, s_zald, s_iast, s_zast, s_aaldS, s_aaldU, s_gets, s_tald, s_tsw, tsw, s_iret, s_zret, s_lret, s_aret, s_vret, s_callV, s_callS, c1, nl1, keepL, csum, pushR, inL, List.getD_cons_zero, List.getD_cons_succ, List.set_cons_zero, List.set_cons_succ, List.cons_append, List.nil_append, List.append_nil, List.replicate, List.length_cons, List.length_nil, List.take_succ_cons, List.take_zero, List.drop_succ_cons, List.drop_zero, List.reverse_cons, List.reverse_nil, true_and, and_true, forall_const, not_true_eq_false, not_false_eq_true, false_implies, true_implies, implies_true, one0, m10, Nat.reduceAdd, Nat.reduceSub, Nat.reduceLeDiff, Nat.zero_add, Nat.add_zero, fn_X12_in, fn_X12_note])
  rw [show mset M 158 0 0 = m0 M from rfl, e]
  generalize m0 M = M0 at *
  refine ⟨⟨_, _, _, rfl⟩, fun h => ?_, fun h => ?_⟩
  · rw [if_pos h] at hQ; exact hQ
  · rw [if_neg h] at hQ
    (apply h20; simp only [BX12_patience_20, s_mth, s_mab, s_at, s_iconst, s_lconst, s_iload, s_lload, s_aload, s_istore, s_lstore, s_astore, s_iinc, s_bin, s_binG, s_un, s_lbin, s_lbinG, s_lsh, s_lcmp, s_i2l, s_l2i, s_dup, s_dup2, s_pop, s_if, s_icmp, s_geti, s_getl, s_getr, s_puti, s_putz, s_putl, s_iald, s_zald, s_iast, s_zast, s_aaldS, s_aaldU, s_gets, s_tald, s_tsw, tsw, s_iret, s_zret, s_lret, s_aret, s_vret, s_callV, s_callS, c1, nl1, keepL, csum, pushR, inL, List.getD_cons_zero, List.getD_cons_succ, List.set_cons_zero, List.set_cons_succ, List.cons_append, List.nil_append, List.append_nil, List.replicate, List.length_cons, List.length_nil, List.take_succ_cons, List.take_zero, List.drop_succ_cons, List.drop_zero, List.reverse_cons, List.reverse_nil, true_and, and_true, forall_const, not_true_eq_false, not_false_eq_true, false_implies, true_implies, implies_true, one0, m10, Nat.reduceAdd, Nat.reduceSub, Nat.reduceLeDiff, Nat.zero_add, Nat.add_zero, fn_X12_in, fn_X12_note])
    simp only [lM, x50']
    exact ⟨⟨_, rfl, hI.2.1⟩, v50', v50', hQ⟩
theorem ct_X12_patience (l : Launch) : Con l yX12_patience cX12_patience 3 (Option.some FieldType.int) 1 pre_X12_patience fn_X12_patience := con_of (by decide +kernel) ok_X12_patience len_X12_patience (fun p e s m args below meth c D ca ad A as M hX hr hp ho => pf_X12_patience _ _ (bsX12_patience_0 hX hr) (bsX12_patience_20 hX hr) as M ho hp ⟨rfl, rfl⟩)
def unM (M : mM) : mM := mset M 158 20 (M.1 158 20 - 1)
def unR (M : mM) : mM := rset M 165 (cpyR (M.1 165) (fun k => M.1 168 (52 * ntD M + k)) 0 52 0)
def m_undo (M : mM) : Int32 × mM := if M.1 158 20 = 0 then (-3, M) else ((unM M).1 158 20, unR (unM M))
def pre_X12_undo (as : List mV) (M : mM) : Prop := ∃ c, as = [.inr (.inr (12, c))] ∧ MI M
def fn_X12_undo : List mV → mM → Option mV × mM
  | [.inr (.inr (_, c))], M => (some (.inl (m_undo (m0 M)).1), (m_undo (m0 M)).2)
  | _, M => (none, M)
theorem ok_X12_undo (as : List mV) (M : mM) (h : pre_X12_undo as M) (_ : ∀ v ∈ as, okV v) : okR (fn_X12_undo as M).1 := by
  obtain ⟨c, rfl, -⟩ := h
  first | trivial | exact (by decide +kernel : kof 14 = 8)
theorem len_X12_undo (as : List mV) (M : mM) (h : pre_X12_undo as M) : (inL as).length ≤ 2 := by
  obtain ⟨c, rfl, -⟩ := h
  exact Nat.le_of_ble_eq_true rfl


theorem dX12_undo_0 : decode cX12_undo 0 = .ok (.aload_n 0, 1) := by decide +kernel
theorem dX12_undo_1 : decode cX12_undo 1 = .ok (.iconst 0, 1) := by decide +kernel
theorem dX12_undo_2 : decode cX12_undo 2 = .ok (.putfield 1, 3) := by decide +kernel
theorem dX12_undo_5 : decode cX12_undo 5 = .ok (.aload_n 0, 1) := by decide +kernel
theorem dX12_undo_6 : decode cX12_undo 6 = .ok (.getfield 120, 3) := by decide +kernel
theorem dX12_undo_9 : decode cX12_undo 9 = .ok (.ifCond .ne 6, 3) := by decide +kernel
theorem dX12_undo_12 : decode cX12_undo 12 = .ok (.bipush (-3), 2) := by decide +kernel
theorem dX12_undo_14 : decode cX12_undo 14 = .ok (.ireturn, 1) := by decide +kernel
theorem dX12_undo_15 : decode cX12_undo 15 = .ok (.aload_n 0, 1) := by decide +kernel
theorem dX12_undo_16 : decode cX12_undo 16 = .ok (.dup, 1) := by decide +kernel
theorem dX12_undo_17 : decode cX12_undo 17 = .ok (.getfield 120, 3) := by decide +kernel
theorem dX12_undo_20 : decode cX12_undo 20 = .ok (.iconst 1, 1) := by decide +kernel
theorem dX12_undo_21 : decode cX12_undo 21 = .ok (.isub, 1) := by decide +kernel
theorem dX12_undo_22 : decode cX12_undo 22 = .ok (.putfield 120, 3) := by decide +kernel
theorem dX12_undo_25 : decode cX12_undo 25 = .ok (.iconst 0, 1) := by decide +kernel
theorem dX12_undo_26 : decode cX12_undo 26 = .ok (.istore_n 1, 1) := by decide +kernel
theorem dX12_undo_27 : decode cX12_undo 27 = .ok (.iload_n 1, 1) := by decide +kernel
theorem dX12_undo_28 : decode cX12_undo 28 = .ok (.bipush 52, 2) := by decide +kernel
theorem dX12_undo_30 : decode cX12_undo 30 = .ok (.if_icmp .ge 29, 3) := by decide +kernel
theorem dX12_undo_33 : decode cX12_undo 33 = .ok (.aload_n 0, 1) := by decide +kernel
theorem dX12_undo_34 : decode cX12_undo 34 = .ok (.getfield 11, 3) := by decide +kernel
theorem dX12_undo_37 : decode cX12_undo 37 = .ok (.iload_n 1, 1) := by decide +kernel
theorem dX12_undo_38 : decode cX12_undo 38 = .ok (.aload_n 0, 1) := by decide +kernel
theorem dX12_undo_39 : decode cX12_undo 39 = .ok (.getfield 54, 3) := by decide +kernel
theorem dX12_undo_42 : decode cX12_undo 42 = .ok (.bipush 52, 2) := by decide +kernel
theorem dX12_undo_44 : decode cX12_undo 44 = .ok (.aload_n 0, 1) := by decide +kernel
theorem dX12_undo_45 : decode cX12_undo 45 = .ok (.getfield 120, 3) := by decide +kernel
theorem dX12_undo_48 : decode cX12_undo 48 = .ok (.imul, 1) := by decide +kernel
theorem dX12_undo_49 : decode cX12_undo 49 = .ok (.iload_n 1, 1) := by decide +kernel
theorem dX12_undo_50 : decode cX12_undo 50 = .ok (.iadd, 1) := by decide +kernel
theorem dX12_undo_51 : decode cX12_undo 51 = .ok (.iaload, 1) := by decide +kernel
theorem dX12_undo_52 : decode cX12_undo 52 = .ok (.iastore, 1) := by decide +kernel
theorem dX12_undo_53 : decode cX12_undo 53 = .ok (.iinc 1 1, 3) := by decide +kernel
theorem dX12_undo_56 : decode cX12_undo 56 = .ok (.goto (-29), 3) := by decide +kernel
theorem dX12_undo_59 : decode cX12_undo 59 = .ok (.aload_n 0, 1) := by decide +kernel
theorem dX12_undo_60 : decode cX12_undo 60 = .ok (.getfield 120, 3) := by decide +kernel
theorem dX12_undo_63 : decode cX12_undo 63 = .ok (.ireturn, 1) := by decide +kernel
theorem mk_X12_undo : MVk yX12_undo "FairBlocksModel" cX12_undo 2 (Option.some FieldType.int) 0 := ⟨w_934, w_932, w_933, w_13, rfl, by decide +kernel, by decide +kernel, by decide +kernel⟩
def BX12_undo_0 (G : Nat → KT) (Q : Option mV → mM → Prop) : KT := (s_aload 0 (s_iconst (0) (s_puti 12 0 (s_aload 0 (s_geti 12 20 (s_if (fun x => x = 0) ((s_iconst (-3) (s_iret Q))) (s_at G 15 [true, false])))))))
set_option maxRecDepth 4000 in
theorem bsX12_undo_0 {p : Program} {l : Launch} {e : Env} {s : State} {m : MethodId} {args : Array Value} {below : List Frame} {meth : Method} {c : Code} {D : va_G} {ca : Nat → ClassId} {ad : Nat → Nat} {A : Nat → Prop} {Q : Option mV → mM → Prop} (hX : CX p s m args meth c 2 cX12_undo "FairBlocksModel" D ca ad A) (hr : meth.sig.returnType = (Option.some FieldType.int)) : ∀ lv st M, BX12_undo_0 (Gd p l e (rmD 0) s m args below meth c 2 D ca ad A 0 0 (MQ below (QC D ca ad A Q) args s 0 0 A)) Q lv st M → Gd p l e (rmD 0) s m args below meth c 2 D ca ad A 0 0 (MQ below (QC D ca ad A Q) args s 0 0 A) 0 lv st M :=
  (sd_aload_n hX dX12_undo_0 rfl (sd_iconst hX dX12_undo_1 rfl (sd_puti hX fp_723 dX12_undo_2 (sd_aload_n hX dX12_undo_5 rfl (sd_geti hX fl_743 (by decide) dX12_undo_6 (sd_if_ne hX dX12_undo_9 (by decide) sd_at (sd_bipush hX dX12_undo_12 rfl (sd_iret hX hr dX12_undo_14))))))))
def BX12_undo_15 (G : Nat → KT) (Q : Option mV → mM → Prop) : KT := (s_aload 0 (s_dup (s_geti 12 20 (s_iconst (1) (s_bin (fun x y => x - y) (s_puti 12 20 (s_iconst (0) (s_istore 1 (s_at G 27 [true, true])))))))))
set_option maxRecDepth 4000 in
theorem bsX12_undo_15 {p : Program} {l : Launch} {e : Env} {s : State} {m : MethodId} {args : Array Value} {below : List Frame} {meth : Method} {c : Code} {D : va_G} {ca : Nat → ClassId} {ad : Nat → Nat} {A : Nat → Prop} {Q : Option mV → mM → Prop} (hX : CX p s m args meth c 2 cX12_undo "FairBlocksModel" D ca ad A) (hr : meth.sig.returnType = (Option.some FieldType.int)) : ∀ lv st M, BX12_undo_15 (Gd p l e (rmD 0) s m args below meth c 2 D ca ad A 0 0 (MQ below (QC D ca ad A Q) args s 0 0 A)) Q lv st M → Gd p l e (rmD 0) s m args below meth c 2 D ca ad A 0 0 (MQ below (QC D ca ad A Q) args s 0 0 A) 15 lv st M :=
  (sd_aload_n hX dX12_undo_15 rfl (sd_dup hX dX12_undo_16 (sd_geti hX fl_743 (by decide) dX12_undo_17 (sd_iconst hX dX12_undo_20 rfl (sd_isub hX dX12_undo_21 (sd_puti hX fp_743 dX12_undo_22 (sd_iconst hX dX12_undo_25 rfl (sd_istore_n hX (by decide) dX12_undo_26 rfl sd_at))))))))
def BX12_undo_27 (G : Nat → KT) (Q : Option mV → mM → Prop) : KT := (s_iload 1 (s_iconst (52) (s_icmp (fun x y => y ≤ x) (s_at G 59 [true, false]) (s_aload 0 (s_getr 12 13 (fun _ => 165) (s_iload 1 (s_aload 0 (s_getr 12 13 (fun _ => 168) (s_iconst (52) (s_aload 0 (s_geti 12 20 (s_bin (fun x y => x * y) (s_iload 1 (s_bin (fun x y => x + y) (s_iald (s_iast (s_iinc 1 (1) (s_at G 27 [true, true]))))))))))))))))))
set_option maxRecDepth 4000 in
theorem bsX12_undo_27 {p : Program} {l : Launch} {e : Env} {s : State} {m : MethodId} {args : Array Value} {below : List Frame} {meth : Method} {c : Code} {D : va_G} {ca : Nat → ClassId} {ad : Nat → Nat} {A : Nat → Prop} {Q : Option mV → mM → Prop} (hX : CX p s m args meth c 2 cX12_undo "FairBlocksModel" D ca ad A) (hr : meth.sig.returnType = (Option.some FieldType.int)) : ∀ lv st M, BX12_undo_27 (Gd p l e (rmD 0) s m args below meth c 2 D ca ad A 0 0 (MQ below (QC D ca ad A Q) args s 0 0 A)) Q lv st M → Gd p l e (rmD 0) s m args below meth c 2 D ca ad A 0 0 (MQ below (QC D ca ad A Q) args s 0 0 A) 27 lv st M :=
  (sd_iload_n hX dX12_undo_27 rfl (sd_bipush hX dX12_undo_28 rfl (sd_icmp_ge hX dX12_undo_30 (by decide) sd_at (sd_aload_n hX dX12_undo_33 rfl (sd_getr hX fl_739 (fun _ => rfl) (fun _ _ _ => by decide +kernel) dX12_undo_34 (sd_iload_n hX dX12_undo_37 rfl (sd_aload_n hX dX12_undo_38 rfl (sd_getr hX fl_742 (fun _ => rfl) (fun _ _ _ => by decide +kernel) dX12_undo_39 (sd_bipush hX dX12_undo_42 rfl (sd_aload_n hX dX12_undo_44 rfl (sd_geti hX fl_743 (by decide) dX12_undo_45 (sd_imul hX dX12_undo_48 (sd_iload_n hX dX12_undo_49 rfl (sd_iadd hX dX12_undo_50 (sd_iald hX dX12_undo_51 (sd_iast hX dX12_undo_52 (sd_iinc hX (by decide) dX12_undo_53 rfl (sd_goto hX dX12_undo_56 (by decide) sd_at))))))))))))))))))
def BX12_undo_59 (G : Nat → KT) (Q : Option mV → mM → Prop) : KT := (s_aload 0 (s_geti 12 20 (s_iret Q)))
set_option maxRecDepth 4000 in
theorem bsX12_undo_59 {p : Program} {l : Launch} {e : Env} {s : State} {m : MethodId} {args : Array Value} {below : List Frame} {meth : Method} {c : Code} {D : va_G} {ca : Nat → ClassId} {ad : Nat → Nat} {A : Nat → Prop} {Q : Option mV → mM → Prop} (hX : CX p s m args meth c 2 cX12_undo "FairBlocksModel" D ca ad A) (hr : meth.sig.returnType = (Option.some FieldType.int)) : ∀ lv st M, BX12_undo_59 (Gd p l e (rmD 0) s m args below meth c 2 D ca ad A 0 0 (MQ below (QC D ca ad A Q) args s 0 0 A)) Q lv st M → Gd p l e (rmD 0) s m args below meth c 2 D ca ad A 0 0 (MQ below (QC D ca ad A Q) args s 0 0 A) 59 lv st M :=
  (sd_aload_n hX dX12_undo_59 rfl (sd_geti hX fl_743 (by decide) dX12_undo_60 (sd_iret hX hr dX12_undo_63)))
set_option maxHeartbeats 400000 in
theorem pf_X12_undo (G : Nat → KT) (Q : Option mV → mM → Prop) (h0 : ∀ lv st M, BX12_undo_0 G Q lv st M → G 0 lv st M) (h15 : ∀ lv st M, BX12_undo_15 G Q lv st M → G 15 lv st M) (h27 : ∀ lv st M, BX12_undo_27 G Q lv st M → G 27 lv st M) (h59 : ∀ lv st M, BX12_undo_59 G Q lv st M → G 59 lv st M) (as : List mV) (M : mM) (ho : ∀ v ∈ as, okV v) (hp : pre_X12_undo as M) (hQ : Q (fn_X12_undo as M).1 (fn_X12_undo as M).2) : G 0 (inL as ++ List.replicate (2 - (inL as).length) none) [] M := by
  obtain ⟨c, rfl, hM⟩ := hp
  obtain rfl : c = 158 := k12 (ho (.inr (.inr (12, c))) (by simp))
  have hI := MI_0 hM
  simp only [fn_X12_undo, m_undo] at hQ
  (apply h0; simp only [BX12_undo_0, s_mth, s_mab, s_at, s_iconst, s_lconst, s_iload, s_lload, s_aload, s_istore, s_lstore, s_astore, s_iinc, s_bin, s_binG, s_un, s_lbin, s_lbinG, s_lsh, s_lcmp, s_i2l, s_l2i, s_dup, s_dup2, s_pop, s_if, s_icmp, s_geti, s_getl, s_getr, s_puti, s_putz, s_putl, s_iald, s_zald, s_iast, s_zast, s_aaldS, s_aaldU, s_gets, s_tald, s_tsw, tsw, s_iret, s_zret, s_lret, s_aret, s_vret, s_callV, s_callS, c1, nl1, keepL, csum, pushR, inL, List.getD_cons_zero, List.getD_cons_succ, List.set_cons_zero, List.set_cons_succ, List.cons_append, List.nil_append, List.append_nil, List.replicate, List.length_cons, List.length_nil, List.take_succ_cons, List.take_zero, List.drop_succ_cons, List.drop_zero, List.reverse_cons, List.reverse_nil, true_and, and_true, forall_const, not_true_eq_false, not_false_eq_true, false_implies, true_implies, implies_true, one0, m10, Nat.reduceAdd, Nat.reduceSub, Nat.reduceLeDiff, Nat.zero_add, Nat.add_zero])
  rw [show mset M 158 0 0 = m0 M from rfl]
  generalize m0 M = M0 at *
  refine ⟨fun h => ?_, fun h => ?_⟩
  · rw [if_pos h] at hQ; exact hQ
  · rw [if_neg h] at hQ
    obtain ⟨D, hD, eD⟩ := hI.2.1
    have hd : D ≠ 0 := fun g => h (by rw [eD, g]; rfl)
    obtain ⟨d, rfl⟩ : ∃ d, D = d + 1 := ⟨D - 1, by omega⟩
    have e20 : (unM M0).1 158 20 = nI d := by unfold unM; rw [mset_s, eD, nI_pred]
    (apply h15; simp only [BX12_undo_15, s_mth, s_mab, s_at, s_iconst, s_lconst, s_iload, s_lload, s_aload, s_istore, s_lstore, s_astore, s_iinc, s_bin, s_binG, s_un, s_lbin, s_lbinG, s_lsh, s_lcmp, s_i2l, s_l2i, s_dup, s_dup2, s_pop, s_if, s_icmp, s_geti, s_getl, s_getr, s_puti, s_putz, s_putl, s_iald, s_zald, s_iast, s_zast, s_aaldS, s_aaldU, s_gets, s_tald, s_tsw, tsw, s_iret, s_zret, s_lret, s_aret, s_vret, s_callV, s_callS, c1, nl1, keepL, csum, pushR, inL, List.getD_cons_zero, List.getD_cons_succ, List.set_cons_zero, List.set_cons_succ, List.cons_append, List.nil_append, List.append_nil, List.replicate, List.length_cons, List.length_nil, List.take_succ_cons, List.take_zero, List.drop_succ_cons, List.drop_zero, List.reverse_cons, List.reverse_nil, true_and, and_true, forall_const, not_true_eq_false, not_false_eq_true, false_implies, true_implies, implies_true, one0, m10, Nat.reduceAdd, Nat.reduceSub, Nat.reduceLeDiff, Nat.zero_add, Nat.add_zero])
    rw [show mset M0 158 20 (M0.1 158 20 - 1) = unM M0 from rfl]
    unfold unR ntD at hQ
    rw [e20, nI_clamp (by omega : d < 2 ^ 31)] at hQ
    rw [← cpyM_e] at hQ
    generalize unM M0 = M1 at *
    have loop : ∀ (n i : Nat) (M' : mM), i + n = 52 → M'.1 168 = M1.1 168 → M'.1 158 = M1.1 158 → Q (some (.inl (nI d))) (cpyM M' 165 (fun k => M1.1 168 (52 * d + k)) 0 n i) → G 27 [some (.inr (.inr (12, 158))), some (.inl (nI i))] [] M' := by
      intro n
      induction n with
      | zero =>
        intro i M' hi h168 h158 hq
        obtain rfl : i = 52 := by omega
        (apply h27; simp only [BX12_undo_27, s_mth, s_mab, s_at, s_iconst, s_lconst, s_iload, s_lload, s_aload, s_istore, s_lstore, s_astore, s_iinc, s_bin, s_binG, s_un, s_lbin, s_lbinG, s_lsh, s_lcmp, s_i2l, s_l2i, s_dup, s_dup2, s_pop, s_if, s_icmp, s_geti, s_getl, s_getr, s_puti, s_putz, s_putl, s_iald, s_zald, s_iast, s_zast, s_aaldS, s_aaldU, s_gets, s_tald, s_tsw, tsw, s_iret, s_zret, s_lret, s_aret, s_vret, s_callV, s_callS, c1, nl1, keepL, csum, pushR, inL, List.getD_cons_zero, List.getD_cons_succ, List.set_cons_zero, List.set_cons_succ, List.cons_append, List.nil_append, List.append_nil, List.replicate, List.length_cons, List.length_nil, List.take_succ_cons, List.take_zero, List.drop_succ_cons, List.drop_zero, List.reverse_cons, List.reverse_nil, true_and, and_true, forall_const, not_true_eq_false, not_false_eq_true, false_implies, true_implies, implies_true, one0, m10, Nat.reduceAdd, Nat.reduceSub, Nat.reduceLeDiff, Nat.zero_add, Nat.add_zero])
        refine ⟨fun _ => ?_, fun h => absurd (by decide) h⟩
        (apply h59; simp only [BX12_undo_59, s_mth, s_mab, s_at, s_iconst, s_lconst, s_iload, s_lload, s_aload, s_istore, s_lstore, s_astore, s_iinc, s_bin, s_binG, s_un, s_lbin, s_lbinG, s_lsh, s_lcmp, s_i2l, s_l2i, s_dup, s_dup2, s_pop, s_if, s_icmp, s_geti, s_getl, s_getr, s_puti, s_putz, s_putl, s_iald, s_zald, s_iast, s_zast, s_aaldS, s_aaldU, s_gets, s_tald, s_tsw, tsw, s_iret, s_zret, s_lret, s_aret, s_vret, s_callV, s_callS, c1, nl1, keepL, csum, pushR, inL, List.getD_cons_zero, List.getD_cons_succ, List.set_cons_zero, List.set_cons_succ, List.cons_append, List.nil_append, List.append_nil, List.replicate, List.length_cons, List.length_nil, List.take_succ_cons, List.take_zero, List.drop_succ_cons, List.drop_zero, List.reverse_cons, List.reverse_nil, true_and, and_true, forall_const, not_true_eq_false, not_false_eq_true, false_implies, true_implies, implies_true, one0, m10, Nat.reduceAdd, Nat.reduceSub, Nat.reduceLeDiff, Nat.zero_add, Nat.add_zero])
        rw [h158, e20]
        exact hq
      | succ n ih =>
        intro i M' hi h168 h158 hq
        have ei : (nI i).toNatClampNeg = i := nI_clamp (by omega)
        have hv : vp_in (nI i) 52 := vp_in_nI (by omega) (by decide)
        have e1 : (52 : Int32) * nI d + nI i = nI (52 * d + i) := by rw [show (52 : Int32) = nI 52 from rfl, pk_mul, nI_add]
        (apply h27; simp only [BX12_undo_27, s_mth, s_mab, s_at, s_iconst, s_lconst, s_iload, s_lload, s_aload, s_istore, s_lstore, s_astore, s_iinc, s_bin, s_binG, s_un, s_lbin, s_lbinG, s_lsh, s_lcmp, s_i2l, s_l2i, s_dup, s_dup2, s_pop, s_if, s_icmp, s_geti, s_getl, s_getr, s_puti, s_putz, s_putl, s_iald, s_zald, s_iast, s_zast, s_aaldS, s_aaldU, s_gets, s_tald, s_tsw, tsw, s_iret, s_zret, s_lret, s_aret, s_vret, s_callV, s_callS, c1, nl1, keepL, csum, pushR, inL, List.getD_cons_zero, List.getD_cons_succ, List.set_cons_zero, List.set_cons_succ, List.cons_append, List.nil_append, List.append_nil, List.replicate, List.length_cons, List.length_nil, List.take_succ_cons, List.take_zero, List.drop_succ_cons, List.drop_zero, List.reverse_cons, List.reverse_nil, true_and, and_true, forall_const, not_true_eq_false, not_false_eq_true, false_implies, true_implies, implies_true, one0, m10, Nat.reduceAdd, Nat.reduceSub, Nat.reduceLeDiff, Nat.zero_add, Nat.add_zero])
        simp only [lM, ei, h168, h158, e20, e1]
        refine ⟨fun h => absurd h (nI_ge (b := 52) (by omega) (by decide)), fun _ => ⟨vz (by omega) (by decide), hv, ?_⟩⟩
        rw [nI_1, nI_clamp (by omega)]
        refine ih (i + 1) _ (by omega) ?_ ?_ ?_
        · rw [mset_n (by decide)]; exact h168
        · rw [mset_n (by decide)]; exact h158
        · rw [cpyM, Nat.zero_add] at hq; exact hq
    exact loop 52 0 M1 rfl rfl rfl hQ
theorem ct_X12_undo (l : Launch) : Con l yX12_undo cX12_undo 2 (Option.some FieldType.int) 0 pre_X12_undo fn_X12_undo := con_of (by decide +kernel) ok_X12_undo len_X12_undo (fun p e s m args below meth c D ca ad A as M hX hr hp ho => pf_X12_undo _ _ (bsX12_undo_0 hX hr) (bsX12_undo_15 hX hr) (bsX12_undo_27 hX hr) (bsX12_undo_59 hX hr) as M ho hp ⟨rfl, rfl⟩)
theorem lay_n {M : mM} {a : Nat} (h : a ≠ 166) : (lay M).1 a = M.1 a := rset_n h
theorem lay_i {M : mM} {j : Nat} (h : j < 52) : (lay M).1 166 j = M.1 165 j := by
  unfold lay
  rw [rset_1, cpyR_get, if_pos (by omega), Nat.sub_zero]
theorem PM_lay {M : mM} (h : PM M) : PM (lay M) := PM_of h (by rw [lay_n (by decide)]) (by rw [lay_n (by decide)]) (lay_n (by decide))
theorem PG_lay {M : mM} {b : Nat} (h : PG M 165 b) : PG (lay M) 166 b := by
  obtain ⟨h1, c, hc, e⟩ := h
  exact ⟨by decide, c, hc, by rw [lay_i (by decide)]; exact e⟩
theorem nM_lay {M : mM} : nM (lay M) = nM M := by unfold nM; rw [lay_n (by decide)]
def m_ahead (M : mM) (n u w : Int32) : Int32 × mM := if nu M u = 0 then (if wi n 0 99 = 0 then (-2, M) else if wi w 5 10 = 0 then (-2, M) else ((sos (lay M) 166 n.toNatClampNeg).2.1 166 (10 * u.toNatClampNeg + w.toNatClampNeg - 1), (sos (lay M) 166 n.toNatClampNeg).2)) else (-1, M)
def pre_X12_ahead (as : List mV) (M : mM) : Prop := ∃ c n u w, as = [.inr (.inr (12, c)), .inl n, .inl u, .inl w] ∧ MI M
def fn_X12_ahead : List mV → mM → Option mV × mM
  | [.inr (.inr (_, c)), .inl n, .inl u, .inl w], M => (some (.inl (m_ahead (m0 M) n u w).1), (m_ahead (m0 M) n u w).2)
  | _, M => (none, M)
theorem ok_X12_ahead (as : List mV) (M : mM) (h : pre_X12_ahead as M) (_ : ∀ v ∈ as, okV v) : okR (fn_X12_ahead as M).1 := by
  obtain ⟨c, n, u, w, rfl, -⟩ := h
  first | trivial | exact (by decide +kernel : kof 14 = 8)
theorem len_X12_ahead (as : List mV) (M : mM) (h : pre_X12_ahead as M) : (inL as).length ≤ 4 := by
  obtain ⟨c, n, u, w, rfl, -⟩ := h
  exact Nat.le_of_ble_eq_true rfl


theorem dX12_ahead_0 : decode cX12_ahead 0 = .ok (.aload_n 0, 1) := by decide +kernel
theorem dX12_ahead_1 : decode cX12_ahead 1 = .ok (.iconst 0, 1) := by decide +kernel
theorem dX12_ahead_2 : decode cX12_ahead 2 = .ok (.putfield 1, 3) := by decide +kernel
theorem dX12_ahead_5 : decode cX12_ahead 5 = .ok (.aload_n 0, 1) := by decide +kernel
theorem dX12_ahead_6 : decode cX12_ahead 6 = .ok (.iload_n 2, 1) := by decide +kernel
theorem dX12_ahead_7 : decode cX12_ahead 7 = .ok (.invokevirtual 156, 3) := by decide +kernel
theorem dX12_ahead_10 : decode cX12_ahead 10 = .ok (.ifCond .eq 5, 3) := by decide +kernel
theorem dX12_ahead_13 : decode cX12_ahead 13 = .ok (.iconst (-1), 1) := by decide +kernel
theorem dX12_ahead_14 : decode cX12_ahead 14 = .ok (.ireturn, 1) := by decide +kernel
theorem dX12_ahead_15 : decode cX12_ahead 15 = .ok (.iload_n 1, 1) := by decide +kernel
theorem dX12_ahead_16 : decode cX12_ahead 16 = .ok (.i2l, 1) := by decide +kernel
theorem dX12_ahead_17 : decode cX12_ahead 17 = .ok (.lconst 0, 1) := by decide +kernel
theorem dX12_ahead_18 : decode cX12_ahead 18 = .ok (.ldc2_w 162, 3) := by decide +kernel
theorem dX12_ahead_21 : decode cX12_ahead 21 = .ok (.invokestatic 17, 3) := by decide +kernel
theorem dX12_ahead_24 : decode cX12_ahead 24 = .ok (.ifCond .eq 17, 3) := by decide +kernel
theorem dX12_ahead_27 : decode cX12_ahead 27 = .ok (.iload_n 3, 1) := by decide +kernel
theorem dX12_ahead_28 : decode cX12_ahead 28 = .ok (.i2l, 1) := by decide +kernel
theorem dX12_ahead_29 : decode cX12_ahead 29 = .ok (.ldc2_w 174, 3) := by decide +kernel
theorem dX12_ahead_32 : decode cX12_ahead 32 = .ok (.ldc2_w 160, 3) := by decide +kernel
theorem dX12_ahead_35 : decode cX12_ahead 35 = .ok (.invokestatic 17, 3) := by decide +kernel
theorem dX12_ahead_38 : decode cX12_ahead 38 = .ok (.ifCond .ne 6, 3) := by decide +kernel
theorem dX12_ahead_41 : decode cX12_ahead 41 = .ok (.bipush (-2), 2) := by decide +kernel
theorem dX12_ahead_43 : decode cX12_ahead 43 = .ok (.ireturn, 1) := by decide +kernel
theorem dX12_ahead_44 : decode cX12_ahead 44 = .ok (.aload_n 0, 1) := by decide +kernel
theorem dX12_ahead_45 : decode cX12_ahead 45 = .ok (.invokevirtual 176, 3) := by decide +kernel
theorem dX12_ahead_48 : decode cX12_ahead 48 = .ok (.aload_n 0, 1) := by decide +kernel
theorem dX12_ahead_49 : decode cX12_ahead 49 = .ok (.aload_n 0, 1) := by decide +kernel
theorem dX12_ahead_50 : decode cX12_ahead 50 = .ok (.getfield 7, 3) := by decide +kernel
theorem dX12_ahead_53 : decode cX12_ahead 53 = .ok (.iload_n 1, 1) := by decide +kernel
theorem dX12_ahead_54 : decode cX12_ahead 54 = .ok (.invokevirtual 167, 3) := by decide +kernel
theorem dX12_ahead_57 : decode cX12_ahead 57 = .ok (.pop, 1) := by decide +kernel
theorem dX12_ahead_58 : decode cX12_ahead 58 = .ok (.aload_n 0, 1) := by decide +kernel
theorem dX12_ahead_59 : decode cX12_ahead 59 = .ok (.getfield 7, 3) := by decide +kernel
theorem dX12_ahead_62 : decode cX12_ahead 62 = .ok (.bipush 10, 2) := by decide +kernel
theorem dX12_ahead_64 : decode cX12_ahead 64 = .ok (.iload_n 2, 1) := by decide +kernel
theorem dX12_ahead_65 : decode cX12_ahead 65 = .ok (.imul, 1) := by decide +kernel
theorem dX12_ahead_66 : decode cX12_ahead 66 = .ok (.iload_n 3, 1) := by decide +kernel
theorem dX12_ahead_67 : decode cX12_ahead 67 = .ok (.iadd, 1) := by decide +kernel
theorem dX12_ahead_68 : decode cX12_ahead 68 = .ok (.iconst 1, 1) := by decide +kernel
theorem dX12_ahead_69 : decode cX12_ahead 69 = .ok (.isub, 1) := by decide +kernel
theorem dX12_ahead_70 : decode cX12_ahead 70 = .ok (.iaload, 1) := by decide +kernel
theorem dX12_ahead_71 : decode cX12_ahead 71 = .ok (.ireturn, 1) := by decide +kernel
theorem mk_X12_ahead : MVk yX12_ahead "FairBlocksModel" cX12_ahead 4 (Option.some FieldType.int) 3 := ⟨w_938, w_936, w_937, w_13, rfl, by decide +kernel, by decide +kernel, by decide +kernel⟩
def BX12_ahead_0 (G : Nat → KT) (Q : Option mV → mM → Prop) : KT := (s_aload 0 (s_iconst (0) (s_puti 12 0 (s_aload 0 (s_iload 2 (s_callV 12 1 pre_X12_noUser fn_X12_noUser (s_if (fun x => x = 0) (s_at G 15 [true, true, true, true]) (s_iconst (-1) (s_iret Q)))))))))
set_option maxRecDepth 4000 in
theorem bsX12_ahead_0 {p : Program} {l : Launch} {e : Env} {s : State} {m : MethodId} {args : Array Value} {below : List Frame} {meth : Method} {c : Code} {D : va_G} {ca : Nat → ClassId} {ad : Nat → Nat} {A : Nat → Prop} {Q : Option mV → mM → Prop} (hX : CX p s m args meth c 4 cX12_ahead "FairBlocksModel" D ca ad A) (hr : meth.sig.returnType = (Option.some FieldType.int)) : ∀ lv st M, BX12_ahead_0 (Gd p l e (rmD 5) s m args below meth c 4 D ca ad A 0 0 (MQ below (QC D ca ad A Q) args s 0 0 A)) Q lv st M → Gd p l e (rmD 5) s m args below meth c 4 D ca ad A 0 0 (MQ below (QC D ca ad A Q) args s 0 0 A) 0 lv st M :=
  (sd_aload_n hX dX12_ahead_0 rfl (sd_iconst hX dX12_ahead_1 rfl (sd_puti hX fp_723 dX12_ahead_2 (sd_aload_n hX dX12_ahead_5 rfl (sd_iload_n hX dX12_ahead_6 rfl (sd_callV hX (kd := 12) rfl (by decide) (ct_X12_noUser l) mk_X12_noUser w_860 ⟨⟨by decide, by decide⟩, by decide, by decide⟩ dX12_ahead_7 (sd_if_eq hX dX12_ahead_10 (by decide) sd_at (sd_iconst hX dX12_ahead_13 rfl (sd_iret hX hr dX12_ahead_14)))))))))
def BX12_ahead_15 (G : Nat → KT) (Q : Option mV → mM → Prop) : KT := (s_iload 1 (s_i2l (s_lconst 0 (s_lconst (99) (s_callS 3 pre_X12_in fn_X12_in (s_if (fun x => x = 0) (s_at G 41 [false, false, false, false]) (s_iload 3 (s_i2l (s_lconst (5) (s_lconst (10) (s_callS 3 pre_X12_in fn_X12_in (s_if (fun x => x = 0) ((s_at G 41 [false, false, false, false])) (s_at G 44 [true, true, true, true])))))))))))))
set_option maxRecDepth 4000 in
theorem bsX12_ahead_15 {p : Program} {l : Launch} {e : Env} {s : State} {m : MethodId} {args : Array Value} {below : List Frame} {meth : Method} {c : Code} {D : va_G} {ca : Nat → ClassId} {ad : Nat → Nat} {A : Nat → Prop} {Q : Option mV → mM → Prop} (hX : CX p s m args meth c 4 cX12_ahead "FairBlocksModel" D ca ad A) (hr : meth.sig.returnType = (Option.some FieldType.int)) : ∀ lv st M, BX12_ahead_15 (Gd p l e (rmD 5) s m args below meth c 4 D ca ad A 0 0 (MQ below (QC D ca ad A Q) args s 0 0 A)) Q lv st M → Gd p l e (rmD 5) s m args below meth c 4 D ca ad A 0 0 (MQ below (QC D ca ad A Q) args s 0 0 A) 15 lv st M :=
  (sd_iload_n hX dX12_ahead_15 rfl (sd_i2l hX dX12_ahead_16 (sd_lconst hX dX12_ahead_17 rfl (sd_ldc2 hX w_873 dX12_ahead_18 (sd_callS hX (ct_X12_in l) mk_X12_in w_825 ⟨⟨by decide, by decide⟩, by decide, by decide⟩ dX12_ahead_21 (sd_if_eq hX dX12_ahead_24 (by decide) sd_at (sd_iload_n hX dX12_ahead_27 rfl (sd_i2l hX dX12_ahead_28 (sd_ldc2 hX w_939 dX12_ahead_29 (sd_ldc2 hX w_864 dX12_ahead_32 (sd_callS hX (ct_X12_in l) mk_X12_in w_825 ⟨⟨by decide, by decide⟩, by decide, by decide⟩ dX12_ahead_35 (sd_if_ne hX dX12_ahead_38 (by decide) sd_at sd_at))))))))))))
def BX12_ahead_41 (G : Nat → KT) (Q : Option mV → mM → Prop) : KT := (s_iconst (-2) (s_iret Q))
set_option maxRecDepth 4000 in
theorem bsX12_ahead_41 {p : Program} {l : Launch} {e : Env} {s : State} {m : MethodId} {args : Array Value} {below : List Frame} {meth : Method} {c : Code} {D : va_G} {ca : Nat → ClassId} {ad : Nat → Nat} {A : Nat → Prop} {Q : Option mV → mM → Prop} (hX : CX p s m args meth c 4 cX12_ahead "FairBlocksModel" D ca ad A) (hr : meth.sig.returnType = (Option.some FieldType.int)) : ∀ lv st M, BX12_ahead_41 (Gd p l e (rmD 5) s m args below meth c 4 D ca ad A 0 0 (MQ below (QC D ca ad A Q) args s 0 0 A)) Q lv st M → Gd p l e (rmD 5) s m args below meth c 4 D ca ad A 0 0 (MQ below (QC D ca ad A Q) args s 0 0 A) 41 lv st M :=
  (sd_bipush hX dX12_ahead_41 rfl (sd_iret hX hr dX12_ahead_43))
def BX12_ahead_44 (G : Nat → KT) (Q : Option mV → mM → Prop) : KT := (s_aload 0 (s_callV 12 0 pre_X12_layTrial fn_X12_layTrial (s_aload 0 (s_aload 0 (s_getr 12 13 (fun _ => 166) (s_iload 1 (s_callV 12 2 pre_X12_slotsOn fn_X12_slotsOn (s_pop (s_aload 0 (s_getr 12 13 (fun _ => 166) (s_iconst (10) (s_iload 2 (s_bin (fun x y => x * y) (s_iload 3 (s_bin (fun x y => x + y) (s_iconst (1) (s_bin (fun x y => x - y) (s_iald (s_iret Q)))))))))))))))))))
set_option maxRecDepth 4000 in
theorem bsX12_ahead_44 {p : Program} {l : Launch} {e : Env} {s : State} {m : MethodId} {args : Array Value} {below : List Frame} {meth : Method} {c : Code} {D : va_G} {ca : Nat → ClassId} {ad : Nat → Nat} {A : Nat → Prop} {Q : Option mV → mM → Prop} (hX : CX p s m args meth c 4 cX12_ahead "FairBlocksModel" D ca ad A) (hr : meth.sig.returnType = (Option.some FieldType.int)) : ∀ lv st M, BX12_ahead_44 (Gd p l e (rmD 5) s m args below meth c 4 D ca ad A 0 0 (MQ below (QC D ca ad A Q) args s 0 0 A)) Q lv st M → Gd p l e (rmD 5) s m args below meth c 4 D ca ad A 0 0 (MQ below (QC D ca ad A Q) args s 0 0 A) 44 lv st M :=
  (sd_aload_n hX dX12_ahead_44 rfl (sd_callV hX (kd := 12) rfl (by decide) (ct_X12_layTrial l) mk_X12_layTrial w_940 ⟨⟨by decide, by decide⟩, by decide, by decide⟩ dX12_ahead_45 (sd_aload_n hX dX12_ahead_48 rfl (sd_aload_n hX dX12_ahead_49 rfl (sd_getr hX fl_740 (fun _ => rfl) (fun _ _ _ => by decide +kernel) dX12_ahead_50 (sd_iload_n hX dX12_ahead_53 rfl (sd_callV hX (kd := 12) rfl (by decide) (ct_X12_slotsOn l) mk_X12_slotsOn w_878 ⟨⟨by decide, by decide⟩, by decide, by decide⟩ dX12_ahead_54 (sd_pop hX dX12_ahead_57 (sd_aload_n hX dX12_ahead_58 rfl (sd_getr hX fl_740 (fun _ => rfl) (fun _ _ _ => by decide +kernel) dX12_ahead_59 (sd_bipush hX dX12_ahead_62 rfl (sd_iload_n hX dX12_ahead_64 rfl (sd_imul hX dX12_ahead_65 (sd_iload_n hX dX12_ahead_66 rfl (sd_iadd hX dX12_ahead_67 (sd_iconst hX dX12_ahead_68 rfl (sd_isub hX dX12_ahead_69 (sd_iald hX dX12_ahead_70 (sd_iret hX hr dX12_ahead_71)))))))))))))))))))
set_option maxHeartbeats 400000 in
theorem pf_X12_ahead (G : Nat → KT) (Q : Option mV → mM → Prop) (h0 : ∀ lv st M, BX12_ahead_0 G Q lv st M → G 0 lv st M) (h15 : ∀ lv st M, BX12_ahead_15 G Q lv st M → G 15 lv st M) (h41 : ∀ lv st M, BX12_ahead_41 G Q lv st M → G 41 lv st M) (h44 : ∀ lv st M, BX12_ahead_44 G Q lv st M → G 44 lv st M) (as : List mV) (M : mM) (ho : ∀ v ∈ as, okV v) (hp : pre_X12_ahead as M) (hQ : Q (fn_X12_ahead as M).1 (fn_X12_ahead as M).2) : G 0 (inL as ++ List.replicate (4 - (inL as).length) none) [] M := by
  obtain ⟨c, n, u, w, rfl, hM⟩ := hp
  obtain rfl : c = 158 := k12 (ho (.inr (.inr (12, c))) (by simp))
  have hI := MI_0 hM
  have e : iL n.toInt64 0 99 = wi n 0 99 := iLw n 0 99
  have e' : iL w.toInt64 5 10 = wi w 5 10 := iLw w 5 10
  simp only [fn_X12_ahead, m_ahead] at hQ
  (apply h0; simp only [BX12_ahead_0, s_mth, s_mab, s_at, s_iconst, s_lconst, s_iload, s_lload, s_aload, s_istore, s_lstore, s_astore, s_iinc, s_bin, s_binG, s_un, s_lbin, s_lbinG, s_lsh, s_lcmp, s_i2l, s_l2i, s_dup, s_dup2, s_pop, s_if, s_icmp, s_geti, s_getl, s_getr, s_puti, s_putz, s_putl, s_iald, s_zald, s_iast, s_zast, s_aaldS, s_aaldU, s_gets, s_tald, s_tsw, tsw, s_iret, s_zret, s_lret, s_aret, s_vret, s_callV, s_callS, c1, nl1, keepL, csum, pushR, inL, List.getD_cons_zero, List.getD_cons_succ, List.set_cons_zero, List.set_cons_succ, List.cons_append, List.nil_append, List.append_nil, List.replicate, List.length_cons, List.length_nil, List.take_succ_cons, List.take_zero, List.drop_succ_cons, List.drop_zero, List.reverse_cons, List.reverse_nil, true_and, and_true, forall_const, not_true_eq_false, not_false_eq_true, false_implies, true_implies, implies_true, one0, m10, Nat.reduceAdd, Nat.reduceSub, Nat.reduceLeDiff, Nat.zero_add, Nat.add_zero, fn_X12_in, fn_X12_layTrial, fn_X12_noUser, fn_X12_slotsOn])
  rw [show mset M 158 0 0 = m0 M from rfl]
  generalize m0 M = M0 at *
  refine ⟨⟨_, _, rfl⟩, fun h => ?_, fun h => ?_⟩
  · rw [if_pos h] at hQ
    obtain ⟨j, hj, rfl⟩ := nu_u hI.1.1 h
    have hn := (nM_e hI.1.1).1
    rw [nI_clamp (by omega : j < 2 ^ 31)] at hQ
    (apply h15; simp only [BX12_ahead_15, s_mth, s_mab, s_at, s_iconst, s_lconst, s_iload, s_lload, s_aload, s_istore, s_lstore, s_astore, s_iinc, s_bin, s_binG, s_un, s_lbin, s_lbinG, s_lsh, s_lcmp, s_i2l, s_l2i, s_dup, s_dup2, s_pop, s_if, s_icmp, s_geti, s_getl, s_getr, s_puti, s_putz, s_putl, s_iald, s_zald, s_iast, s_zast, s_aaldS, s_aaldU, s_gets, s_tald, s_tsw, tsw, s_iret, s_zret, s_lret, s_aret, s_vret, s_callV, s_callS, c1, nl1, keepL, csum, pushR, inL, List.getD_cons_zero, List.getD_cons_succ, List.set_cons_zero, List.set_cons_succ, List.cons_append, List.nil_append, List.append_nil, List.replicate, List.length_cons, List.length_nil, List.take_succ_cons, List.take_zero, List.drop_succ_cons, List.drop_zero, List.reverse_cons, List.reverse_nil, true_and, and_true, forall_const, not_true_eq_false, not_false_eq_true, false_implies, true_implies, implies_true, one0, m10, Nat.reduceAdd, Nat.reduceSub, Nat.reduceLeDiff, Nat.zero_add, Nat.add_zero, fn_X12_in, fn_X12_layTrial, fn_X12_noUser, fn_X12_slotsOn])
    rw [e, e']
    refine ⟨⟨_, _, _, rfl⟩, fun h2 => ?_, fun h2 => ⟨⟨_, _, _, rfl⟩, fun h3 => ?_, fun h3 => ?_⟩⟩
    · rw [if_pos h2] at hQ
      (apply h41; simp only [BX12_ahead_41, s_mth, s_mab, s_at, s_iconst, s_lconst, s_iload, s_lload, s_aload, s_istore, s_lstore, s_astore, s_iinc, s_bin, s_binG, s_un, s_lbin, s_lbinG, s_lsh, s_lcmp, s_i2l, s_l2i, s_dup, s_dup2, s_pop, s_if, s_icmp, s_geti, s_getl, s_getr, s_puti, s_putz, s_putl, s_iald, s_zald, s_iast, s_zast, s_aaldS, s_aaldU, s_gets, s_tald, s_tsw, tsw, s_iret, s_zret, s_lret, s_aret, s_vret, s_callV, s_callS, c1, nl1, keepL, csum, pushR, inL, List.getD_cons_zero, List.getD_cons_succ, List.set_cons_zero, List.set_cons_succ, List.cons_append, List.nil_append, List.append_nil, List.replicate, List.length_cons, List.length_nil, List.take_succ_cons, List.take_zero, List.drop_succ_cons, List.drop_zero, List.reverse_cons, List.reverse_nil, true_and, and_true, forall_const, not_true_eq_false, not_false_eq_true, false_implies, true_implies, implies_true, one0, m10, Nat.reduceAdd, Nat.reduceSub, Nat.reduceLeDiff, Nat.zero_add, Nat.add_zero, fn_X12_in, fn_X12_layTrial, fn_X12_noUser, fn_X12_slotsOn])
      exact hQ
    · rw [if_neg h2, if_pos h3] at hQ
      (apply h41; simp only [BX12_ahead_41, s_mth, s_mab, s_at, s_iconst, s_lconst, s_iload, s_lload, s_aload, s_istore, s_lstore, s_astore, s_iinc, s_bin, s_binG, s_un, s_lbin, s_lbinG, s_lsh, s_lcmp, s_i2l, s_l2i, s_dup, s_dup2, s_pop, s_if, s_icmp, s_geti, s_getl, s_getr, s_puti, s_putz, s_putl, s_iald, s_zald, s_iast, s_zast, s_aaldS, s_aaldU, s_gets, s_tald, s_tsw, tsw, s_iret, s_zret, s_lret, s_aret, s_vret, s_callV, s_callS, c1, nl1, keepL, csum, pushR, inL, List.getD_cons_zero, List.getD_cons_succ, List.set_cons_zero, List.set_cons_succ, List.cons_append, List.nil_append, List.append_nil, List.replicate, List.length_cons, List.length_nil, List.take_succ_cons, List.take_zero, List.drop_succ_cons, List.drop_zero, List.reverse_cons, List.reverse_nil, true_and, and_true, forall_const, not_true_eq_false, not_false_eq_true, false_implies, true_implies, implies_true, one0, m10, Nat.reduceAdd, Nat.reduceSub, Nat.reduceLeDiff, Nat.zero_add, Nat.add_zero, fn_X12_in, fn_X12_layTrial, fn_X12_noUser, fn_X12_slotsOn])
      exact hQ
    · rw [if_neg h2, if_neg h3] at hQ
      obtain ⟨N, -, hN, rfl⟩ := wi_g (d := 0) (c := 99) rfl rfl (by decide) (by decide) h2
      obtain ⟨W, hW0, hW, rfl⟩ := wi_g (d := 5) (c := 10) rfl rfl (by decide) (by decide) h3
      obtain ⟨w1, rfl⟩ : ∃ w1, W = w1 + 1 := ⟨W - 1, by omega⟩
      have e1 : (10 : Int32) * nI j + nI (w1 + 1) - 1 = nI (10 * j + w1) := by
        rw [show (10 : Int32) = nI 10 from rfl, pk_mul, nI_add, show 10 * j + (w1 + 1) = 10 * j + w1 + 1 from rfl, nI_pred]
      rw [nI_clamp (by omega : w1 + 1 < 2 ^ 31)] at hQ
      (apply h44; simp only [BX12_ahead_44, s_mth, s_mab, s_at, s_iconst, s_lconst, s_iload, s_lload, s_aload, s_istore, s_lstore, s_astore, s_iinc, s_bin, s_binG, s_un, s_lbin, s_lbinG, s_lsh, s_lcmp, s_i2l, s_l2i, s_dup, s_dup2, s_pop, s_if, s_icmp, s_geti, s_getl, s_getr, s_puti, s_putz, s_putl, s_iald, s_zald, s_iast, s_zast, s_aaldS, s_aaldU, s_gets, s_tald, s_tsw, tsw, s_iret, s_zret, s_lret, s_aret, s_vret, s_callV, s_callS, c1, nl1, keepL, csum, pushR, inL, List.getD_cons_zero, List.getD_cons_succ, List.set_cons_zero, List.set_cons_succ, List.cons_append, List.nil_append, List.append_nil, List.replicate, List.length_cons, List.length_nil, List.take_succ_cons, List.take_zero, List.drop_succ_cons, List.drop_zero, List.reverse_cons, List.reverse_nil, true_and, and_true, forall_const, not_true_eq_false, not_false_eq_true, false_implies, true_implies, implies_true, one0, m10, Nat.reduceAdd, Nat.reduceSub, Nat.reduceLeDiff, Nat.zero_add, Nat.add_zero, fn_X12_in, fn_X12_layTrial, fn_X12_noUser, fn_X12_slotsOn])
      rw [e1]
      simp only [lM]
      rw [nI_clamp (by omega : 10 * j + w1 < 2 ^ 31)]
      exact ⟨⟨_, rfl⟩, ⟨_, _, _, rfl, PM_lay hI.1.1, N, by omega, rfl, PG_le (PG_lay hI.1.2) (by omega)⟩, vz (by omega) (by decide), hQ⟩
  · rw [if_neg h] at hQ; exact hQ
theorem ct_X12_ahead (l : Launch) : Con l yX12_ahead cX12_ahead 4 (Option.some FieldType.int) 5 pre_X12_ahead fn_X12_ahead := con_of (by decide +kernel) ok_X12_ahead len_X12_ahead (fun p e s m args below meth c D ca ad A as M hX hr hp ho => pf_X12_ahead _ _ (bsX12_ahead_0 hX hr) (bsX12_ahead_15 hX hr) (bsX12_ahead_41 hX hr) (bsX12_ahead_44 hX hr) as M ho hp ⟨rfl, rfl⟩)
def pre_X12_whoNext (as : List mV) (M : mM) : Prop := ∃ c r b, as = [.inr (.inr (12, c)), .inr (.inr (13, r)), .inl b] ∧ PQ M r ∧ ∃ j, j < 4 ∧ b = nI j
def fn_X12_whoNext : List mV → mM → Option mV × mM
  | [.inr (.inr (_, c)), .inr (.inr (_, r)), .inl b], M => (some (.inl ((so M r 0).2.1 176 b.toNatClampNeg)), (so M r 0).2)
  | _, M => (none, M)
theorem ok_X12_whoNext (as : List mV) (M : mM) (h : pre_X12_whoNext as M) (_ : ∀ v ∈ as, okV v) : okR (fn_X12_whoNext as M).1 := by
  obtain ⟨c, r, b, rfl, -⟩ := h
  first | trivial | exact (by decide +kernel : kof 14 = 8)
theorem len_X12_whoNext (as : List mV) (M : mM) (h : pre_X12_whoNext as M) : (inL as).length ≤ 3 := by
  obtain ⟨c, r, b, rfl, -⟩ := h
  exact Nat.le_of_ble_eq_true rfl


theorem dX12_whoNext_0 : decode cX12_whoNext 0 = .ok (.aload_n 0, 1) := by decide +kernel
theorem dX12_whoNext_1 : decode cX12_whoNext 1 = .ok (.aload_n 1, 1) := by decide +kernel
theorem dX12_whoNext_2 : decode cX12_whoNext 2 = .ok (.iconst 0, 1) := by decide +kernel
theorem dX12_whoNext_3 : decode cX12_whoNext 3 = .ok (.invokevirtual 152, 3) := by decide +kernel
theorem dX12_whoNext_6 : decode cX12_whoNext 6 = .ok (.pop, 1) := by decide +kernel
theorem dX12_whoNext_7 : decode cX12_whoNext 7 = .ok (.aload_n 0, 1) := by decide +kernel
theorem dX12_whoNext_8 : decode cX12_whoNext 8 = .ok (.getfield 79, 3) := by decide +kernel
theorem dX12_whoNext_11 : decode cX12_whoNext 11 = .ok (.iload_n 2, 1) := by decide +kernel
theorem dX12_whoNext_12 : decode cX12_whoNext 12 = .ok (.iaload, 1) := by decide +kernel
theorem dX12_whoNext_13 : decode cX12_whoNext 13 = .ok (.ireturn, 1) := by decide +kernel
theorem mk_X12_whoNext : MVk yX12_whoNext "FairBlocksModel" cX12_whoNext 3 (Option.some FieldType.int) 2 := ⟨w_951, w_950, wp_30, w_13, rfl, by decide +kernel, by decide +kernel, by decide +kernel⟩
def BX12_whoNext_0 (G : Nat → KT) (Q : Option mV → mM → Prop) : KT := (s_aload 0 (s_aload 1 (s_iconst (0) (s_callV 12 2 pre_X12_slotOn fn_X12_slotOn (s_pop (s_aload 0 (s_getr 12 13 (fun _ => 176) (s_iload 2 (s_iald (s_iret Q))))))))))
set_option maxRecDepth 4000 in
theorem bsX12_whoNext_0 {p : Program} {l : Launch} {e : Env} {s : State} {m : MethodId} {args : Array Value} {below : List Frame} {meth : Method} {c : Code} {D : va_G} {ca : Nat → ClassId} {ad : Nat → Nat} {A : Nat → Prop} {Q : Option mV → mM → Prop} (hX : CX p s m args meth c 3 cX12_whoNext "FairBlocksModel" D ca ad A) (hr : meth.sig.returnType = (Option.some FieldType.int)) : ∀ lv st M, BX12_whoNext_0 (Gd p l e (rmD 4) s m args below meth c 3 D ca ad A 0 0 (MQ below (QC D ca ad A Q) args s 0 0 A)) Q lv st M → Gd p l e (rmD 4) s m args below meth c 3 D ca ad A 0 0 (MQ below (QC D ca ad A Q) args s 0 0 A) 0 lv st M :=
  (sd_aload_n hX dX12_whoNext_0 rfl (sd_aload_n hX dX12_whoNext_1 rfl (sd_iconst hX dX12_whoNext_2 rfl (sd_callV hX (kd := 12) rfl (by decide) (ct_X12_slotOn l) mk_X12_slotOn w_882 ⟨⟨by decide, by decide⟩, by decide, by decide⟩ dX12_whoNext_3 (sd_pop hX dX12_whoNext_6 (sd_aload_n hX dX12_whoNext_7 rfl (sd_getr hX fl_753 (fun _ => rfl) (fun _ _ _ => by decide +kernel) dX12_whoNext_8 (sd_iload_n hX dX12_whoNext_11 rfl (sd_iald hX dX12_whoNext_12 (sd_iret hX hr dX12_whoNext_13))))))))))
set_option maxHeartbeats 400000 in
theorem pf_X12_whoNext (G : Nat → KT) (Q : Option mV → mM → Prop) (h0 : ∀ lv st M, BX12_whoNext_0 G Q lv st M → G 0 lv st M) (as : List mV) (M : mM) (ho : ∀ v ∈ as, okV v) (hp : pre_X12_whoNext as M) (hQ : Q (fn_X12_whoNext as M).1 (fn_X12_whoNext as M).2) : G 0 (inL as ++ List.replicate (3 - (inL as).length) none) [] M := by
  obtain ⟨c, r, b, rfl, hP, j, hj, rfl⟩ := hp
  simp only [fn_X12_whoNext] at hQ
  (apply h0; simp only [BX12_whoNext_0, s_mth, s_mab, s_at, s_iconst, s_lconst, s_iload, s_lload, s_aload, s_istore, s_lstore, s_astore, s_iinc, s_bin, s_binG, s_un, s_lbin, s_lbinG, s_lsh, s_lcmp, s_i2l, s_l2i, s_dup, s_dup2, s_pop, s_if, s_icmp, s_geti, s_getl, s_getr, s_puti, s_putz, s_putl, s_iald, s_zald, s_iast, s_zast, s_aaldS, s_aaldU, s_gets, s_tald, s_tsw, tsw, s_iret, s_zret, s_lret, s_aret, s_vret, s_callV, s_callS, c1, nl1, keepL, csum, pushR, inL, List.getD_cons_zero, List.getD_cons_succ, List.set_cons_zero, List.set_cons_succ, List.cons_append, List.nil_append, List.append_nil, List.replicate, List.length_cons, List.length_nil, List.take_succ_cons, List.take_zero, List.drop_succ_cons, List.drop_zero, List.reverse_cons, List.reverse_nil, true_and, and_true, forall_const, not_true_eq_false, not_false_eq_true, false_implies, true_implies, implies_true, one0, m10, Nat.reduceAdd, Nat.reduceSub, Nat.reduceLeDiff, Nat.zero_add, Nat.add_zero, fn_X12_slotOn])
  simp only [lM]
  exact ⟨⟨_, _, _, rfl, hP⟩, vz (by omega) (by decide), hQ⟩
theorem ct_X12_whoNext (l : Launch) : Con l yX12_whoNext cX12_whoNext 3 (Option.some FieldType.int) 4 pre_X12_whoNext fn_X12_whoNext := con_of (by decide +kernel) ok_X12_whoNext len_X12_whoNext (fun p e s m args below meth c D ca ad A as M hX hr hp ho => pf_X12_whoNext _ _ (bsX12_whoNext_0 hX hr) as M ho hp ⟨rfl, rfl⟩)
def m_who (M : mM) (b : Int32) : Int32 × mM := if wi b 0 (M.1 158 4 - 1) = 0 then (-2, M) else ((so (lay M) 166 0).2.1 176 b.toNatClampNeg, (so (lay M) 166 0).2)
theorem wi_b {M : mM} {b : Int32} (h : PM M) (hb : ¬ wi b 0 (M.1 158 4 - 1) = 0) : ∃ j, j < bM M ∧ b = nI j := by
  obtain ⟨hB, eB⟩ := bM_e h
  obtain ⟨h1, h2⟩ := wi_1 hb
  rw [eB] at h2
  obtain ⟨j, hj, rfl⟩ := nI_of h1
  refine ⟨j, ?_, rfl⟩
  rcases Nat.lt_or_ge j (bM M) with g | g
  · exact g
  · exfalso
    apply h2
    generalize bM M = n at *
    have : n = 0 ∨ ∃ k, n = k + 1 := by rcases n with _ | k; exact Or.inl rfl; exact Or.inr ⟨k, rfl⟩
    rcases this with rfl | ⟨k, rfl⟩
    · rw [show (nI 0 - 1 : Int32) = -1 from by decide, Int32.lt_iff_toInt_lt]
      rw [Int32.lt_iff_toInt_lt] at h1
      have a1 : (-1 : Int32).toInt = -1 := by decide
      have a0 : (0 : Int32).toInt = 0 := by decide
      omega
    · rw [nI_pred]
      exact nI_lt (by omega) (by omega)
def pre_X12_who (as : List mV) (M : mM) : Prop := ∃ c b, as = [.inr (.inr (12, c)), .inl b] ∧ MI M
def fn_X12_who : List mV → mM → Option mV × mM
  | [.inr (.inr (_, c)), .inl b], M => (some (.inl (m_who (m0 M) b).1), (m_who (m0 M) b).2)
  | _, M => (none, M)
theorem ok_X12_who (as : List mV) (M : mM) (h : pre_X12_who as M) (_ : ∀ v ∈ as, okV v) : okR (fn_X12_who as M).1 := by
  obtain ⟨c, b, rfl, -⟩ := h
  first | trivial | exact (by decide +kernel : kof 14 = 8)
theorem len_X12_who (as : List mV) (M : mM) (h : pre_X12_who as M) : (inL as).length ≤ 2 := by
  obtain ⟨c, b, rfl, -⟩ := h
  exact Nat.le_of_ble_eq_true rfl


theorem dX12_who_0 : decode cX12_who 0 = .ok (.aload_n 0, 1) := by decide +kernel
theorem dX12_who_1 : decode cX12_who 1 = .ok (.iconst 0, 1) := by decide +kernel
theorem dX12_who_2 : decode cX12_who 2 = .ok (.putfield 1, 3) := by decide +kernel
theorem dX12_who_5 : decode cX12_who 5 = .ok (.iload_n 1, 1) := by decide +kernel
theorem dX12_who_6 : decode cX12_who 6 = .ok (.i2l, 1) := by decide +kernel
theorem dX12_who_7 : decode cX12_who 7 = .ok (.lconst 0, 1) := by decide +kernel
theorem dX12_who_8 : decode cX12_who 8 = .ok (.aload_n 0, 1) := by decide +kernel
theorem dX12_who_9 : decode cX12_who 9 = .ok (.getfield 30, 3) := by decide +kernel
theorem dX12_who_12 : decode cX12_who 12 = .ok (.iconst 1, 1) := by decide +kernel
theorem dX12_who_13 : decode cX12_who 13 = .ok (.isub, 1) := by decide +kernel
theorem dX12_who_14 : decode cX12_who 14 = .ok (.i2l, 1) := by decide +kernel
theorem dX12_who_15 : decode cX12_who 15 = .ok (.invokestatic 17, 3) := by decide +kernel
theorem dX12_who_18 : decode cX12_who 18 = .ok (.ifCond .ne 6, 3) := by decide +kernel
theorem dX12_who_21 : decode cX12_who 21 = .ok (.bipush (-2), 2) := by decide +kernel
theorem dX12_who_23 : decode cX12_who 23 = .ok (.ireturn, 1) := by decide +kernel
theorem dX12_who_24 : decode cX12_who 24 = .ok (.aload_n 0, 1) := by decide +kernel
theorem dX12_who_25 : decode cX12_who 25 = .ok (.invokevirtual 176, 3) := by decide +kernel
theorem dX12_who_28 : decode cX12_who 28 = .ok (.aload_n 0, 1) := by decide +kernel
theorem dX12_who_29 : decode cX12_who 29 = .ok (.aload_n 0, 1) := by decide +kernel
theorem dX12_who_30 : decode cX12_who 30 = .ok (.getfield 7, 3) := by decide +kernel
theorem dX12_who_33 : decode cX12_who 33 = .ok (.iload_n 1, 1) := by decide +kernel
theorem dX12_who_34 : decode cX12_who 34 = .ok (.invokevirtual 179, 3) := by decide +kernel
theorem dX12_who_37 : decode cX12_who 37 = .ok (.ireturn, 1) := by decide +kernel
theorem mk_X12_who : MVk yX12_who "FairBlocksModel" cX12_who 2 (Option.some FieldType.int) 1 := ⟨w_947, w_945, w_946, w_13, rfl, by decide +kernel, by decide +kernel, by decide +kernel⟩
def BX12_who_0 (G : Nat → KT) (Q : Option mV → mM → Prop) : KT := (s_aload 0 (s_iconst (0) (s_puti 12 0 (s_iload 1 (s_i2l (s_lconst 0 (s_aload 0 (s_geti 12 4 (s_iconst (1) (s_bin (fun x y => x - y) (s_i2l (s_callS 3 pre_X12_in fn_X12_in (s_if (fun x => x = 0) ((s_iconst (-2) (s_iret Q))) (s_at G 24 [true, true]))))))))))))))
set_option maxRecDepth 4000 in
theorem bsX12_who_0 {p : Program} {l : Launch} {e : Env} {s : State} {m : MethodId} {args : Array Value} {below : List Frame} {meth : Method} {c : Code} {D : va_G} {ca : Nat → ClassId} {ad : Nat → Nat} {A : Nat → Prop} {Q : Option mV → mM → Prop} (hX : CX p s m args meth c 2 cX12_who "FairBlocksModel" D ca ad A) (hr : meth.sig.returnType = (Option.some FieldType.int)) : ∀ lv st M, BX12_who_0 (Gd p l e (rmD 5) s m args below meth c 2 D ca ad A 0 0 (MQ below (QC D ca ad A Q) args s 0 0 A)) Q lv st M → Gd p l e (rmD 5) s m args below meth c 2 D ca ad A 0 0 (MQ below (QC D ca ad A Q) args s 0 0 A) 0 lv st M :=
  (sd_aload_n hX dX12_who_0 rfl (sd_iconst hX dX12_who_1 rfl (sd_puti hX fp_723 dX12_who_2 (sd_iload_n hX dX12_who_5 rfl (sd_i2l hX dX12_who_6 (sd_lconst hX dX12_who_7 rfl (sd_aload_n hX dX12_who_8 rfl (sd_geti hX fl_727 (by decide) dX12_who_9 (sd_iconst hX dX12_who_12 rfl (sd_isub hX dX12_who_13 (sd_i2l hX dX12_who_14 (sd_callS hX (ct_X12_in l) mk_X12_in w_825 ⟨⟨by decide, by decide⟩, by decide, by decide⟩ dX12_who_15 (sd_if_ne hX dX12_who_18 (by decide) sd_at (sd_bipush hX dX12_who_21 rfl (sd_iret hX hr dX12_who_23)))))))))))))))
def BX12_who_24 (G : Nat → KT) (Q : Option mV → mM → Prop) : KT := (s_aload 0 (s_callV 12 0 pre_X12_layTrial fn_X12_layTrial (s_aload 0 (s_aload 0 (s_getr 12 13 (fun _ => 166) (s_iload 1 (s_callV 12 2 pre_X12_whoNext fn_X12_whoNext (s_iret Q))))))))
set_option maxRecDepth 4000 in
theorem bsX12_who_24 {p : Program} {l : Launch} {e : Env} {s : State} {m : MethodId} {args : Array Value} {below : List Frame} {meth : Method} {c : Code} {D : va_G} {ca : Nat → ClassId} {ad : Nat → Nat} {A : Nat → Prop} {Q : Option mV → mM → Prop} (hX : CX p s m args meth c 2 cX12_who "FairBlocksModel" D ca ad A) (hr : meth.sig.returnType = (Option.some FieldType.int)) : ∀ lv st M, BX12_who_24 (Gd p l e (rmD 5) s m args below meth c 2 D ca ad A 0 0 (MQ below (QC D ca ad A Q) args s 0 0 A)) Q lv st M → Gd p l e (rmD 5) s m args below meth c 2 D ca ad A 0 0 (MQ below (QC D ca ad A Q) args s 0 0 A) 24 lv st M :=
  (sd_aload_n hX dX12_who_24 rfl (sd_callV hX (kd := 12) rfl (by decide) (ct_X12_layTrial l) mk_X12_layTrial w_940 ⟨⟨by decide, by decide⟩, by decide, by decide⟩ dX12_who_25 (sd_aload_n hX dX12_who_28 rfl (sd_aload_n hX dX12_who_29 rfl (sd_getr hX fl_740 (fun _ => rfl) (fun _ _ _ => by decide +kernel) dX12_who_30 (sd_iload_n hX dX12_who_33 rfl (sd_callV hX (kd := 12) rfl (by decide) (ct_X12_whoNext l) mk_X12_whoNext w_948 ⟨⟨by decide, by decide⟩, by decide, by decide⟩ dX12_who_34 (sd_iret hX hr dX12_who_37))))))))
set_option maxHeartbeats 400000 in
theorem pf_X12_who (G : Nat → KT) (Q : Option mV → mM → Prop) (h0 : ∀ lv st M, BX12_who_0 G Q lv st M → G 0 lv st M) (h24 : ∀ lv st M, BX12_who_24 G Q lv st M → G 24 lv st M) (as : List mV) (M : mM) (ho : ∀ v ∈ as, okV v) (hp : pre_X12_who as M) (hQ : Q (fn_X12_who as M).1 (fn_X12_who as M).2) : G 0 (inL as ++ List.replicate (2 - (inL as).length) none) [] M := by
  obtain ⟨c, b, rfl, hM⟩ := hp
  obtain rfl : c = 158 := k12 (ho (.inr (.inr (12, c))) (by simp))
  have hI := MI_0 hM
  have e : iL b.toInt64 0 ((m0 M).1 158 4 - 1).toInt64 = wi b 0 ((m0 M).1 158 4 - 1) := iLw b 0 _
  simp only [fn_X12_who, m_who] at hQ
  (apply h0; simp only [BX12_who_0, s_mth, s_mab, s_at, s_iconst, s_lconst, s_iload, s_lload, s_aload, s_istore, s_lstore, s_astore, s_iinc, s_bin, s_binG, s_un, s_lbin, s_lbinG, s_lsh, s_lcmp, s_i2l, s_l2i, s_dup, s_dup2, s_pop, s_if, s_icmp, s_geti, s_getl, s_getr, s_puti, s_putz, s_putl, s_iald, s_zald, s_iast, s_zast, s_aaldS, s_aaldU, s_gets, s_tald, s_tsw, tsw, s_iret, s_zret, s_lret, s_aret, s_vret, s_callV, s_callS, c1, nl1, keepL, csum, pushR, inL, List.getD_cons_zero, List.getD_cons_succ, List.set_cons_zero, List.set_cons_succ, List.cons_append, List.nil_append, List.append_nil, List.replicate, List.length_cons, List.length_nil, List.take_succ_cons, List.take_zero, List.drop_succ_cons, List.drop_zero, List.reverse_cons, List.reverse_nil, true_and, and_true, forall_const, not_true_eq_false, not_false_eq_true, false_implies, true_implies, implies_true, one0, m10, Nat.reduceAdd, Nat.reduceSub, Nat.reduceLeDiff, Nat.zero_add, Nat.add_zero, fn_X12_in, fn_X12_layTrial, fn_X12_whoNext])
  rw [show mset M 158 0 0 = m0 M from rfl, e]
  generalize m0 M = M0 at *
  refine ⟨⟨_, _, _, rfl⟩, fun h => ?_, fun h => ?_⟩
  · rw [if_pos h] at hQ; exact hQ
  · rw [if_neg h] at hQ
    obtain ⟨j, hj, rfl⟩ := wi_b hI.1.1 h
    have hb := (bM_e hI.1.1).1
    (apply h24; simp only [BX12_who_24, s_mth, s_mab, s_at, s_iconst, s_lconst, s_iload, s_lload, s_aload, s_istore, s_lstore, s_astore, s_iinc, s_bin, s_binG, s_un, s_lbin, s_lbinG, s_lsh, s_lcmp, s_i2l, s_l2i, s_dup, s_dup2, s_pop, s_if, s_icmp, s_geti, s_getl, s_getr, s_puti, s_putz, s_putl, s_iald, s_zald, s_iast, s_zast, s_aaldS, s_aaldU, s_gets, s_tald, s_tsw, tsw, s_iret, s_zret, s_lret, s_aret, s_vret, s_callV, s_callS, c1, nl1, keepL, csum, pushR, inL, List.getD_cons_zero, List.getD_cons_succ, List.set_cons_zero, List.set_cons_succ, List.cons_append, List.nil_append, List.append_nil, List.replicate, List.length_cons, List.length_nil, List.take_succ_cons, List.take_zero, List.drop_succ_cons, List.drop_zero, List.reverse_cons, List.reverse_nil, true_and, and_true, forall_const, not_true_eq_false, not_false_eq_true, false_implies, true_implies, implies_true, one0, m10, Nat.reduceAdd, Nat.reduceSub, Nat.reduceLeDiff, Nat.zero_add, Nat.add_zero, fn_X12_in, fn_X12_layTrial, fn_X12_whoNext])
    exact ⟨⟨_, rfl⟩, ⟨_, _, _, rfl, ⟨PM_lay hI.1.1, PG_0 (PG_lay hI.1.2)⟩, j, by omega, rfl⟩, hQ⟩
theorem ct_X12_who (l : Launch) : Con l yX12_who cX12_who 2 (Option.some FieldType.int) 5 pre_X12_who fn_X12_who := con_of (by decide +kernel) ok_X12_who len_X12_who (fun p e s m args below meth c D ca ad A as M hX hr hp ho => pf_X12_who _ _ (bsX12_who_0 hX hr) (bsX12_who_24 hX hr) as M ho hp ⟨rfl, rfl⟩)
def mxx (w m : Int32) : Int32 := if w ≤ m then m else w
def lwMS (U : Nat) (_ : Nat) (q : Int32 × mM) : Int32 × mM := (mxx ((so q.2 166 0).2.1 166 (10 * U + 7)) q.1, (so q.2 166 0).2)
def m_longest (M : mM) (u n : Int32) : Int32 × mM := if nu M u = 0 then (if wi n 1 99 = 0 then (-2, M) else itr (lwMS u.toNatClampNeg) 0 n.toNatClampNeg (0, lay M)) else (-1, M)
def pre_X12_longest (as : List mV) (M : mM) : Prop := ∃ c u n, as = [.inr (.inr (12, c)), .inl u, .inl n] ∧ MI M
def fn_X12_longest : List mV → mM → Option mV × mM
  | [.inr (.inr (_, c)), .inl u, .inl n], M => (some (.inl (m_longest (m0 M) u n).1), (m_longest (m0 M) u n).2)
  | _, M => (none, M)
theorem ok_X12_longest (as : List mV) (M : mM) (h : pre_X12_longest as M) (_ : ∀ v ∈ as, okV v) : okR (fn_X12_longest as M).1 := by
  obtain ⟨c, u, n, rfl, -⟩ := h
  first | trivial | exact (by decide +kernel : kof 14 = 8)
theorem len_X12_longest (as : List mV) (M : mM) (h : pre_X12_longest as M) : (inL as).length ≤ 6 := by
  obtain ⟨c, u, n, rfl, -⟩ := h
  exact Nat.le_of_ble_eq_true rfl


theorem dX12_longest_0 : decode cX12_longest 0 = .ok (.aload_n 0, 1) := by decide +kernel
theorem dX12_longest_1 : decode cX12_longest 1 = .ok (.iconst 0, 1) := by decide +kernel
theorem dX12_longest_2 : decode cX12_longest 2 = .ok (.putfield 1, 3) := by decide +kernel
theorem dX12_longest_5 : decode cX12_longest 5 = .ok (.aload_n 0, 1) := by decide +kernel
theorem dX12_longest_6 : decode cX12_longest 6 = .ok (.iload_n 1, 1) := by decide +kernel
theorem dX12_longest_7 : decode cX12_longest 7 = .ok (.invokevirtual 156, 3) := by decide +kernel
theorem dX12_longest_10 : decode cX12_longest 10 = .ok (.ifCond .eq 5, 3) := by decide +kernel
theorem dX12_longest_13 : decode cX12_longest 13 = .ok (.iconst (-1), 1) := by decide +kernel
theorem dX12_longest_14 : decode cX12_longest 14 = .ok (.ireturn, 1) := by decide +kernel
theorem dX12_longest_15 : decode cX12_longest 15 = .ok (.iload_n 2, 1) := by decide +kernel
theorem dX12_longest_16 : decode cX12_longest 16 = .ok (.i2l, 1) := by decide +kernel
theorem dX12_longest_17 : decode cX12_longest 17 = .ok (.lconst 1, 1) := by decide +kernel
theorem dX12_longest_18 : decode cX12_longest 18 = .ok (.ldc2_w 162, 3) := by decide +kernel
theorem dX12_longest_21 : decode cX12_longest 21 = .ok (.invokestatic 17, 3) := by decide +kernel
theorem dX12_longest_24 : decode cX12_longest 24 = .ok (.ifCond .ne 6, 3) := by decide +kernel
theorem dX12_longest_27 : decode cX12_longest 27 = .ok (.bipush (-2), 2) := by decide +kernel
theorem dX12_longest_29 : decode cX12_longest 29 = .ok (.ireturn, 1) := by decide +kernel
theorem dX12_longest_30 : decode cX12_longest 30 = .ok (.aload_n 0, 1) := by decide +kernel
theorem dX12_longest_31 : decode cX12_longest 31 = .ok (.invokevirtual 176, 3) := by decide +kernel
theorem dX12_longest_34 : decode cX12_longest 34 = .ok (.iconst 0, 1) := by decide +kernel
theorem dX12_longest_35 : decode cX12_longest 35 = .ok (.istore_n 3, 1) := by decide +kernel
theorem dX12_longest_36 : decode cX12_longest 36 = .ok (.iconst 0, 1) := by decide +kernel
theorem dX12_longest_37 : decode cX12_longest 37 = .ok (.istore 4, 2) := by decide +kernel
theorem dX12_longest_39 : decode cX12_longest 39 = .ok (.iload 4, 2) := by decide +kernel
theorem dX12_longest_41 : decode cX12_longest 41 = .ok (.iload_n 2, 1) := by decide +kernel
theorem dX12_longest_42 : decode cX12_longest 42 = .ok (.if_icmp .ge 46, 3) := by decide +kernel
theorem dX12_longest_45 : decode cX12_longest 45 = .ok (.aload_n 0, 1) := by decide +kernel
theorem dX12_longest_46 : decode cX12_longest 46 = .ok (.aload_n 0, 1) := by decide +kernel
theorem dX12_longest_47 : decode cX12_longest 47 = .ok (.getfield 7, 3) := by decide +kernel
theorem dX12_longest_50 : decode cX12_longest 50 = .ok (.iconst 0, 1) := by decide +kernel
theorem dX12_longest_51 : decode cX12_longest 51 = .ok (.invokevirtual 152, 3) := by decide +kernel
theorem dX12_longest_54 : decode cX12_longest 54 = .ok (.pop, 1) := by decide +kernel
theorem dX12_longest_55 : decode cX12_longest 55 = .ok (.aload_n 0, 1) := by decide +kernel
theorem dX12_longest_56 : decode cX12_longest 56 = .ok (.getfield 7, 3) := by decide +kernel
theorem dX12_longest_59 : decode cX12_longest 59 = .ok (.bipush 10, 2) := by decide +kernel
theorem dX12_longest_61 : decode cX12_longest 61 = .ok (.iload_n 1, 1) := by decide +kernel
theorem dX12_longest_62 : decode cX12_longest 62 = .ok (.imul, 1) := by decide +kernel
theorem dX12_longest_63 : decode cX12_longest 63 = .ok (.bipush 7, 2) := by decide +kernel
theorem dX12_longest_65 : decode cX12_longest 65 = .ok (.iadd, 1) := by decide +kernel
theorem dX12_longest_66 : decode cX12_longest 66 = .ok (.iaload, 1) := by decide +kernel
theorem dX12_longest_67 : decode cX12_longest 67 = .ok (.istore 5, 2) := by decide +kernel
theorem dX12_longest_69 : decode cX12_longest 69 = .ok (.iload 5, 2) := by decide +kernel
theorem dX12_longest_71 : decode cX12_longest 71 = .ok (.iload_n 3, 1) := by decide +kernel
theorem dX12_longest_72 : decode cX12_longest 72 = .ok (.if_icmp .le 8, 3) := by decide +kernel
theorem dX12_longest_75 : decode cX12_longest 75 = .ok (.iload 5, 2) := by decide +kernel
theorem dX12_longest_77 : decode cX12_longest 77 = .ok (.goto 4, 3) := by decide +kernel
theorem dX12_longest_80 : decode cX12_longest 80 = .ok (.iload_n 3, 1) := by decide +kernel
theorem dX12_longest_81 : decode cX12_longest 81 = .ok (.istore_n 3, 1) := by decide +kernel
theorem dX12_longest_82 : decode cX12_longest 82 = .ok (.iinc 4 1, 3) := by decide +kernel
theorem dX12_longest_85 : decode cX12_longest 85 = .ok (.goto (-46), 3) := by decide +kernel
theorem dX12_longest_88 : decode cX12_longest 88 = .ok (.iload_n 3, 1) := by decide +kernel
theorem dX12_longest_89 : decode cX12_longest 89 = .ok (.ireturn, 1) := by decide +kernel
theorem mk_X12_longest : MVk yX12_longest "FairBlocksModel" cX12_longest 6 (Option.some FieldType.int) 2 := ⟨w_955, w_953, w_954, w_13, rfl, by decide +kernel, by decide +kernel, by decide +kernel⟩
def BX12_longest_0 (G : Nat → KT) (Q : Option mV → mM → Prop) : KT := (s_aload 0 (s_iconst (0) (s_puti 12 0 (s_aload 0 (s_iload 1 (s_callV 12 1 pre_X12_noUser fn_X12_noUser (s_if (fun x => x = 0) (s_at G 15 [true, true, true, false, false, false]) (s_iconst (-1) (s_iret Q)))))))))
set_option maxRecDepth 4000 in
theorem bsX12_longest_0 {p : Program} {l : Launch} {e : Env} {s : State} {m : MethodId} {args : Array Value} {below : List Frame} {meth : Method} {c : Code} {D : va_G} {ca : Nat → ClassId} {ad : Nat → Nat} {A : Nat → Prop} {Q : Option mV → mM → Prop} (hX : CX p s m args meth c 6 cX12_longest "FairBlocksModel" D ca ad A) (hr : meth.sig.returnType = (Option.some FieldType.int)) : ∀ lv st M, BX12_longest_0 (Gd p l e (rmD 4) s m args below meth c 6 D ca ad A 0 0 (MQ below (QC D ca ad A Q) args s 0 0 A)) Q lv st M → Gd p l e (rmD 4) s m args below meth c 6 D ca ad A 0 0 (MQ below (QC D ca ad A Q) args s 0 0 A) 0 lv st M :=
  (sd_aload_n hX dX12_longest_0 rfl (sd_iconst hX dX12_longest_1 rfl (sd_puti hX fp_723 dX12_longest_2 (sd_aload_n hX dX12_longest_5 rfl (sd_iload_n hX dX12_longest_6 rfl (sd_callV hX (kd := 12) rfl (by decide) (ct_X12_noUser l) mk_X12_noUser w_860 ⟨⟨by decide, by decide⟩, by decide, by decide⟩ dX12_longest_7 (sd_if_eq hX dX12_longest_10 (by decide) sd_at (sd_iconst hX dX12_longest_13 rfl (sd_iret hX hr dX12_longest_14)))))))))
def BX12_longest_15 (G : Nat → KT) (Q : Option mV → mM → Prop) : KT := (s_iload 2 (s_i2l (s_lconst 1 (s_lconst (99) (s_callS 3 pre_X12_in fn_X12_in (s_if (fun x => x = 0) ((s_iconst (-2) (s_iret Q))) (s_at G 30 [true, true, true, false, false, false])))))))
set_option maxRecDepth 4000 in
theorem bsX12_longest_15 {p : Program} {l : Launch} {e : Env} {s : State} {m : MethodId} {args : Array Value} {below : List Frame} {meth : Method} {c : Code} {D : va_G} {ca : Nat → ClassId} {ad : Nat → Nat} {A : Nat → Prop} {Q : Option mV → mM → Prop} (hX : CX p s m args meth c 6 cX12_longest "FairBlocksModel" D ca ad A) (hr : meth.sig.returnType = (Option.some FieldType.int)) : ∀ lv st M, BX12_longest_15 (Gd p l e (rmD 4) s m args below meth c 6 D ca ad A 0 0 (MQ below (QC D ca ad A Q) args s 0 0 A)) Q lv st M → Gd p l e (rmD 4) s m args below meth c 6 D ca ad A 0 0 (MQ below (QC D ca ad A Q) args s 0 0 A) 15 lv st M :=
  (sd_iload_n hX dX12_longest_15 rfl (sd_i2l hX dX12_longest_16 (sd_lconst hX dX12_longest_17 rfl (sd_ldc2 hX w_873 dX12_longest_18 (sd_callS hX (ct_X12_in l) mk_X12_in w_825 ⟨⟨by decide, by decide⟩, by decide, by decide⟩ dX12_longest_21 (sd_if_ne hX dX12_longest_24 (by decide) sd_at (sd_bipush hX dX12_longest_27 rfl (sd_iret hX hr dX12_longest_29))))))))
def BX12_longest_30 (G : Nat → KT) (Q : Option mV → mM → Prop) : KT := (s_aload 0 (s_callV 12 0 pre_X12_layTrial fn_X12_layTrial (s_iconst (0) (s_istore 3 (s_iconst (0) (s_istore 4 (s_at G 39 [true, true, true, true, true, false])))))))
set_option maxRecDepth 4000 in
theorem bsX12_longest_30 {p : Program} {l : Launch} {e : Env} {s : State} {m : MethodId} {args : Array Value} {below : List Frame} {meth : Method} {c : Code} {D : va_G} {ca : Nat → ClassId} {ad : Nat → Nat} {A : Nat → Prop} {Q : Option mV → mM → Prop} (hX : CX p s m args meth c 6 cX12_longest "FairBlocksModel" D ca ad A) (hr : meth.sig.returnType = (Option.some FieldType.int)) : ∀ lv st M, BX12_longest_30 (Gd p l e (rmD 4) s m args below meth c 6 D ca ad A 0 0 (MQ below (QC D ca ad A Q) args s 0 0 A)) Q lv st M → Gd p l e (rmD 4) s m args below meth c 6 D ca ad A 0 0 (MQ below (QC D ca ad A Q) args s 0 0 A) 30 lv st M :=
  (sd_aload_n hX dX12_longest_30 rfl (sd_callV hX (kd := 12) rfl (by decide) (ct_X12_layTrial l) mk_X12_layTrial w_940 ⟨⟨by decide, by decide⟩, by decide, by decide⟩ dX12_longest_31 (sd_iconst hX dX12_longest_34 rfl (sd_istore_n hX (by decide) dX12_longest_35 rfl (sd_iconst hX dX12_longest_36 rfl (sd_istore hX (by decide) dX12_longest_37 sd_at))))))
def BX12_longest_39 (G : Nat → KT) (Q : Option mV → mM → Prop) : KT := (s_iload 4 (s_iload 2 (s_icmp (fun x y => y ≤ x) (s_at G 88 [false, false, false, true, false, false]) (s_aload 0 (s_aload 0 (s_getr 12 13 (fun _ => 166) (s_iconst (0) (s_callV 12 2 pre_X12_slotOn fn_X12_slotOn (s_pop (s_aload 0 (s_getr 12 13 (fun _ => 166) (s_iconst (10) (s_iload 1 (s_bin (fun x y => x * y) (s_iconst (7) (s_bin (fun x y => x + y) (s_iald (s_istore 5 (s_iload 5 (s_iload 3 (s_icmp (fun x y => x ≤ y) (s_at G 80 [true, true, true, true, true, false]) (s_iload 5 (s_at G 81 [true, true, true, false, true, false])))))))))))))))))))))))
set_option maxRecDepth 4000 in
theorem bsX12_longest_39 {p : Program} {l : Launch} {e : Env} {s : State} {m : MethodId} {args : Array Value} {below : List Frame} {meth : Method} {c : Code} {D : va_G} {ca : Nat → ClassId} {ad : Nat → Nat} {A : Nat → Prop} {Q : Option mV → mM → Prop} (hX : CX p s m args meth c 6 cX12_longest "FairBlocksModel" D ca ad A) (hr : meth.sig.returnType = (Option.some FieldType.int)) : ∀ lv st M, BX12_longest_39 (Gd p l e (rmD 4) s m args below meth c 6 D ca ad A 0 0 (MQ below (QC D ca ad A Q) args s 0 0 A)) Q lv st M → Gd p l e (rmD 4) s m args below meth c 6 D ca ad A 0 0 (MQ below (QC D ca ad A Q) args s 0 0 A) 39 lv st M :=
  (sd_iload hX dX12_longest_39 (sd_iload_n hX dX12_longest_41 rfl (sd_icmp_ge hX dX12_longest_42 (by decide) sd_at (sd_aload_n hX dX12_longest_45 rfl (sd_aload_n hX dX12_longest_46 rfl (sd_getr hX fl_740 (fun _ => rfl) (fun _ _ _ => by decide +kernel) dX12_longest_47 (sd_iconst hX dX12_longest_50 rfl (sd_callV hX (kd := 12) rfl (by decide) (ct_X12_slotOn l) mk_X12_slotOn w_882 ⟨⟨by decide, by decide⟩, by decide, by decide⟩ dX12_longest_51 (sd_pop hX dX12_longest_54 (sd_aload_n hX dX12_longest_55 rfl (sd_getr hX fl_740 (fun _ => rfl) (fun _ _ _ => by decide +kernel) dX12_longest_56 (sd_bipush hX dX12_longest_59 rfl (sd_iload_n hX dX12_longest_61 rfl (sd_imul hX dX12_longest_62 (sd_bipush hX dX12_longest_63 rfl (sd_iadd hX dX12_longest_65 (sd_iald hX dX12_longest_66 (sd_istore hX (by decide) dX12_longest_67 (sd_iload hX dX12_longest_69 (sd_iload_n hX dX12_longest_71 rfl (sd_icmp_le hX dX12_longest_72 (by decide) sd_at (sd_iload hX dX12_longest_75 (sd_goto hX dX12_longest_77 (by decide) sd_at)))))))))))))))))))))))
def BX12_longest_80 (G : Nat → KT) (Q : Option mV → mM → Prop) : KT := (s_iload 3 (s_at G 81 [true, true, true, false, true, false]))
set_option maxRecDepth 4000 in
theorem bsX12_longest_80 {p : Program} {l : Launch} {e : Env} {s : State} {m : MethodId} {args : Array Value} {below : List Frame} {meth : Method} {c : Code} {D : va_G} {ca : Nat → ClassId} {ad : Nat → Nat} {A : Nat → Prop} {Q : Option mV → mM → Prop} (hX : CX p s m args meth c 6 cX12_longest "FairBlocksModel" D ca ad A) (hr : meth.sig.returnType = (Option.some FieldType.int)) : ∀ lv st M, BX12_longest_80 (Gd p l e (rmD 4) s m args below meth c 6 D ca ad A 0 0 (MQ below (QC D ca ad A Q) args s 0 0 A)) Q lv st M → Gd p l e (rmD 4) s m args below meth c 6 D ca ad A 0 0 (MQ below (QC D ca ad A Q) args s 0 0 A) 80 lv st M :=
  (sd_iload_n hX dX12_longest_80 rfl sd_at)
def BX12_longest_81 (G : Nat → KT) (Q : Option mV → mM → Prop) : KT := (s_istore 3 (s_iinc 4 (1) (s_at G 39 [true, true, true, true, true, false])))
set_option maxRecDepth 4000 in
theorem bsX12_longest_81 {p : Program} {l : Launch} {e : Env} {s : State} {m : MethodId} {args : Array Value} {below : List Frame} {meth : Method} {c : Code} {D : va_G} {ca : Nat → ClassId} {ad : Nat → Nat} {A : Nat → Prop} {Q : Option mV → mM → Prop} (hX : CX p s m args meth c 6 cX12_longest "FairBlocksModel" D ca ad A) (hr : meth.sig.returnType = (Option.some FieldType.int)) : ∀ lv st M, BX12_longest_81 (Gd p l e (rmD 4) s m args below meth c 6 D ca ad A 0 0 (MQ below (QC D ca ad A Q) args s 0 0 A)) Q lv st M → Gd p l e (rmD 4) s m args below meth c 6 D ca ad A 0 0 (MQ below (QC D ca ad A Q) args s 0 0 A) 81 lv st M :=
  (sd_istore_n hX (by decide) dX12_longest_81 rfl (sd_iinc hX (by decide) dX12_longest_82 rfl (sd_goto hX dX12_longest_85 (by decide) sd_at)))
def BX12_longest_88 (G : Nat → KT) (Q : Option mV → mM → Prop) : KT := (s_iload 3 (s_iret Q))
set_option maxRecDepth 4000 in
theorem bsX12_longest_88 {p : Program} {l : Launch} {e : Env} {s : State} {m : MethodId} {args : Array Value} {below : List Frame} {meth : Method} {c : Code} {D : va_G} {ca : Nat → ClassId} {ad : Nat → Nat} {A : Nat → Prop} {Q : Option mV → mM → Prop} (hX : CX p s m args meth c 6 cX12_longest "FairBlocksModel" D ca ad A) (hr : meth.sig.returnType = (Option.some FieldType.int)) : ∀ lv st M, BX12_longest_88 (Gd p l e (rmD 4) s m args below meth c 6 D ca ad A 0 0 (MQ below (QC D ca ad A Q) args s 0 0 A)) Q lv st M → Gd p l e (rmD 4) s m args below meth c 6 D ca ad A 0 0 (MQ below (QC D ca ad A Q) args s 0 0 A) 88 lv st M :=
  (sd_iload_n hX dX12_longest_88 rfl (sd_iret hX hr dX12_longest_89))
set_option maxHeartbeats 400000 in
theorem pf_X12_longest (G : Nat → KT) (Q : Option mV → mM → Prop) (h0 : ∀ lv st M, BX12_longest_0 G Q lv st M → G 0 lv st M) (h15 : ∀ lv st M, BX12_longest_15 G Q lv st M → G 15 lv st M) (h30 : ∀ lv st M, BX12_longest_30 G Q lv st M → G 30 lv st M) (h39 : ∀ lv st M, BX12_longest_39 G Q lv st M → G 39 lv st M) (h80 : ∀ lv st M, BX12_longest_80 G Q lv st M → G 80 lv st M) (h81 : ∀ lv st M, BX12_longest_81 G Q lv st M → G 81 lv st M) (h88 : ∀ lv st M, BX12_longest_88 G Q lv st M → G 88 lv st M) (as : List mV) (M : mM) (ho : ∀ v ∈ as, okV v) (hp : pre_X12_longest as M) (hQ : Q (fn_X12_longest as M).1 (fn_X12_longest as M).2) : G 0 (inL as ++ List.replicate (6 - (inL as).length) none) [] M := by
  obtain ⟨c, u, n, rfl, hM⟩ := hp
  obtain rfl : c = 158 := k12 (ho (.inr (.inr (12, c))) (by simp))
  have hI := MI_0 hM
  have e : iL n.toInt64 1 99 = wi n 1 99 := iLw n 1 99
  simp only [fn_X12_longest, m_longest] at hQ
  (apply h0; simp only [BX12_longest_0, s_mth, s_mab, s_at, s_iconst, s_lconst, s_iload, s_lload, s_aload, s_istore, s_lstore, s_astore, s_iinc, s_bin, s_binG, s_un, s_lbin, s_lbinG, s_lsh, s_lcmp, s_i2l, s_l2i, s_dup, s_dup2, s_pop, s_if, s_icmp, s_geti, s_getl, s_getr, s_puti, s_putz, s_putl, s_iald, s_zald, s_iast, s_zast, s_aaldS, s_aaldU, s_gets, s_tald, s_tsw, tsw, s_iret, s_zret, s_lret, s_aret, s_vret, s_callV, s_callS, c1, nl1, keepL, csum, pushR, inL, List.getD_cons_zero, List.getD_cons_succ, List.set_cons_zero, List.set_cons_succ, List.cons_append, List.nil_append, List.append_nil, List.replicate, List.length_cons, List.length_nil, List.take_succ_cons, List.take_zero, List.drop_succ_cons, List.drop_zero, List.reverse_cons, List.reverse_nil, true_and, and_true, forall_const, not_true_eq_false, not_false_eq_true, false_implies, true_implies, implies_true, one0, m10, Nat.reduceAdd, Nat.reduceSub, Nat.reduceLeDiff, Nat.zero_add, Nat.add_zero, fn_X12_in, fn_X12_layTrial, fn_X12_noUser, fn_X12_slotOn])
  rw [show mset M 158 0 0 = m0 M from rfl]
  generalize m0 M = M0 at *
  refine ⟨⟨_, _, rfl⟩, fun h => ?_, fun h => ?_⟩
  · rw [if_pos h] at hQ
    obtain ⟨j, hj, rfl⟩ := nu_u hI.1.1 h
    have hn := (nM_e hI.1.1).1
    have hj5 : j < 5 := by omega
    rw [nI_clamp (by omega : j < 2 ^ 31)] at hQ
    (apply h15; simp only [BX12_longest_15, s_mth, s_mab, s_at, s_iconst, s_lconst, s_iload, s_lload, s_aload, s_istore, s_lstore, s_astore, s_iinc, s_bin, s_binG, s_un, s_lbin, s_lbinG, s_lsh, s_lcmp, s_i2l, s_l2i, s_dup, s_dup2, s_pop, s_if, s_icmp, s_geti, s_getl, s_getr, s_puti, s_putz, s_putl, s_iald, s_zald, s_iast, s_zast, s_aaldS, s_aaldU, s_gets, s_tald, s_tsw, tsw, s_iret, s_zret, s_lret, s_aret, s_vret, s_callV, s_callS, c1, nl1, keepL, csum, pushR, inL, List.getD_cons_zero, List.getD_cons_succ, List.set_cons_zero, List.set_cons_succ, List.cons_append, List.nil_append, List.append_nil, List.replicate, List.length_cons, List.length_nil, List.take_succ_cons, List.take_zero, List.drop_succ_cons, List.drop_zero, List.reverse_cons, List.reverse_nil, true_and, and_true, forall_const, not_true_eq_false, not_false_eq_true, false_implies, true_implies, implies_true, one0, m10, Nat.reduceAdd, Nat.reduceSub, Nat.reduceLeDiff, Nat.zero_add, Nat.add_zero, fn_X12_in, fn_X12_layTrial, fn_X12_noUser, fn_X12_slotOn])
    rw [e]
    refine ⟨⟨_, _, _, rfl⟩, fun h2 => ?_, fun h2 => ?_⟩
    · rw [if_pos h2] at hQ; exact hQ
    · rw [if_neg h2] at hQ
      obtain ⟨N, -, hN, rfl⟩ := wi_g (d := 1) (c := 99) rfl rfl (by decide) (by decide) h2
      rw [nI_clamp (by omega : N < 2 ^ 31)] at hQ
      have x0 : ((10 : Int32) * nI j + 0).toNatClampNeg = 10 * j + 0 := cx hj5 0 (by decide)
      have v0 : vp_in ((10 : Int32) * nI j + 0) 52 := vx hj5 0 (by decide)
      have x1 : ((10 : Int32) * nI j + 1).toNatClampNeg = 10 * j + 1 := cx hj5 1 (by decide)
      have v1 : vp_in ((10 : Int32) * nI j + 1) 52 := vx hj5 1 (by decide)
      have x2 : ((10 : Int32) * nI j + 2).toNatClampNeg = 10 * j + 2 := cx hj5 2 (by decide)
      have v2 : vp_in ((10 : Int32) * nI j + 2) 52 := vx hj5 2 (by decide)
      have x3 : ((10 : Int32) * nI j + 3).toNatClampNeg = 10 * j + 3 := cx hj5 3 (by decide)
      have v3 : vp_in ((10 : Int32) * nI j + 3) 52 := vx hj5 3 (by decide)
      have x4 : ((10 : Int32) * nI j + 4).toNatClampNeg = 10 * j + 4 := cx hj5 4 (by decide)
      have v4 : vp_in ((10 : Int32) * nI j + 4) 52 := vx hj5 4 (by decide)
      have x5 : ((10 : Int32) * nI j + 5).toNatClampNeg = 10 * j + 5 := cx hj5 5 (by decide)
      have v5 : vp_in ((10 : Int32) * nI j + 5) 52 := vx hj5 5 (by decide)
      have x6 : ((10 : Int32) * nI j + 6).toNatClampNeg = 10 * j + 6 := cx hj5 6 (by decide)
      have v6 : vp_in ((10 : Int32) * nI j + 6) 52 := vx hj5 6 (by decide)
      have x7 : ((10 : Int32) * nI j + 7).toNatClampNeg = 10 * j + 7 := cx hj5 7 (by decide)
      have v7 : vp_in ((10 : Int32) * nI j + 7) 52 := vx hj5 7 (by decide)
      have x8 : ((10 : Int32) * nI j + 8).toNatClampNeg = 10 * j + 8 := cx hj5 8 (by decide)
      have v8 : vp_in ((10 : Int32) * nI j + 8) 52 := vx hj5 8 (by decide)
      have x9 : ((10 : Int32) * nI j + 9).toNatClampNeg = 10 * j + 9 := cx hj5 9 (by decide)
      have v9 : vp_in ((10 : Int32) * nI j + 9) 52 := vx hj5 9 (by decide)
      have loop : ∀ (n i : Nat) (t : Int32) (M' : mM), i + n = N → PM M' → PG M' 166 n → Q (some (.inl (itr (lwMS j) i n (t, M')).1)) (itr (lwMS j) i n (t, M')).2 → G 39 [some (.inr (.inr (12, 158))), some (.inl (nI j)), some (.inl (nI N)), some (.inl t), some (.inl (nI i)), none] [] M' := by
        intro n
        induction n with
        | zero =>
          intro i t M' hi hP hG hq
          obtain rfl : i = N := by omega
          (apply h39; simp only [BX12_longest_39, s_mth, s_mab, s_at, s_iconst, s_lconst, s_iload, s_lload, s_aload, s_istore, s_lstore, s_astore, s_iinc, s_bin, s_binG, s_un, s_lbin, s_lbinG, s_lsh, s_lcmp, s_i2l, s_l2i, s_dup, s_dup2, s_pop, s_if, s_icmp, s_geti, s_getl, s_getr, s_puti, s_putz, s_putl, s_iald, s_zald, s_iast, s_zast, s_aaldS, s_aaldU, s_gets, s_tald, s_tsw, tsw, s_iret, s_zret, s_lret, s_aret, s_vret, s_callV, s_callS, c1, nl1, keepL, csum, pushR, inL, List.getD_cons_zero, List.getD_cons_succ, List.set_cons_zero, List.set_cons_succ, List.cons_append, List.nil_append, List.append_nil, List.replicate, List.length_cons, List.length_nil, List.take_succ_cons, List.take_zero, List.drop_succ_cons, List.drop_zero, List.reverse_cons, List.reverse_nil, true_and, and_true, forall_const, not_true_eq_false, not_false_eq_true, false_implies, true_implies, implies_true, one0, m10, Nat.reduceAdd, Nat.reduceSub, Nat.reduceLeDiff, Nat.zero_add, Nat.add_zero, fn_X12_in, fn_X12_layTrial, fn_X12_noUser, fn_X12_slotOn])
          refine ⟨fun _ => ?_, fun h => absurd (nI_le (Nat.le_refl _) (by omega)) h⟩
          (apply h88; simp only [BX12_longest_88, s_mth, s_mab, s_at, s_iconst, s_lconst, s_iload, s_lload, s_aload, s_istore, s_lstore, s_astore, s_iinc, s_bin, s_binG, s_un, s_lbin, s_lbinG, s_lsh, s_lcmp, s_i2l, s_l2i, s_dup, s_dup2, s_pop, s_if, s_icmp, s_geti, s_getl, s_getr, s_puti, s_putz, s_putl, s_iald, s_zald, s_iast, s_zast, s_aaldS, s_aaldU, s_gets, s_tald, s_tsw, tsw, s_iret, s_zret, s_lret, s_aret, s_vret, s_callV, s_callS, c1, nl1, keepL, csum, pushR, inL, List.getD_cons_zero, List.getD_cons_succ, List.set_cons_zero, List.set_cons_succ, List.cons_append, List.nil_append, List.append_nil, List.replicate, List.length_cons, List.length_nil, List.take_succ_cons, List.take_zero, List.drop_succ_cons, List.drop_zero, List.reverse_cons, List.reverse_nil, true_and, and_true, forall_const, not_true_eq_false, not_false_eq_true, false_implies, true_implies, implies_true, one0, m10, Nat.reduceAdd, Nat.reduceSub, Nat.reduceLeDiff, Nat.zero_add, Nat.add_zero, fn_X12_in, fn_X12_layTrial, fn_X12_noUser, fn_X12_slotOn])
          exact hq
        | succ n ih =>
          intro i t M' hi hP hG hq
          have hn := PG_so (f := 0) hP hG
          have L : ∀ w, w = mxx ((so M' 166 0).2.1 166 (10 * j + 7)) t → G 81 [some (.inr (.inr (12, 158))), some (.inl (nI j)), some (.inl (nI N)), none, some (.inl (nI i)), none] [.inl w] (so M' 166 0).2 := by
            intro w ew
            (apply h81; simp only [BX12_longest_81, s_mth, s_mab, s_at, s_iconst, s_lconst, s_iload, s_lload, s_aload, s_istore, s_lstore, s_astore, s_iinc, s_bin, s_binG, s_un, s_lbin, s_lbinG, s_lsh, s_lcmp, s_i2l, s_l2i, s_dup, s_dup2, s_pop, s_if, s_icmp, s_geti, s_getl, s_getr, s_puti, s_putz, s_putl, s_iald, s_zald, s_iast, s_zast, s_aaldS, s_aaldU, s_gets, s_tald, s_tsw, tsw, s_iret, s_zret, s_lret, s_aret, s_vret, s_callV, s_callS, c1, nl1, keepL, csum, pushR, inL, List.getD_cons_zero, List.getD_cons_succ, List.set_cons_zero, List.set_cons_succ, List.cons_append, List.nil_append, List.append_nil, List.replicate, List.length_cons, List.length_nil, List.take_succ_cons, List.take_zero, List.drop_succ_cons, List.drop_zero, List.reverse_cons, List.reverse_nil, true_and, and_true, forall_const, not_true_eq_false, not_false_eq_true, false_implies, true_implies, implies_true, one0, m10, Nat.reduceAdd, Nat.reduceSub, Nat.reduceLeDiff, Nat.zero_add, Nat.add_zero, fn_X12_in, fn_X12_layTrial, fn_X12_noUser, fn_X12_slotOn])
            rw [nI_1, ew]
            exact ih (i + 1) _ _ (by omega) hn.1 hn.2 hq
          unfold mxx at L
          (apply h39; simp only [BX12_longest_39, s_mth, s_mab, s_at, s_iconst, s_lconst, s_iload, s_lload, s_aload, s_istore, s_lstore, s_astore, s_iinc, s_bin, s_binG, s_un, s_lbin, s_lbinG, s_lsh, s_lcmp, s_i2l, s_l2i, s_dup, s_dup2, s_pop, s_if, s_icmp, s_geti, s_getl, s_getr, s_puti, s_putz, s_putl, s_iald, s_zald, s_iast, s_zast, s_aaldS, s_aaldU, s_gets, s_tald, s_tsw, tsw, s_iret, s_zret, s_lret, s_aret, s_vret, s_callV, s_callS, c1, nl1, keepL, csum, pushR, inL, List.getD_cons_zero, List.getD_cons_succ, List.set_cons_zero, List.set_cons_succ, List.cons_append, List.nil_append, List.append_nil, List.replicate, List.length_cons, List.length_nil, List.take_succ_cons, List.take_zero, List.drop_succ_cons, List.drop_zero, List.reverse_cons, List.reverse_nil, true_and, and_true, forall_const, not_true_eq_false, not_false_eq_true, false_implies, true_implies, implies_true, one0, m10, Nat.reduceAdd, Nat.reduceSub, Nat.reduceLeDiff, Nat.zero_add, Nat.add_zero, fn_X12_in, fn_X12_layTrial, fn_X12_noUser, fn_X12_slotOn])
          simp only [lM, x7]
          refine ⟨fun h => absurd h (nI_ge (by omega) (by omega)), fun _ => ⟨⟨_, _, _, rfl, hP, PG_0 hG⟩, v7, fun h3 => ?_, fun h3 => ?_⟩⟩
          · (apply h80; simp only [BX12_longest_80, s_mth, s_mab, s_at, s_iconst, s_lconst, s_iload, s_lload, s_aload, s_istore, s_lstore, s_astore, s_iinc, s_bin, s_binG, s_un, s_lbin, s_lbinG, s_lsh, s_lcmp, s_i2l, s_l2i, s_dup, s_dup2, s_pop, s_if, s_icmp, s_geti, s_getl, s_getr, s_puti, s_putz, s_putl, s_iald, s_zald, s_iast, s_zast, s_aaldS, s_aaldU, s_gets, s_tald, s_tsw, tsw, s_iret, s_zret, s_lret, s_aret, s_vret, s_callV, s_callS, c1, nl1, keepL, csum, pushR, inL, List.getD_cons_zero, List.getD_cons_succ, List.set_cons_zero, List.set_cons_succ, List.cons_append, List.nil_append, List.append_nil, List.replicate, List.length_cons, List.length_nil, List.take_succ_cons, List.take_zero, List.drop_succ_cons, List.drop_zero, List.reverse_cons, List.reverse_nil, true_and, and_true, forall_const, not_true_eq_false, not_false_eq_true, false_implies, true_implies, implies_true, one0, m10, Nat.reduceAdd, Nat.reduceSub, Nat.reduceLeDiff, Nat.zero_add, Nat.add_zero, fn_X12_in, fn_X12_layTrial, fn_X12_noUser, fn_X12_slotOn])
            exact L _ (by rw [if_pos h3])
          · exact L _ (by rw [if_neg h3])
      (apply h30; simp only [BX12_longest_30, s_mth, s_mab, s_at, s_iconst, s_lconst, s_iload, s_lload, s_aload, s_istore, s_lstore, s_astore, s_iinc, s_bin, s_binG, s_un, s_lbin, s_lbinG, s_lsh, s_lcmp, s_i2l, s_l2i, s_dup, s_dup2, s_pop, s_if, s_icmp, s_geti, s_getl, s_getr, s_puti, s_putz, s_putl, s_iald, s_zald, s_iast, s_zast, s_aaldS, s_aaldU, s_gets, s_tald, s_tsw, tsw, s_iret, s_zret, s_lret, s_aret, s_vret, s_callV, s_callS, c1, nl1, keepL, csum, pushR, inL, List.getD_cons_zero, List.getD_cons_succ, List.set_cons_zero, List.set_cons_succ, List.cons_append, List.nil_append, List.append_nil, List.replicate, List.length_cons, List.length_nil, List.take_succ_cons, List.take_zero, List.drop_succ_cons, List.drop_zero, List.reverse_cons, List.reverse_nil, true_and, and_true, forall_const, not_true_eq_false, not_false_eq_true, false_implies, true_implies, implies_true, one0, m10, Nat.reduceAdd, Nat.reduceSub, Nat.reduceLeDiff, Nat.zero_add, Nat.add_zero, fn_X12_in, fn_X12_layTrial, fn_X12_noUser, fn_X12_slotOn])
      exact ⟨⟨_, rfl⟩, loop N 0 0 _ (by omega) (PM_lay hI.1.1) (PG_le (PG_lay hI.1.2) (by omega)) hQ⟩
  · rw [if_neg h] at hQ; exact hQ
theorem ct_X12_longest (l : Launch) : Con l yX12_longest cX12_longest 6 (Option.some FieldType.int) 4 pre_X12_longest fn_X12_longest := con_of (by decide +kernel) ok_X12_longest len_X12_longest (fun p e s m args below meth c D ca ad A as M hX hr hp ho => pf_X12_longest _ _ (bsX12_longest_0 hX hr) (bsX12_longest_15 hX hr) (bsX12_longest_30 hX hr) (bsX12_longest_39 hX hr) (bsX12_longest_80 hX hr) (bsX12_longest_81 hX hr) (bsX12_longest_88 hX hr) as M ho hp ⟨rfl, rfl⟩)
/-- slots until nothing waits: n turns are left, i have been -/
def emL (U : Nat) : Nat → Nat → mM → Int32 × mM
  | 0, _, M => (-9, M)
  | n + 1, i, M => if ha M 166 U = 0 then (nI i, M) else emL U n (i + 1) (so M 166 0).2
def m_empty (M : mM) (u : Int32) : Int32 × mM := if nu M u = 0 then emL u.toNatClampNeg 61 0 (lay M) else (-1, M)
def pre_X12_empty (as : List mV) (M : mM) : Prop := ∃ c u, as = [.inr (.inr (12, c)), .inl u] ∧ MI M
def fn_X12_empty : List mV → mM → Option mV × mM
  | [.inr (.inr (_, c)), .inl u], M => (some (.inl (m_empty (m0 M) u).1), (m_empty (m0 M) u).2)
  | _, M => (none, M)
theorem ok_X12_empty (as : List mV) (M : mM) (h : pre_X12_empty as M) (_ : ∀ v ∈ as, okV v) : okR (fn_X12_empty as M).1 := by
  obtain ⟨c, u, rfl, -⟩ := h
  first | trivial | exact (by decide +kernel : kof 14 = 8)
theorem len_X12_empty (as : List mV) (M : mM) (h : pre_X12_empty as M) : (inL as).length ≤ 3 := by
  obtain ⟨c, u, rfl, -⟩ := h
  exact Nat.le_of_ble_eq_true rfl


theorem dX12_empty_0 : decode cX12_empty 0 = .ok (.aload_n 0, 1) := by decide +kernel
theorem dX12_empty_1 : decode cX12_empty 1 = .ok (.iconst 0, 1) := by decide +kernel
theorem dX12_empty_2 : decode cX12_empty 2 = .ok (.putfield 1, 3) := by decide +kernel
theorem dX12_empty_5 : decode cX12_empty 5 = .ok (.aload_n 0, 1) := by decide +kernel
theorem dX12_empty_6 : decode cX12_empty 6 = .ok (.iload_n 1, 1) := by decide +kernel
theorem dX12_empty_7 : decode cX12_empty 7 = .ok (.invokevirtual 156, 3) := by decide +kernel
theorem dX12_empty_10 : decode cX12_empty 10 = .ok (.ifCond .eq 5, 3) := by decide +kernel
theorem dX12_empty_13 : decode cX12_empty 13 = .ok (.iconst (-1), 1) := by decide +kernel
theorem dX12_empty_14 : decode cX12_empty 14 = .ok (.ireturn, 1) := by decide +kernel
theorem dX12_empty_15 : decode cX12_empty 15 = .ok (.aload_n 0, 1) := by decide +kernel
theorem dX12_empty_16 : decode cX12_empty 16 = .ok (.invokevirtual 176, 3) := by decide +kernel
theorem dX12_empty_19 : decode cX12_empty 19 = .ok (.iconst 0, 1) := by decide +kernel
theorem dX12_empty_20 : decode cX12_empty 20 = .ok (.istore_n 2, 1) := by decide +kernel
theorem dX12_empty_21 : decode cX12_empty 21 = .ok (.iload_n 2, 1) := by decide +kernel
theorem dX12_empty_22 : decode cX12_empty 22 = .ok (.bipush 60, 2) := by decide +kernel
theorem dX12_empty_24 : decode cX12_empty 24 = .ok (.if_icmp .gt 32, 3) := by decide +kernel
theorem dX12_empty_27 : decode cX12_empty 27 = .ok (.aload_n 0, 1) := by decide +kernel
theorem dX12_empty_28 : decode cX12_empty 28 = .ok (.getfield 7, 3) := by decide +kernel
theorem dX12_empty_31 : decode cX12_empty 31 = .ok (.iload_n 1, 1) := by decide +kernel
theorem dX12_empty_32 : decode cX12_empty 32 = .ok (.invokestatic 127, 3) := by decide +kernel
theorem dX12_empty_35 : decode cX12_empty 35 = .ok (.ifCond .ne 5, 3) := by decide +kernel
theorem dX12_empty_38 : decode cX12_empty 38 = .ok (.iload_n 2, 1) := by decide +kernel
theorem dX12_empty_39 : decode cX12_empty 39 = .ok (.ireturn, 1) := by decide +kernel
theorem dX12_empty_40 : decode cX12_empty 40 = .ok (.aload_n 0, 1) := by decide +kernel
theorem dX12_empty_41 : decode cX12_empty 41 = .ok (.aload_n 0, 1) := by decide +kernel
theorem dX12_empty_42 : decode cX12_empty 42 = .ok (.getfield 7, 3) := by decide +kernel
theorem dX12_empty_45 : decode cX12_empty 45 = .ok (.iconst 0, 1) := by decide +kernel
theorem dX12_empty_46 : decode cX12_empty 46 = .ok (.invokevirtual 152, 3) := by decide +kernel
theorem dX12_empty_49 : decode cX12_empty 49 = .ok (.pop, 1) := by decide +kernel
theorem dX12_empty_50 : decode cX12_empty 50 = .ok (.iinc 2 1, 3) := by decide +kernel
theorem dX12_empty_53 : decode cX12_empty 53 = .ok (.goto (-32), 3) := by decide +kernel
theorem dX12_empty_56 : decode cX12_empty 56 = .ok (.bipush (-9), 2) := by decide +kernel
theorem dX12_empty_58 : decode cX12_empty 58 = .ok (.ireturn, 1) := by decide +kernel
theorem mk_X12_empty : MVk yX12_empty "FairBlocksModel" cX12_empty 3 (Option.some FieldType.int) 1 := ⟨w_959, w_957, w_958, w_13, rfl, by decide +kernel, by decide +kernel, by decide +kernel⟩
def BX12_empty_0 (G : Nat → KT) (Q : Option mV → mM → Prop) : KT := (s_aload 0 (s_iconst (0) (s_puti 12 0 (s_aload 0 (s_iload 1 (s_callV 12 1 pre_X12_noUser fn_X12_noUser (s_if (fun x => x = 0) (s_at G 15 [true, true, false]) (s_iconst (-1) (s_iret Q)))))))))
set_option maxRecDepth 4000 in
theorem bsX12_empty_0 {p : Program} {l : Launch} {e : Env} {s : State} {m : MethodId} {args : Array Value} {below : List Frame} {meth : Method} {c : Code} {D : va_G} {ca : Nat → ClassId} {ad : Nat → Nat} {A : Nat → Prop} {Q : Option mV → mM → Prop} (hX : CX p s m args meth c 3 cX12_empty "FairBlocksModel" D ca ad A) (hr : meth.sig.returnType = (Option.some FieldType.int)) : ∀ lv st M, BX12_empty_0 (Gd p l e (rmD 4) s m args below meth c 3 D ca ad A 0 0 (MQ below (QC D ca ad A Q) args s 0 0 A)) Q lv st M → Gd p l e (rmD 4) s m args below meth c 3 D ca ad A 0 0 (MQ below (QC D ca ad A Q) args s 0 0 A) 0 lv st M :=
  (sd_aload_n hX dX12_empty_0 rfl (sd_iconst hX dX12_empty_1 rfl (sd_puti hX fp_723 dX12_empty_2 (sd_aload_n hX dX12_empty_5 rfl (sd_iload_n hX dX12_empty_6 rfl (sd_callV hX (kd := 12) rfl (by decide) (ct_X12_noUser l) mk_X12_noUser w_860 ⟨⟨by decide, by decide⟩, by decide, by decide⟩ dX12_empty_7 (sd_if_eq hX dX12_empty_10 (by decide) sd_at (sd_iconst hX dX12_empty_13 rfl (sd_iret hX hr dX12_empty_14)))))))))
def BX12_empty_15 (G : Nat → KT) (Q : Option mV → mM → Prop) : KT := (s_aload 0 (s_callV 12 0 pre_X12_layTrial fn_X12_layTrial (s_iconst (0) (s_istore 2 (s_at G 21 [true, true, true])))))
set_option maxRecDepth 4000 in
theorem bsX12_empty_15 {p : Program} {l : Launch} {e : Env} {s : State} {m : MethodId} {args : Array Value} {below : List Frame} {meth : Method} {c : Code} {D : va_G} {ca : Nat → ClassId} {ad : Nat → Nat} {A : Nat → Prop} {Q : Option mV → mM → Prop} (hX : CX p s m args meth c 3 cX12_empty "FairBlocksModel" D ca ad A) (hr : meth.sig.returnType = (Option.some FieldType.int)) : ∀ lv st M, BX12_empty_15 (Gd p l e (rmD 4) s m args below meth c 3 D ca ad A 0 0 (MQ below (QC D ca ad A Q) args s 0 0 A)) Q lv st M → Gd p l e (rmD 4) s m args below meth c 3 D ca ad A 0 0 (MQ below (QC D ca ad A Q) args s 0 0 A) 15 lv st M :=
  (sd_aload_n hX dX12_empty_15 rfl (sd_callV hX (kd := 12) rfl (by decide) (ct_X12_layTrial l) mk_X12_layTrial w_940 ⟨⟨by decide, by decide⟩, by decide, by decide⟩ dX12_empty_16 (sd_iconst hX dX12_empty_19 rfl (sd_istore_n hX (by decide) dX12_empty_20 rfl sd_at))))
def BX12_empty_21 (G : Nat → KT) (Q : Option mV → mM → Prop) : KT := (s_iload 2 (s_iconst (60) (s_icmp (fun x y => y < x) (s_at G 56 [false, false, false]) (s_aload 0 (s_getr 12 13 (fun _ => 166) (s_iload 1 (s_callS 2 pre_X12_hasAny fn_X12_hasAny (s_if (fun x => x = 0) ((s_iload 2 (s_iret Q))) (s_at G 40 [true, true, true])))))))))
set_option maxRecDepth 4000 in
theorem bsX12_empty_21 {p : Program} {l : Launch} {e : Env} {s : State} {m : MethodId} {args : Array Value} {below : List Frame} {meth : Method} {c : Code} {D : va_G} {ca : Nat → ClassId} {ad : Nat → Nat} {A : Nat → Prop} {Q : Option mV → mM → Prop} (hX : CX p s m args meth c 3 cX12_empty "FairBlocksModel" D ca ad A) (hr : meth.sig.returnType = (Option.some FieldType.int)) : ∀ lv st M, BX12_empty_21 (Gd p l e (rmD 4) s m args below meth c 3 D ca ad A 0 0 (MQ below (QC D ca ad A Q) args s 0 0 A)) Q lv st M → Gd p l e (rmD 4) s m args below meth c 3 D ca ad A 0 0 (MQ below (QC D ca ad A Q) args s 0 0 A) 21 lv st M :=
  (sd_iload_n hX dX12_empty_21 rfl (sd_bipush hX dX12_empty_22 rfl (sd_icmp_gt hX dX12_empty_24 (by decide) sd_at (sd_aload_n hX dX12_empty_27 rfl (sd_getr hX fl_740 (fun _ => rfl) (fun _ _ _ => by decide +kernel) dX12_empty_28 (sd_iload_n hX dX12_empty_31 rfl (sd_callS hX (ct_X12_hasAny l) mk_X12_hasAny w_894 ⟨⟨by decide, by decide⟩, by decide, by decide⟩ dX12_empty_32 (sd_if_ne hX dX12_empty_35 (by decide) sd_at (sd_iload_n hX dX12_empty_38 rfl (sd_iret hX hr dX12_empty_39))))))))))
def BX12_empty_40 (G : Nat → KT) (Q : Option mV → mM → Prop) : KT := (s_aload 0 (s_aload 0 (s_getr 12 13 (fun _ => 166) (s_iconst (0) (s_callV 12 2 pre_X12_slotOn fn_X12_slotOn (s_pop (s_iinc 2 (1) (s_at G 21 [true, true, true]))))))))
set_option maxRecDepth 4000 in
theorem bsX12_empty_40 {p : Program} {l : Launch} {e : Env} {s : State} {m : MethodId} {args : Array Value} {below : List Frame} {meth : Method} {c : Code} {D : va_G} {ca : Nat → ClassId} {ad : Nat → Nat} {A : Nat → Prop} {Q : Option mV → mM → Prop} (hX : CX p s m args meth c 3 cX12_empty "FairBlocksModel" D ca ad A) (hr : meth.sig.returnType = (Option.some FieldType.int)) : ∀ lv st M, BX12_empty_40 (Gd p l e (rmD 4) s m args below meth c 3 D ca ad A 0 0 (MQ below (QC D ca ad A Q) args s 0 0 A)) Q lv st M → Gd p l e (rmD 4) s m args below meth c 3 D ca ad A 0 0 (MQ below (QC D ca ad A Q) args s 0 0 A) 40 lv st M :=
  (sd_aload_n hX dX12_empty_40 rfl (sd_aload_n hX dX12_empty_41 rfl (sd_getr hX fl_740 (fun _ => rfl) (fun _ _ _ => by decide +kernel) dX12_empty_42 (sd_iconst hX dX12_empty_45 rfl (sd_callV hX (kd := 12) rfl (by decide) (ct_X12_slotOn l) mk_X12_slotOn w_882 ⟨⟨by decide, by decide⟩, by decide, by decide⟩ dX12_empty_46 (sd_pop hX dX12_empty_49 (sd_iinc hX (by decide) dX12_empty_50 rfl (sd_goto hX dX12_empty_53 (by decide) sd_at))))))))
def BX12_empty_56 (G : Nat → KT) (Q : Option mV → mM → Prop) : KT := (s_iconst (-9) (s_iret Q))
set_option maxRecDepth 4000 in
theorem bsX12_empty_56 {p : Program} {l : Launch} {e : Env} {s : State} {m : MethodId} {args : Array Value} {below : List Frame} {meth : Method} {c : Code} {D : va_G} {ca : Nat → ClassId} {ad : Nat → Nat} {A : Nat → Prop} {Q : Option mV → mM → Prop} (hX : CX p s m args meth c 3 cX12_empty "FairBlocksModel" D ca ad A) (hr : meth.sig.returnType = (Option.some FieldType.int)) : ∀ lv st M, BX12_empty_56 (Gd p l e (rmD 4) s m args below meth c 3 D ca ad A 0 0 (MQ below (QC D ca ad A Q) args s 0 0 A)) Q lv st M → Gd p l e (rmD 4) s m args below meth c 3 D ca ad A 0 0 (MQ below (QC D ca ad A Q) args s 0 0 A) 56 lv st M :=
  (sd_bipush hX dX12_empty_56 rfl (sd_iret hX hr dX12_empty_58))
set_option maxHeartbeats 400000 in
theorem pf_X12_empty (G : Nat → KT) (Q : Option mV → mM → Prop) (h0 : ∀ lv st M, BX12_empty_0 G Q lv st M → G 0 lv st M) (h15 : ∀ lv st M, BX12_empty_15 G Q lv st M → G 15 lv st M) (h21 : ∀ lv st M, BX12_empty_21 G Q lv st M → G 21 lv st M) (h40 : ∀ lv st M, BX12_empty_40 G Q lv st M → G 40 lv st M) (h56 : ∀ lv st M, BX12_empty_56 G Q lv st M → G 56 lv st M) (as : List mV) (M : mM) (ho : ∀ v ∈ as, okV v) (hp : pre_X12_empty as M) (hQ : Q (fn_X12_empty as M).1 (fn_X12_empty as M).2) : G 0 (inL as ++ List.replicate (3 - (inL as).length) none) [] M := by
  obtain ⟨c, u, rfl, hM⟩ := hp
  obtain rfl : c = 158 := k12 (ho (.inr (.inr (12, c))) (by simp))
  have hI := MI_0 hM
  simp only [fn_X12_empty, m_empty] at hQ
  (apply h0; simp only [BX12_empty_0, s_mth, s_mab, s_at, s_iconst, s_lconst, s_iload, s_lload, s_aload, s_istore, s_lstore, s_astore, s_iinc, s_bin, s_binG, s_un, s_lbin, s_lbinG, s_lsh, s_lcmp, s_i2l, s_l2i, s_dup, s_dup2, s_pop, s_if, s_icmp, s_geti, s_getl, s_getr, s_puti, s_putz, s_putl, s_iald, s_zald, s_iast, s_zast, s_aaldS, s_aaldU, s_gets, s_tald, s_tsw, tsw, s_iret, s_zret, s_lret, s_aret, s_vret, s_callV, s_callS, c1, nl1, keepL, csum, pushR, inL, List.getD_cons_zero, List.getD_cons_succ, List.set_cons_zero, List.set_cons_succ, List.cons_append, List.nil_append, List.append_nil, List.replicate, List.length_cons, List.length_nil, List.take_succ_cons, List.take_zero, List.drop_succ_cons, List.drop_zero, List.reverse_cons, List.reverse_nil, true_and, and_true, forall_const, not_true_eq_false, not_false_eq_true, false_implies, true_implies, implies_true, one0, m10, Nat.reduceAdd, Nat.reduceSub, Nat.reduceLeDiff, Nat.zero_add, Nat.add_zero, fn_X12_hasAny, fn_X12_layTrial, fn_X12_noUser, fn_X12_slotOn])
  rw [show mset M 158 0 0 = m0 M from rfl]
  generalize m0 M = M0 at *
  refine ⟨⟨_, _, rfl⟩, fun h => ?_, fun h => ?_⟩
  · rw [if_pos h] at hQ
    obtain ⟨j, hj, rfl⟩ := nu_u hI.1.1 h
    have hn := (nM_e hI.1.1).1
    have hj5 : j < 5 := by omega
    rw [nI_clamp (by omega : j < 2 ^ 31)] at hQ
    have loop : ∀ (n i : Nat) (M' : mM), i + n = 61 → PM M' → PG M' 166 n → Q (some (.inl (emL j n i M').1)) (emL j n i M').2 → G 21 [some (.inr (.inr (12, 158))), some (.inl (nI j)), some (.inl (nI i))] [] M' := by
      intro n
      induction n with
      | zero =>
        intro i M' hi hP hG hq
        obtain rfl : i = 61 := by omega
        (apply h21; simp only [BX12_empty_21, s_mth, s_mab, s_at, s_iconst, s_lconst, s_iload, s_lload, s_aload, s_istore, s_lstore, s_astore, s_iinc, s_bin, s_binG, s_un, s_lbin, s_lbinG, s_lsh, s_lcmp, s_i2l, s_l2i, s_dup, s_dup2, s_pop, s_if, s_icmp, s_geti, s_getl, s_getr, s_puti, s_putz, s_putl, s_iald, s_zald, s_iast, s_zast, s_aaldS, s_aaldU, s_gets, s_tald, s_tsw, tsw, s_iret, s_zret, s_lret, s_aret, s_vret, s_callV, s_callS, c1, nl1, keepL, csum, pushR, inL, List.getD_cons_zero, List.getD_cons_succ, List.set_cons_zero, List.set_cons_succ, List.cons_append, List.nil_append, List.append_nil, List.replicate, List.length_cons, List.length_nil, List.take_succ_cons, List.take_zero, List.drop_succ_cons, List.drop_zero, List.reverse_cons, List.reverse_nil, true_and, and_true, forall_const, not_true_eq_false, not_false_eq_true, false_implies, true_implies, implies_true, one0, m10, Nat.reduceAdd, Nat.reduceSub, Nat.reduceLeDiff, Nat.zero_add, Nat.add_zero, fn_X12_hasAny, fn_X12_layTrial, fn_X12_noUser, fn_X12_slotOn])
        refine ⟨fun _ => ?_, fun h => absurd (by decide) h⟩
        (apply h56; simp only [BX12_empty_56, s_mth, s_mab, s_at, s_iconst, s_lconst, s_iload, s_lload, s_aload, s_istore, s_lstore, s_astore, s_iinc, s_bin, s_binG, s_un, s_lbin, s_lbinG, s_lsh, s_lcmp, s_i2l, s_l2i, s_dup, s_dup2, s_pop, s_if, s_icmp, s_geti, s_getl, s_getr, s_puti, s_putz, s_putl, s_iald, s_zald, s_iast, s_zast, s_aaldS, s_aaldU, s_gets, s_tald, s_tsw, tsw, s_iret, s_zret, s_lret, s_aret, s_vret, s_callV, s_callS, c1, nl1, keepL, csum, pushR, inL, List.getD_cons_zero, List.getD_cons_succ, List.set_cons_zero, List.set_cons_succ, List.cons_append, List.nil_append, List.append_nil, List.replicate, List.length_cons, List.length_nil, List.take_succ_cons, List.take_zero, List.drop_succ_cons, List.drop_zero, List.reverse_cons, List.reverse_nil, true_and, and_true, forall_const, not_true_eq_false, not_false_eq_true, false_implies, true_implies, implies_true, one0, m10, Nat.reduceAdd, Nat.reduceSub, Nat.reduceLeDiff, Nat.zero_add, Nat.add_zero, fn_X12_hasAny, fn_X12_layTrial, fn_X12_noUser, fn_X12_slotOn])
        exact hq
      | succ n ih =>
        intro i M' hi hP hG hq
        have hn := PG_so (f := 0) hP hG
        rw [emL] at hq
        (apply h21; simp only [BX12_empty_21, s_mth, s_mab, s_at, s_iconst, s_lconst, s_iload, s_lload, s_aload, s_istore, s_lstore, s_astore, s_iinc, s_bin, s_binG, s_un, s_lbin, s_lbinG, s_lsh, s_lcmp, s_i2l, s_l2i, s_dup, s_dup2, s_pop, s_if, s_icmp, s_geti, s_getl, s_getr, s_puti, s_putz, s_putl, s_iald, s_zald, s_iast, s_zast, s_aaldS, s_aaldU, s_gets, s_tald, s_tsw, tsw, s_iret, s_zret, s_lret, s_aret, s_vret, s_callV, s_callS, c1, nl1, keepL, csum, pushR, inL, List.getD_cons_zero, List.getD_cons_succ, List.set_cons_zero, List.set_cons_succ, List.cons_append, List.nil_append, List.append_nil, List.replicate, List.length_cons, List.length_nil, List.take_succ_cons, List.take_zero, List.drop_succ_cons, List.drop_zero, List.reverse_cons, List.reverse_nil, true_and, and_true, forall_const, not_true_eq_false, not_false_eq_true, false_implies, true_implies, implies_true, one0, m10, Nat.reduceAdd, Nat.reduceSub, Nat.reduceLeDiff, Nat.zero_add, Nat.add_zero, fn_X12_hasAny, fn_X12_layTrial, fn_X12_noUser, fn_X12_slotOn])
        rw [nI_clamp (by omega : j < 2 ^ 31)]
        refine ⟨fun h => absurd h (nI_nlt (a := 60) (b := i) (by omega) (by decide)), fun _ => ⟨⟨_, _, rfl, PG_l hG, j, hj5, rfl⟩, fun h3 => ?_, fun h3 => ?_⟩⟩
        · rw [if_pos h3] at hq; exact hq
        · rw [if_neg h3] at hq
          (apply h40; simp only [BX12_empty_40, s_mth, s_mab, s_at, s_iconst, s_lconst, s_iload, s_lload, s_aload, s_istore, s_lstore, s_astore, s_iinc, s_bin, s_binG, s_un, s_lbin, s_lbinG, s_lsh, s_lcmp, s_i2l, s_l2i, s_dup, s_dup2, s_pop, s_if, s_icmp, s_geti, s_getl, s_getr, s_puti, s_putz, s_putl, s_iald, s_zald, s_iast, s_zast, s_aaldS, s_aaldU, s_gets, s_tald, s_tsw, tsw, s_iret, s_zret, s_lret, s_aret, s_vret, s_callV, s_callS, c1, nl1, keepL, csum, pushR, inL, List.getD_cons_zero, List.getD_cons_succ, List.set_cons_zero, List.set_cons_succ, List.cons_append, List.nil_append, List.append_nil, List.replicate, List.length_cons, List.length_nil, List.take_succ_cons, List.take_zero, List.drop_succ_cons, List.drop_zero, List.reverse_cons, List.reverse_nil, true_and, and_true, forall_const, not_true_eq_false, not_false_eq_true, false_implies, true_implies, implies_true, one0, m10, Nat.reduceAdd, Nat.reduceSub, Nat.reduceLeDiff, Nat.zero_add, Nat.add_zero, fn_X12_hasAny, fn_X12_layTrial, fn_X12_noUser, fn_X12_slotOn])
          refine ⟨⟨_, _, _, rfl, hP, PG_0 hG⟩, ?_⟩
          rw [nI_1]
          exact ih (i + 1) _ (by omega) hn.1 hn.2 hq
    (apply h15; simp only [BX12_empty_15, s_mth, s_mab, s_at, s_iconst, s_lconst, s_iload, s_lload, s_aload, s_istore, s_lstore, s_astore, s_iinc, s_bin, s_binG, s_un, s_lbin, s_lbinG, s_lsh, s_lcmp, s_i2l, s_l2i, s_dup, s_dup2, s_pop, s_if, s_icmp, s_geti, s_getl, s_getr, s_puti, s_putz, s_putl, s_iald, s_zald, s_iast, s_zast, s_aaldS, s_aaldU, s_gets, s_tald, s_tsw, tsw, s_iret, s_zret, s_lret, s_aret, s_vret, s_callV, s_callS, c1, nl1, keepL, csum, pushR, inL, List.getD_cons_zero, List.getD_cons_succ, List.set_cons_zero, List.set_cons_succ, List.cons_append, List.nil_append, List.append_nil, List.replicate, List.length_cons, List.length_nil, List.take_succ_cons, List.take_zero, List.drop_succ_cons, List.drop_zero, List.reverse_cons, List.reverse_nil, true_and, and_true, forall_const, not_true_eq_false, not_false_eq_true, false_implies, true_implies, implies_true, one0, m10, Nat.reduceAdd, Nat.reduceSub, Nat.reduceLeDiff, Nat.zero_add, Nat.add_zero, fn_X12_hasAny, fn_X12_layTrial, fn_X12_noUser, fn_X12_slotOn])
    exact ⟨⟨_, rfl⟩, loop 61 0 _ rfl (PM_lay hI.1.1) (PG_le (PG_lay hI.1.2) (by omega)) hQ⟩
  · rw [if_neg h] at hQ; exact hQ
theorem ct_X12_empty (l : Launch) : Con l yX12_empty cX12_empty 3 (Option.some FieldType.int) 4 pre_X12_empty fn_X12_empty := con_of (by decide +kernel) ok_X12_empty len_X12_empty (fun p e s m args below meth c D ca ad A as M hX hr hp ho => pf_X12_empty _ _ (bsX12_empty_0 hX hr) (bsX12_empty_15 hX hr) (bsX12_empty_21 hX hr) (bsX12_empty_40 hX hr) (bsX12_empty_56 hX hr) as M ho hp ⟨rfl, rfl⟩)
