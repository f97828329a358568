/-! Text -/
def TL (M : mM) : Prop := ∃ n, n ≤ 80 ∧ M.1 1 1 = nI n
def nT (M : mM) : Nat := (M.1 1 1).toNatClampNeg
theorem nT_e {M : mM} (h : TL M) : nT M ≤ 80 ∧ M.1 1 1 = nI (nT M) := by
  obtain ⟨z, hz, e⟩ := h
  have : nT M = z := by unfold nT; rw [e, nI_clamp (by omega)]
  rw [this]
  exact ⟨hz, e⟩
theorem l2 : ln 2 = 80 := by decide +kernel
def adT (M : mM) (x : Int32) : mM := if 80 ≤ M.1 1 1 then M else mset (mset M 2 (nT M) x) 1 1 (M.1 1 1 + 1)
def pre_X9_add (as : List mV) (M : mM) : Prop := ∃ c x, as = [.inr (.inr (9, c)), .inl x] ∧ TL M
def fn_X9_add : List mV → mM → Option mV × mM
  | [.inr (.inr (_, c)), .inl x], M => (none, adT M x)
  | _, M => (none, M)
theorem ok_X9_add (as : List mV) (M : mM) (h : pre_X9_add as M) (_ : ∀ v ∈ as, okV v) : okR (fn_X9_add as M).1 := by
  obtain ⟨c, x, rfl, -⟩ := h
  first | trivial | exact (by decide +kernel : kof 14 = 8)
theorem len_X9_add (as : List mV) (M : mM) (h : pre_X9_add as M) : (inL as).length ≤ 2 := by
  obtain ⟨c, x, rfl, -⟩ := h
  exact Nat.le_of_ble_eq_true rfl

theorem fl_30 : FLk "FairBlocks$Text" 11 9 0 16 := ⟨RX9, TX9, 2, rfl, inX9, by decide, w_30, by decide, rfl⟩
theorem fl_31 : FLk "FairBlocks$Text" 15 9 1 0 := ⟨RX9, TX9, 2, rfl, inX9, by decide, w_31, by decide, rfl⟩
theorem fp_31 : FPk "FairBlocks$Text" 15 9 1 0 .int := ⟨RX9, TX9, 2, tyX9, rfl, inX9, by decide, w_31, by decide, rfl, tyX9_ok, nmX9, rfl, rfl⟩
theorem dX9_add_0 : decode cX9_add 0 = .ok (.aload_n 0, 1) := by decide +kernel
theorem dX9_add_1 : decode cX9_add 1 = .ok (.getfield 15, 3) := by decide +kernel
theorem dX9_add_4 : decode cX9_add 4 = .ok (.bipush 80, 2) := by decide +kernel
theorem dX9_add_6 : decode cX9_add 6 = .ok (.if_icmp .ge 23, 3) := by decide +kernel
theorem dX9_add_9 : decode cX9_add 9 = .ok (.aload_n 0, 1) := by decide +kernel
theorem dX9_add_10 : decode cX9_add 10 = .ok (.getfield 11, 3) := by decide +kernel
theorem dX9_add_13 : decode cX9_add 13 = .ok (.aload_n 0, 1) := by decide +kernel
theorem dX9_add_14 : decode cX9_add 14 = .ok (.getfield 15, 3) := by decide +kernel
theorem dX9_add_17 : decode cX9_add 17 = .ok (.iload_n 1, 1) := by decide +kernel
theorem dX9_add_18 : decode cX9_add 18 = .ok (.iastore, 1) := by decide +kernel
theorem dX9_add_19 : decode cX9_add 19 = .ok (.aload_n 0, 1) := by decide +kernel
theorem dX9_add_20 : decode cX9_add 20 = .ok (.dup, 1) := by decide +kernel
theorem dX9_add_21 : decode cX9_add 21 = .ok (.getfield 15, 3) := by decide +kernel
theorem dX9_add_24 : decode cX9_add 24 = .ok (.iconst 1, 1) := by decide +kernel
theorem dX9_add_25 : decode cX9_add 25 = .ok (.iadd, 1) := by decide +kernel
theorem dX9_add_26 : decode cX9_add 26 = .ok (.putfield 15, 3) := by decide +kernel
theorem dX9_add_29 : decode cX9_add 29 = .ok (.return_, 1) := by decide +kernel
theorem mk_X9_add : MVk yX9_add "FairBlocks$Text" cX9_add 2 (Option.none : Option FieldType) 1 := ⟨w_348, w_346, w_347, w_2, rfl, by decide +kernel, by decide +kernel, by decide +kernel⟩
def BX9_add_0 (G : Nat → KT) (Q : Option mV → mM → Prop) : KT := (s_aload 0 (s_geti 9 1 (s_iconst (80) (s_icmp (fun x y => y ≤ x) (s_at G 29 [false, false]) (s_aload 0 (s_getr 9 13 (fun _ => 2) (s_aload 0 (s_geti 9 1 (s_iload 1 (s_iast (s_aload 0 (s_dup (s_geti 9 1 (s_iconst (1) (s_bin (fun x y => x + y) (s_puti 9 1 (s_at G 29 [false, false])))))))))))))))))
set_option maxRecDepth 4000 in
theorem bsX9_add_0 {p : Program} {l : Launch} {e : Env} {s : State} {m : MethodId} {args : Array Value} {below : List Frame} {meth : Method} {c : Code} {D : va_G} {ca : Nat → ClassId} {ad : Nat → Nat} {A : Nat → Prop} {Q : Option mV → mM → Prop} (hX : CX p s m args meth c 2 cX9_add "FairBlocks$Text" D ca ad A) (hr : meth.sig.returnType = (Option.none : Option FieldType)) : ∀ lv st M, BX9_add_0 (Gd p l e (rmD 0) s m args below meth c 2 D ca ad A 0 0 (MQ below (QC D ca ad A Q) args s 0 0 A)) Q lv st M → Gd p l e (rmD 0) s m args below meth c 2 D ca ad A 0 0 (MQ below (QC D ca ad A Q) args s 0 0 A) 0 lv st M :=
  (sd_aload_n hX dX9_add_0 rfl (sd_geti hX fl_31 (by decide) dX9_add_1 (sd_bipush hX dX9_add_4 rfl (sd_icmp_ge hX dX9_add_6 (by decide) sd_at (sd_aload_n hX dX9_add_9 rfl (sd_getr hX fl_30 (fun _ => rfl) (fun _ _ _ => by decide +kernel) dX9_add_10 (sd_aload_n hX dX9_add_13 rfl (sd_geti hX fl_31 (by decide) dX9_add_14 (sd_iload_n hX dX9_add_17 rfl (sd_iast hX dX9_add_18 (sd_aload_n hX dX9_add_19 rfl (sd_dup hX dX9_add_20 (sd_geti hX fl_31 (by decide) dX9_add_21 (sd_iconst hX dX9_add_24 rfl (sd_iadd hX dX9_add_25 (sd_puti hX fp_31 dX9_add_26 sd_at))))))))))))))))
def BX9_add_29 (G : Nat → KT) (Q : Option mV → mM → Prop) : KT := (s_vret Q)
set_option maxRecDepth 4000 in
theorem bsX9_add_29 {p : Program} {l : Launch} {e : Env} {s : State} {m : MethodId} {args : Array Value} {below : List Frame} {meth : Method} {c : Code} {D : va_G} {ca : Nat → ClassId} {ad : Nat → Nat} {A : Nat → Prop} {Q : Option mV → mM → Prop} (hX : CX p s m args meth c 2 cX9_add "FairBlocks$Text" D ca ad A) (hr : meth.sig.returnType = (Option.none : Option FieldType)) : ∀ lv st M, BX9_add_29 (Gd p l e (rmD 0) s m args below meth c 2 D ca ad A 0 0 (MQ below (QC D ca ad A Q) args s 0 0 A)) Q lv st M → Gd p l e (rmD 0) s m args below meth c 2 D ca ad A 0 0 (MQ below (QC D ca ad A Q) args s 0 0 A) 29 lv st M :=
  sd_vret hX hr dX9_add_29
set_option maxHeartbeats 400000 in
theorem pf_X9_add (G : Nat → KT) (Q : Option mV → mM → Prop) (h0 : ∀ lv st M, BX9_add_0 G Q lv st M → G 0 lv st M) (h29 : ∀ lv st M, BX9_add_29 G Q lv st M → G 29 lv st M) (as : List mV) (M : mM) (ho : ∀ v ∈ as, okV v) (hp : pre_X9_add as M) (hQ : Q (fn_X9_add as M).1 (fn_X9_add as M).2) : G 0 (inL as ++ List.replicate (2 - (inL as).length) none) [] M := by
  obtain ⟨c, x, rfl, hT⟩ := hp
  obtain rfl : c = 1 := k9 (ho (.inr (.inr (9, c))) (by simp))
  obtain ⟨hz, ez⟩ := nT_e hT
  simp only [fn_X9_add, adT] at hQ
  (apply h0; simp only [BX9_add_0, s_mth, s_mab, s_at, s_iconst, s_lconst, s_iload, s_lload, s_aload, s_istore, s_lstore, s_astore, s_iinc, s_bin, s_binG, s_un, s_lbin, s_lbinG, s_lsh, s_lcmp, s_i2l, s_l2i, s_dup, s_dup2, s_pop, s_if, s_icmp, s_geti, s_getl, s_getr, s_puti, s_putz, s_putl, s_iald, s_zald, s_iast, s_zast, s_aaldS, s_aaldU, s_gets, s_tald, s_tsw, tsw, s_iret, s_zret, s_lret, s_aret, s_vret, s_callV, s_callS, c1, nl1, keepL, csum, pushR, inL, List.getD_cons_zero, List.getD_cons_succ, List.set_cons_zero, List.set_cons_succ, List.cons_append, List.nil_append, List.append_nil, List.replicate, List.length_cons, List.length_nil, List.take_succ_cons, List.take_zero, List.drop_succ_cons, List.drop_zero, List.reverse_cons, List.reverse_nil, true_and, and_true, forall_const, not_true_eq_false, not_false_eq_true, false_implies, true_implies, implies_true, one0, m10, Nat.reduceAdd, Nat.reduceSub, Nat.reduceLeDiff, Nat.zero_add, Nat.add_zero])
  simp only [l2]
  refine ⟨fun h => ?_, fun h => ⟨?_, ?_⟩⟩
  · (apply h29; simp only [BX9_add_29, s_mth, s_mab, s_at, s_iconst, s_lconst, s_iload, s_lload, s_aload, s_istore, s_lstore, s_astore, s_iinc, s_bin, s_binG, s_un, s_lbin, s_lbinG, s_lsh, s_lcmp, s_i2l, s_l2i, s_dup, s_dup2, s_pop, s_if, s_icmp, s_geti, s_getl, s_getr, s_puti, s_putz, s_putl, s_iald, s_zald, s_iast, s_zast, s_aaldS, s_aaldU, s_gets, s_tald, s_tsw, tsw, s_iret, s_zret, s_lret, s_aret, s_vret, s_callV, s_callS, c1, nl1, keepL, csum, pushR, inL, List.getD_cons_zero, List.getD_cons_succ, List.set_cons_zero, List.set_cons_succ, List.cons_append, List.nil_append, List.append_nil, List.replicate, List.length_cons, List.length_nil, List.take_succ_cons, List.take_zero, List.drop_succ_cons, List.drop_zero, List.reverse_cons, List.reverse_nil, true_and, and_true, forall_const, not_true_eq_false, not_false_eq_true, false_implies, true_implies, implies_true, one0, m10, Nat.reduceAdd, Nat.reduceSub, Nat.reduceLeDiff, Nat.zero_add, Nat.add_zero])
    rw [if_pos h] at hQ
    exact hQ
  · rw [ez]
    refine vp_in_nI ?_ (by decide)
    rcases Nat.lt_or_ge (nT M) 80 with g | g
    · exact g
    · rw [ez] at h
      exact absurd (nI_le (a := 80) g (by omega)) h
  · (apply h29; simp only [BX9_add_29, s_mth, s_mab, s_at, s_iconst, s_lconst, s_iload, s_lload, s_aload, s_istore, s_lstore, s_astore, s_iinc, s_bin, s_binG, s_un, s_lbin, s_lbinG, s_lsh, s_lcmp, s_i2l, s_l2i, s_dup, s_dup2, s_pop, s_if, s_icmp, s_geti, s_getl, s_getr, s_puti, s_putz, s_putl, s_iald, s_zald, s_iast, s_zast, s_aaldS, s_aaldU, s_gets, s_tald, s_tsw, tsw, s_iret, s_zret, s_lret, s_aret, s_vret, s_callV, s_callS, c1, nl1, keepL, csum, pushR, inL, List.getD_cons_zero, List.getD_cons_succ, List.set_cons_zero, List.set_cons_succ, List.cons_append, List.nil_append, List.append_nil, List.replicate, List.length_cons, List.length_nil, List.take_succ_cons, List.take_zero, List.drop_succ_cons, List.drop_zero, List.reverse_cons, List.reverse_nil, true_and, and_true, forall_const, not_true_eq_false, not_false_eq_true, false_implies, true_implies, implies_true, one0, m10, Nat.reduceAdd, Nat.reduceSub, Nat.reduceLeDiff, Nat.zero_add, Nat.add_zero])
    rw [if_neg h] at hQ
    rw [mset_n (by decide : (1 : Nat) ≠ 2)]
    exact hQ
theorem ct_X9_add (l : Launch) : Con l yX9_add cX9_add 2 (Option.none : Option FieldType) 0 pre_X9_add fn_X9_add := con_of (by decide +kernel) ok_X9_add len_X9_add (fun p e s m args below meth c D ca ad A as M hX hr hp ho => pf_X9_add _ _ (bsX9_add_0 hX hr) (bsX9_add_29 hX hr) as M ho hp ⟨rfl, rfl⟩)
def fig (M : mM) (p : Int32) : Int32 := if M.1 1 1 ≤ p then 0 else M.1 2 p.toNatClampNeg - 48
def pre_X9_figure (as : List mV) (M : mM) : Prop := ∃ c p, as = [.inr (.inr (9, c)), .inl p] ∧ TL M ∧ ∃ j, j < 2 ^ 31 ∧ p = nI j
def fn_X9_figure : List mV → mM → Option mV × mM
  | [.inr (.inr (_, c)), .inl p], M => (some (.inl (fig M p)), M)
  | _, M => (none, M)
theorem ok_X9_figure (as : List mV) (M : mM) (h : pre_X9_figure as M) (_ : ∀ v ∈ as, okV v) : okR (fn_X9_figure as M).1 := by
  obtain ⟨c, p, rfl, -⟩ := h
  first | trivial | exact (by decide +kernel : kof 14 = 8)
theorem len_X9_figure (as : List mV) (M : mM) (h : pre_X9_figure as M) : (inL as).length ≤ 2 := by
  obtain ⟨c, p, rfl, -⟩ := h
  exact Nat.le_of_ble_eq_true rfl


theorem dX9_figure_0 : decode cX9_figure 0 = .ok (.iload_n 1, 1) := by decide +kernel
theorem dX9_figure_1 : decode cX9_figure 1 = .ok (.aload_n 0, 1) := by decide +kernel
theorem dX9_figure_2 : decode cX9_figure 2 = .ok (.getfield 15, 3) := by decide +kernel
theorem dX9_figure_5 : decode cX9_figure 5 = .ok (.if_icmp .ge 15, 3) := by decide +kernel
theorem dX9_figure_8 : decode cX9_figure 8 = .ok (.aload_n 0, 1) := by decide +kernel
theorem dX9_figure_9 : decode cX9_figure 9 = .ok (.getfield 11, 3) := by decide +kernel
theorem dX9_figure_12 : decode cX9_figure 12 = .ok (.iload_n 1, 1) := by decide +kernel
theorem dX9_figure_13 : decode cX9_figure 13 = .ok (.iaload, 1) := by decide +kernel
theorem dX9_figure_14 : decode cX9_figure 14 = .ok (.bipush 48, 2) := by decide +kernel
theorem dX9_figure_16 : decode cX9_figure 16 = .ok (.isub, 1) := by decide +kernel
theorem dX9_figure_17 : decode cX9_figure 17 = .ok (.goto 4, 3) := by decide +kernel
theorem dX9_figure_20 : decode cX9_figure 20 = .ok (.iconst 0, 1) := by decide +kernel
theorem dX9_figure_21 : decode cX9_figure 21 = .ok (.ireturn, 1) := by decide +kernel
theorem mk_X9_figure : MVk yX9_figure "FairBlocks$Text" cX9_figure 2 (Option.some FieldType.int) 1 := ⟨w_379, w_378, wp_0, w_2, rfl, by decide +kernel, by decide +kernel, by decide +kernel⟩
def BX9_figure_0 (G : Nat → KT) (Q : Option mV → mM → Prop) : KT := (s_iload 1 (s_aload 0 (s_geti 9 1 (s_icmp (fun x y => y ≤ x) (s_at G 20 [false, false]) (s_aload 0 (s_getr 9 13 (fun _ => 2) (s_iload 1 (s_iald (s_iconst (48) (s_bin (fun x y => x - y) (s_at G 21 [false, false])))))))))))
set_option maxRecDepth 4000 in
theorem bsX9_figure_0 {p : Program} {l : Launch} {e : Env} {s : State} {m : MethodId} {args : Array Value} {below : List Frame} {meth : Method} {c : Code} {D : va_G} {ca : Nat → ClassId} {ad : Nat → Nat} {A : Nat → Prop} {Q : Option mV → mM → Prop} (hX : CX p s m args meth c 2 cX9_figure "FairBlocks$Text" D ca ad A) (hr : meth.sig.returnType = (Option.some FieldType.int)) : ∀ lv st M, BX9_figure_0 (Gd p l e (rmD 0) s m args below meth c 2 D ca ad A 0 0 (MQ below (QC D ca ad A Q) args s 0 0 A)) Q lv st M → Gd p l e (rmD 0) s m args below meth c 2 D ca ad A 0 0 (MQ below (QC D ca ad A Q) args s 0 0 A) 0 lv st M :=
  (sd_iload_n hX dX9_figure_0 rfl (sd_aload_n hX dX9_figure_1 rfl (sd_geti hX fl_31 (by decide) dX9_figure_2 (sd_icmp_ge hX dX9_figure_5 (by decide) sd_at (sd_aload_n hX dX9_figure_8 rfl (sd_getr hX fl_30 (fun _ => rfl) (fun _ _ _ => by decide +kernel) dX9_figure_9 (sd_iload_n hX dX9_figure_12 rfl (sd_iald hX dX9_figure_13 (sd_bipush hX dX9_figure_14 rfl (sd_isub hX dX9_figure_16 (sd_goto hX dX9_figure_17 (by decide) sd_at)))))))))))
def BX9_figure_20 (G : Nat → KT) (Q : Option mV → mM → Prop) : KT := (s_iconst (0) (s_at G 21 [false, false]))
set_option maxRecDepth 4000 in
theorem bsX9_figure_20 {p : Program} {l : Launch} {e : Env} {s : State} {m : MethodId} {args : Array Value} {below : List Frame} {meth : Method} {c : Code} {D : va_G} {ca : Nat → ClassId} {ad : Nat → Nat} {A : Nat → Prop} {Q : Option mV → mM → Prop} (hX : CX p s m args meth c 2 cX9_figure "FairBlocks$Text" D ca ad A) (hr : meth.sig.returnType = (Option.some FieldType.int)) : ∀ lv st M, BX9_figure_20 (Gd p l e (rmD 0) s m args below meth c 2 D ca ad A 0 0 (MQ below (QC D ca ad A Q) args s 0 0 A)) Q lv st M → Gd p l e (rmD 0) s m args below meth c 2 D ca ad A 0 0 (MQ below (QC D ca ad A Q) args s 0 0 A) 20 lv st M :=
  (sd_iconst hX dX9_figure_20 rfl sd_at)
def BX9_figure_21 (G : Nat → KT) (Q : Option mV → mM → Prop) : KT := (s_iret Q)
set_option maxRecDepth 4000 in
theorem bsX9_figure_21 {p : Program} {l : Launch} {e : Env} {s : State} {m : MethodId} {args : Array Value} {below : List Frame} {meth : Method} {c : Code} {D : va_G} {ca : Nat → ClassId} {ad : Nat → Nat} {A : Nat → Prop} {Q : Option mV → mM → Prop} (hX : CX p s m args meth c 2 cX9_figure "FairBlocks$Text" D ca ad A) (hr : meth.sig.returnType = (Option.some FieldType.int)) : ∀ lv st M, BX9_figure_21 (Gd p l e (rmD 0) s m args below meth c 2 D ca ad A 0 0 (MQ below (QC D ca ad A Q) args s 0 0 A)) Q lv st M → Gd p l e (rmD 0) s m args below meth c 2 D ca ad A 0 0 (MQ below (QC D ca ad A Q) args s 0 0 A) 21 lv st M :=
  sd_iret hX hr dX9_figure_21
set_option maxHeartbeats 400000 in
theorem pf_X9_figure (G : Nat → KT) (Q : Option mV → mM → Prop) (h0 : ∀ lv st M, BX9_figure_0 G Q lv st M → G 0 lv st M) (h20 : ∀ lv st M, BX9_figure_20 G Q lv st M → G 20 lv st M) (h21 : ∀ lv st M, BX9_figure_21 G Q lv st M → G 21 lv st M) (as : List mV) (M : mM) (ho : ∀ v ∈ as, okV v) (hp : pre_X9_figure as M) (hQ : Q (fn_X9_figure as M).1 (fn_X9_figure as M).2) : G 0 (inL as ++ List.replicate (2 - (inL as).length) none) [] M := by
  obtain ⟨c, p, rfl, hT, j, hj, rfl⟩ := hp
  obtain rfl : c = 1 := k9 (ho (.inr (.inr (9, c))) (by simp))
  obtain ⟨hz, ez⟩ := nT_e hT
  simp only [fn_X9_figure, fig] at hQ
  (apply h0; simp only [BX9_figure_0, s_mth, s_mab, s_at, s_iconst, s_lconst, s_iload, s_lload, s_aload, s_istore, s_lstore, s_astore, s_iinc, s_bin, s_binG, s_un, s_lbin, s_lbinG, s_lsh, s_lcmp, s_i2l, s_l2i, s_dup, s_dup2, s_pop, s_if, s_icmp, s_geti, s_getl, s_getr, s_puti, s_putz, s_putl, s_iald, s_zald, s_iast, s_zast, s_aaldS, s_aaldU, s_gets, s_tald, s_tsw, tsw, s_iret, s_zret, s_lret, s_aret, s_vret, s_callV, s_callS, c1, nl1, keepL, csum, pushR, inL, List.getD_cons_zero, List.getD_cons_succ, List.set_cons_zero, List.set_cons_succ, List.cons_append, List.nil_append, List.append_nil, List.replicate, List.length_cons, List.length_nil, List.take_succ_cons, List.take_zero, List.drop_succ_cons, List.drop_zero, List.reverse_cons, List.reverse_nil, true_and, and_true, forall_const, not_true_eq_false, not_false_eq_true, false_implies, true_implies, implies_true, one0, m10, Nat.reduceAdd, Nat.reduceSub, Nat.reduceLeDiff, Nat.zero_add, Nat.add_zero])
  simp only [l2]
  refine ⟨fun h => ?_, fun h => ⟨?_, ?_⟩⟩
  · (apply h20; simp only [BX9_figure_20, s_mth, s_mab, s_at, s_iconst, s_lconst, s_iload, s_lload, s_aload, s_istore, s_lstore, s_astore, s_iinc, s_bin, s_binG, s_un, s_lbin, s_lbinG, s_lsh, s_lcmp, s_i2l, s_l2i, s_dup, s_dup2, s_pop, s_if, s_icmp, s_geti, s_getl, s_getr, s_puti, s_putz, s_putl, s_iald, s_zald, s_iast, s_zast, s_aaldS, s_aaldU, s_gets, s_tald, s_tsw, tsw, s_iret, s_zret, s_lret, s_aret, s_vret, s_callV, s_callS, c1, nl1, keepL, csum, pushR, inL, List.getD_cons_zero, List.getD_cons_succ, List.set_cons_zero, List.set_cons_succ, List.cons_append, List.nil_append, List.append_nil, List.replicate, List.length_cons, List.length_nil, List.take_succ_cons, List.take_zero, List.drop_succ_cons, List.drop_zero, List.reverse_cons, List.reverse_nil, true_and, and_true, forall_const, not_true_eq_false, not_false_eq_true, false_implies, true_implies, implies_true, one0, m10, Nat.reduceAdd, Nat.reduceSub, Nat.reduceLeDiff, Nat.zero_add, Nat.add_zero])
    (apply h21; simp only [BX9_figure_21, s_mth, s_mab, s_at, s_iconst, s_lconst, s_iload, s_lload, s_aload, s_istore, s_lstore, s_astore, s_iinc, s_bin, s_binG, s_un, s_lbin, s_lbinG, s_lsh, s_lcmp, s_i2l, s_l2i, s_dup, s_dup2, s_pop, s_if, s_icmp, s_geti, s_getl, s_getr, s_puti, s_putz, s_putl, s_iald, s_zald, s_iast, s_zast, s_aaldS, s_aaldU, s_gets, s_tald, s_tsw, tsw, s_iret, s_zret, s_lret, s_aret, s_vret, s_callV, s_callS, c1, nl1, keepL, csum, pushR, inL, List.getD_cons_zero, List.getD_cons_succ, List.set_cons_zero, List.set_cons_succ, List.cons_append, List.nil_append, List.append_nil, List.replicate, List.length_cons, List.length_nil, List.take_succ_cons, List.take_zero, List.drop_succ_cons, List.drop_zero, List.reverse_cons, List.reverse_nil, true_and, and_true, forall_const, not_true_eq_false, not_false_eq_true, false_implies, true_implies, implies_true, one0, m10, Nat.reduceAdd, Nat.reduceSub, Nat.reduceLeDiff, Nat.zero_add, Nat.add_zero])
    rw [if_pos h] at hQ
    exact hQ
  · refine vp_in_nI ?_ (by decide)
    rcases Nat.lt_or_ge j (nT M) with g | g
    · omega
    · rw [ez] at h
      exact absurd (nI_le g hj) h
  · (apply h21; simp only [BX9_figure_21, s_mth, s_mab, s_at, s_iconst, s_lconst, s_iload, s_lload, s_aload, s_istore, s_lstore, s_astore, s_iinc, s_bin, s_binG, s_un, s_lbin, s_lbinG, s_lsh, s_lcmp, s_i2l, s_l2i, s_dup, s_dup2, s_pop, s_if, s_icmp, s_geti, s_getl, s_getr, s_puti, s_putz, s_putl, s_iald, s_zald, s_iast, s_zast, s_aaldS, s_aaldU, s_gets, s_tald, s_tsw, tsw, s_iret, s_zret, s_lret, s_aret, s_vret, s_callV, s_callS, c1, nl1, keepL, csum, pushR, inL, List.getD_cons_zero, List.getD_cons_succ, List.set_cons_zero, List.set_cons_succ, List.cons_append, List.nil_append, List.append_nil, List.replicate, List.length_cons, List.length_nil, List.take_succ_cons, List.take_zero, List.drop_succ_cons, List.drop_zero, List.reverse_cons, List.reverse_nil, true_and, and_true, forall_const, not_true_eq_false, not_false_eq_true, false_implies, true_implies, implies_true, one0, m10, Nat.reduceAdd, Nat.reduceSub, Nat.reduceLeDiff, Nat.zero_add, Nat.add_zero])
    rw [if_neg h] at hQ
    exact hQ
theorem ct_X9_figure (l : Launch) : Con l yX9_figure cX9_figure 2 (Option.some FieldType.int) 0 pre_X9_figure fn_X9_figure := con_of (by decide +kernel) ok_X9_figure len_X9_figure (fun p e s m args below meth c D ca ad A as M hX hr hp ho => pf_X9_figure _ _ (bsX9_figure_0 hX hr) (bsX9_figure_20 hX hr) (bsX9_figure_21 hX hr) as M ho hp ⟨rfl, rfl⟩)
def bhR (ph le : Int32) : Int32 := if le = 46 then 4 else if wi le 48 57 = 0 then -1 else if 14 ≤ ph then -1 else ph + 1
def pre_X9_behindRate (as : List mV) (M : mM) : Prop := ∃ ph le, as = [.inl ph, .inl le]
def fn_X9_behindRate : List mV → mM → Option mV × mM
  | [.inl ph, .inl le], M => (some (.inl (bhR ph le)), M)
  | _, M => (none, M)
theorem ok_X9_behindRate (as : List mV) (M : mM) (h : pre_X9_behindRate as M) (_ : ∀ v ∈ as, okV v) : okR (fn_X9_behindRate as M).1 := by
  obtain ⟨ph, le, rfl⟩ := h
  first | trivial | exact (by decide +kernel : kof 14 = 8)
theorem len_X9_behindRate (as : List mV) (M : mM) (h : pre_X9_behindRate as M) : (inL as).length ≤ 2 := by
  obtain ⟨ph, le, rfl⟩ := h
  exact Nat.le_of_ble_eq_true rfl


theorem dX9_behindRate_0 : decode cX9_behindRate 0 = .ok (.iload_n 1, 1) := by decide +kernel
theorem dX9_behindRate_1 : decode cX9_behindRate 1 = .ok (.bipush 46, 2) := by decide +kernel
theorem dX9_behindRate_3 : decode cX9_behindRate 3 = .ok (.if_icmp .ne 5, 3) := by decide +kernel
theorem dX9_behindRate_6 : decode cX9_behindRate 6 = .ok (.iconst 4, 1) := by decide +kernel
theorem dX9_behindRate_7 : decode cX9_behindRate 7 = .ok (.ireturn, 1) := by decide +kernel
theorem dX9_behindRate_8 : decode cX9_behindRate 8 = .ok (.iload_n 1, 1) := by decide +kernel
theorem dX9_behindRate_9 : decode cX9_behindRate 9 = .ok (.bipush 48, 2) := by decide +kernel
theorem dX9_behindRate_11 : decode cX9_behindRate 11 = .ok (.bipush 57, 2) := by decide +kernel
theorem dX9_behindRate_13 : decode cX9_behindRate 13 = .ok (.invokestatic 23, 3) := by decide +kernel
theorem dX9_behindRate_16 : decode cX9_behindRate 16 = .ok (.ifCond .eq 15, 3) := by decide +kernel
theorem dX9_behindRate_19 : decode cX9_behindRate 19 = .ok (.iload_n 0, 1) := by decide +kernel
theorem dX9_behindRate_20 : decode cX9_behindRate 20 = .ok (.bipush 14, 2) := by decide +kernel
theorem dX9_behindRate_22 : decode cX9_behindRate 22 = .ok (.if_icmp .ge 9, 3) := by decide +kernel
theorem dX9_behindRate_25 : decode cX9_behindRate 25 = .ok (.iload_n 0, 1) := by decide +kernel
theorem dX9_behindRate_26 : decode cX9_behindRate 26 = .ok (.iconst 1, 1) := by decide +kernel
theorem dX9_behindRate_27 : decode cX9_behindRate 27 = .ok (.iadd, 1) := by decide +kernel
theorem dX9_behindRate_28 : decode cX9_behindRate 28 = .ok (.goto 4, 3) := by decide +kernel
theorem dX9_behindRate_31 : decode cX9_behindRate 31 = .ok (.iconst (-1), 1) := by decide +kernel
theorem dX9_behindRate_32 : decode cX9_behindRate 32 = .ok (.ireturn, 1) := by decide +kernel
theorem mk_X9_behindRate : MSk yX9_behindRate cX9_behindRate 2 (Option.some FieldType.int) 2 := ⟨w_367, w_366, w_2, by decide +kernel, by decide +kernel, by decide +kernel⟩
def BX9_behindRate_0 (G : Nat → KT) (Q : Option mV → mM → Prop) : KT := (s_iload 1 (s_iconst (46) (s_icmp (fun x y => x = y) ((s_iconst (4) (s_iret Q))) (s_at G 8 [true, true]))))
set_option maxRecDepth 4000 in
theorem bsX9_behindRate_0 {p : Program} {l : Launch} {e : Env} {s : State} {m : MethodId} {args : Array Value} {below : List Frame} {meth : Method} {c : Code} {D : va_G} {ca : Nat → ClassId} {ad : Nat → Nat} {A : Nat → Prop} {Q : Option mV → mM → Prop} (hX : CX p s m args meth c 2 cX9_behindRate "FairBlocks$Text" D ca ad A) (hr : meth.sig.returnType = (Option.some FieldType.int)) : ∀ lv st M, BX9_behindRate_0 (Gd p l e (rmD 1) s m args below meth c 2 D ca ad A 0 0 (MQ below (QC D ca ad A Q) args s 0 0 A)) Q lv st M → Gd p l e (rmD 1) s m args below meth c 2 D ca ad A 0 0 (MQ below (QC D ca ad A Q) args s 0 0 A) 0 lv st M :=
  (sd_iload_n hX dX9_behindRate_0 rfl (sd_bipush hX dX9_behindRate_1 rfl (sd_icmp_ne hX dX9_behindRate_3 (by decide) sd_at (sd_iconst hX dX9_behindRate_6 rfl (sd_iret hX hr dX9_behindRate_7)))))
def BX9_behindRate_8 (G : Nat → KT) (Q : Option mV → mM → Prop) : KT := (s_iload 1 (s_iconst (48) (s_iconst (57) (s_callS 3 pre_X11_within fn_X11_within (s_if (fun x => x = 0) (s_at G 31 [false, false]) (s_iload 0 (s_iconst (14) (s_icmp (fun x y => y ≤ x) (s_at G 31 [false, false]) (s_iload 0 (s_iconst (1) (s_bin (fun x y => x + y) (s_at G 32 [false, false]))))))))))))
set_option maxRecDepth 4000 in
theorem bsX9_behindRate_8 {p : Program} {l : Launch} {e : Env} {s : State} {m : MethodId} {args : Array Value} {below : List Frame} {meth : Method} {c : Code} {D : va_G} {ca : Nat → ClassId} {ad : Nat → Nat} {A : Nat → Prop} {Q : Option mV → mM → Prop} (hX : CX p s m args meth c 2 cX9_behindRate "FairBlocks$Text" D ca ad A) (hr : meth.sig.returnType = (Option.some FieldType.int)) : ∀ lv st M, BX9_behindRate_8 (Gd p l e (rmD 1) s m args below meth c 2 D ca ad A 0 0 (MQ below (QC D ca ad A Q) args s 0 0 A)) Q lv st M → Gd p l e (rmD 1) s m args below meth c 2 D ca ad A 0 0 (MQ below (QC D ca ad A Q) args s 0 0 A) 8 lv st M :=
  (sd_iload_n hX dX9_behindRate_8 rfl (sd_bipush hX dX9_behindRate_9 rfl (sd_bipush hX dX9_behindRate_11 rfl (sd_callSN hX (ct_X11_within l) mk_X11_within nw_4 ⟨⟨by decide, by decide⟩, by decide, by decide⟩ dX9_behindRate_13 (sd_if_eq hX dX9_behindRate_16 (by decide) sd_at (sd_iload_n hX dX9_behindRate_19 rfl (sd_bipush hX dX9_behindRate_20 rfl (sd_icmp_ge hX dX9_behindRate_22 (by decide) sd_at (sd_iload_n hX dX9_behindRate_25 rfl (sd_iconst hX dX9_behindRate_26 rfl (sd_iadd hX dX9_behindRate_27 (sd_goto hX dX9_behindRate_28 (by decide) sd_at))))))))))))
def BX9_behindRate_31 (G : Nat → KT) (Q : Option mV → mM → Prop) : KT := (s_iconst (-1) (s_at G 32 [false, false]))
set_option maxRecDepth 4000 in
theorem bsX9_behindRate_31 {p : Program} {l : Launch} {e : Env} {s : State} {m : MethodId} {args : Array Value} {below : List Frame} {meth : Method} {c : Code} {D : va_G} {ca : Nat → ClassId} {ad : Nat → Nat} {A : Nat → Prop} {Q : Option mV → mM → Prop} (hX : CX p s m args meth c 2 cX9_behindRate "FairBlocks$Text" D ca ad A) (hr : meth.sig.returnType = (Option.some FieldType.int)) : ∀ lv st M, BX9_behindRate_31 (Gd p l e (rmD 1) s m args below meth c 2 D ca ad A 0 0 (MQ below (QC D ca ad A Q) args s 0 0 A)) Q lv st M → Gd p l e (rmD 1) s m args below meth c 2 D ca ad A 0 0 (MQ below (QC D ca ad A Q) args s 0 0 A) 31 lv st M :=
  (sd_iconst hX dX9_behindRate_31 rfl sd_at)
def BX9_behindRate_32 (G : Nat → KT) (Q : Option mV → mM → Prop) : KT := (s_iret Q)
set_option maxRecDepth 4000 in
theorem bsX9_behindRate_32 {p : Program} {l : Launch} {e : Env} {s : State} {m : MethodId} {args : Array Value} {below : List Frame} {meth : Method} {c : Code} {D : va_G} {ca : Nat → ClassId} {ad : Nat → Nat} {A : Nat → Prop} {Q : Option mV → mM → Prop} (hX : CX p s m args meth c 2 cX9_behindRate "FairBlocks$Text" D ca ad A) (hr : meth.sig.returnType = (Option.some FieldType.int)) : ∀ lv st M, BX9_behindRate_32 (Gd p l e (rmD 1) s m args below meth c 2 D ca ad A 0 0 (MQ below (QC D ca ad A Q) args s 0 0 A)) Q lv st M → Gd p l e (rmD 1) s m args below meth c 2 D ca ad A 0 0 (MQ below (QC D ca ad A Q) args s 0 0 A) 32 lv st M :=
  sd_iret hX hr dX9_behindRate_32
set_option maxHeartbeats 400000 in
theorem pf_X9_behindRate (G : Nat → KT) (Q : Option mV → mM → Prop) (h0 : ∀ lv st M, BX9_behindRate_0 G Q lv st M → G 0 lv st M) (h8 : ∀ lv st M, BX9_behindRate_8 G Q lv st M → G 8 lv st M) (h31 : ∀ lv st M, BX9_behindRate_31 G Q lv st M → G 31 lv st M) (h32 : ∀ lv st M, BX9_behindRate_32 G Q lv st M → G 32 lv st M) (as : List mV) (M : mM) (ho : ∀ v ∈ as, okV v) (hp : pre_X9_behindRate as M) (hQ : Q (fn_X9_behindRate as M).1 (fn_X9_behindRate as M).2) : G 0 (inL as ++ List.replicate (2 - (inL as).length) none) [] M := by
  obtain ⟨ph, le, rfl⟩ := hp
  simp only [fn_X9_behindRate, bhR] at hQ
  (apply h0; simp only [BX9_behindRate_0, s_mth, s_mab, s_at, s_iconst, s_lconst, s_iload, s_lload, s_aload, s_istore, s_lstore, s_astore, s_iinc, s_bin, s_binG, s_un, s_lbin, s_lbinG, s_lsh, s_lcmp, s_i2l, s_l2i, s_dup, s_dup2, s_pop, s_if, s_icmp, s_geti, s_getl, s_getr, s_puti, s_putz, s_putl, s_iald, s_zald, s_iast, s_zast, s_aaldS, s_aaldU, s_gets, s_tald, s_tsw, tsw, s_iret, s_zret, s_lret, s_aret, s_vret, s_callV, s_callS, c1, nl1, keepL, csum, pushR, inL, List.getD_cons_zero, List.getD_cons_succ, List.set_cons_zero, List.set_cons_succ, List.cons_append, List.nil_append, List.append_nil, List.replicate, List.length_cons, List.length_nil, List.take_succ_cons, List.take_zero, List.drop_succ_cons, List.drop_zero, List.reverse_cons, List.reverse_nil, true_and, and_true, forall_const, not_true_eq_false, not_false_eq_true, false_implies, true_implies, implies_true, one0, m10, Nat.reduceAdd, Nat.reduceSub, Nat.reduceLeDiff, Nat.zero_add, Nat.add_zero, fn_X11_within])
  refine ⟨fun h => ?_, fun h => ?_⟩
  · rw [if_pos h] at hQ; exact hQ
  · rw [if_neg h] at hQ
    (apply h8; simp only [BX9_behindRate_8, s_mth, s_mab, s_at, s_iconst, s_lconst, s_iload, s_lload, s_aload, s_istore, s_lstore, s_astore, s_iinc, s_bin, s_binG, s_un, s_lbin, s_lbinG, s_lsh, s_lcmp, s_i2l, s_l2i, s_dup, s_dup2, s_pop, s_if, s_icmp, s_geti, s_getl, s_getr, s_puti, s_putz, s_putl, s_iald, s_zald, s_iast, s_zast, s_aaldS, s_aaldU, s_gets, s_tald, s_tsw, tsw, s_iret, s_zret, s_lret, s_aret, s_vret, s_callV, s_callS, c1, nl1, keepL, csum, pushR, inL, List.getD_cons_zero, List.getD_cons_succ, List.set_cons_zero, List.set_cons_succ, List.cons_append, List.nil_append, List.append_nil, List.replicate, List.length_cons, List.length_nil, List.take_succ_cons, List.take_zero, List.drop_succ_cons, List.drop_zero, List.reverse_cons, List.reverse_nil, true_and, and_true, forall_const, not_true_eq_false, not_false_eq_true, false_implies, true_implies, implies_true, one0, m10, Nat.reduceAdd, Nat.reduceSub, Nat.reduceLeDiff, Nat.zero_add, Nat.add_zero, fn_X11_within])
    refine ⟨⟨_, _, _, rfl⟩, fun h2 => ?_, fun h2 => ⟨fun h3 => ?_, fun h3 => ?_⟩⟩
    · rw [if_pos h2] at hQ
      (apply h31; simp only [BX9_behindRate_31, s_mth, s_mab, s_at, s_iconst, s_lconst, s_iload, s_lload, s_aload, s_istore, s_lstore, s_astore, s_iinc, s_bin, s_binG, s_un, s_lbin, s_lbinG, s_lsh, s_lcmp, s_i2l, s_l2i, s_dup, s_dup2, s_pop, s_if, s_icmp, s_geti, s_getl, s_getr, s_puti, s_putz, s_putl, s_iald, s_zald, s_iast, s_zast, s_aaldS, s_aaldU, s_gets, s_tald, s_tsw, tsw, s_iret, s_zret, s_lret, s_aret, s_vret, s_callV, s_callS, c1, nl1, keepL, csum, pushR, inL, List.getD_cons_zero, List.getD_cons_succ, List.set_cons_zero, List.set_cons_succ, List.cons_append, List.nil_append, List.append_nil, List.replicate, List.length_cons, List.length_nil, List.take_succ_cons, List.take_zero, List.drop_succ_cons, List.drop_zero, List.reverse_cons, List.reverse_nil, true_and, and_true, forall_const, not_true_eq_false, not_false_eq_true, false_implies, true_implies, implies_true, one0, m10, Nat.reduceAdd, Nat.reduceSub, Nat.reduceLeDiff, Nat.zero_add, Nat.add_zero, fn_X11_within])
      (apply h32; simp only [BX9_behindRate_32, s_mth, s_mab, s_at, s_iconst, s_lconst, s_iload, s_lload, s_aload, s_istore, s_lstore, s_astore, s_iinc, s_bin, s_binG, s_un, s_lbin, s_lbinG, s_lsh, s_lcmp, s_i2l, s_l2i, s_dup, s_dup2, s_pop, s_if, s_icmp, s_geti, s_getl, s_getr, s_puti, s_putz, s_putl, s_iald, s_zald, s_iast, s_zast, s_aaldS, s_aaldU, s_gets, s_tald, s_tsw, tsw, s_iret, s_zret, s_lret, s_aret, s_vret, s_callV, s_callS, c1, nl1, keepL, csum, pushR, inL, List.getD_cons_zero, List.getD_cons_succ, List.set_cons_zero, List.set_cons_succ, List.cons_append, List.nil_append, List.append_nil, List.replicate, List.length_cons, List.length_nil, List.take_succ_cons, List.take_zero, List.drop_succ_cons, List.drop_zero, List.reverse_cons, List.reverse_nil, true_and, and_true, forall_const, not_true_eq_false, not_false_eq_true, false_implies, true_implies, implies_true, one0, m10, Nat.reduceAdd, Nat.reduceSub, Nat.reduceLeDiff, Nat.zero_add, Nat.add_zero, fn_X11_within])
      exact hQ
    · rw [if_neg h2, if_pos h3] at hQ
      (apply h31; simp only [BX9_behindRate_31, s_mth, s_mab, s_at, s_iconst, s_lconst, s_iload, s_lload, s_aload, s_istore, s_lstore, s_astore, s_iinc, s_bin, s_binG, s_un, s_lbin, s_lbinG, s_lsh, s_lcmp, s_i2l, s_l2i, s_dup, s_dup2, s_pop, s_if, s_icmp, s_geti, s_getl, s_getr, s_puti, s_putz, s_putl, s_iald, s_zald, s_iast, s_zast, s_aaldS, s_aaldU, s_gets, s_tald, s_tsw, tsw, s_iret, s_zret, s_lret, s_aret, s_vret, s_callV, s_callS, c1, nl1, keepL, csum, pushR, inL, List.getD_cons_zero, List.getD_cons_succ, List.set_cons_zero, List.set_cons_succ, List.cons_append, List.nil_append, List.append_nil, List.replicate, List.length_cons, List.length_nil, List.take_succ_cons, List.take_zero, List.drop_succ_cons, List.drop_zero, List.reverse_cons, List.reverse_nil, true_and, and_true, forall_const, not_true_eq_false, not_false_eq_true, false_implies, true_implies, implies_true, one0, m10, Nat.reduceAdd, Nat.reduceSub, Nat.reduceLeDiff, Nat.zero_add, Nat.add_zero, fn_X11_within])
      (apply h32; simp only [BX9_behindRate_32, s_mth, s_mab, s_at, s_iconst, s_lconst, s_iload, s_lload, s_aload, s_istore, s_lstore, s_astore, s_iinc, s_bin, s_binG, s_un, s_lbin, s_lbinG, s_lsh, s_lcmp, s_i2l, s_l2i, s_dup, s_dup2, s_pop, s_if, s_icmp, s_geti, s_getl, s_getr, s_puti, s_putz, s_putl, s_iald, s_zald, s_iast, s_zast, s_aaldS, s_aaldU, s_gets, s_tald, s_tsw, tsw, s_iret, s_zret, s_lret, s_aret, s_vret, s_callV, s_callS, c1, nl1, keepL, csum, pushR, inL, List.getD_cons_zero, List.getD_cons_succ, List.set_cons_zero, List.set_cons_succ, List.cons_append, List.nil_append, List.append_nil, List.replicate, List.length_cons, List.length_nil, List.take_succ_cons, List.take_zero, List.drop_succ_cons, List.drop_zero, List.reverse_cons, List.reverse_nil, true_and, and_true, forall_const, not_true_eq_false, not_false_eq_true, false_implies, true_implies, implies_true, one0, m10, Nat.reduceAdd, Nat.reduceSub, Nat.reduceLeDiff, Nat.zero_add, Nat.add_zero, fn_X11_within])
      exact hQ
    · rw [if_neg h2, if_neg h3] at hQ
      (apply h32; simp only [BX9_behindRate_32, s_mth, s_mab, s_at, s_iconst, s_lconst, s_iload, s_lload, s_aload, s_istore, s_lstore, s_astore, s_iinc, s_bin, s_binG, s_un, s_lbin, s_lbinG, s_lsh, s_lcmp, s_i2l, s_l2i, s_dup, s_dup2, s_pop, s_if, s_icmp, s_geti, s_getl, s_getr, s_puti, s_putz, s_putl, s_iald, s_zald, s_iast, s_zast, s_aaldS, s_aaldU, s_gets, s_tald, s_tsw, tsw, s_iret, s_zret, s_lret, s_aret, s_vret, s_callV, s_callS, c1, nl1, keepL, csum, pushR, inL, List.getD_cons_zero, List.getD_cons_succ, List.set_cons_zero, List.set_cons_succ, List.cons_append, List.nil_append, List.append_nil, List.replicate, List.length_cons, List.length_nil, List.take_succ_cons, List.take_zero, List.drop_succ_cons, List.drop_zero, List.reverse_cons, List.reverse_nil, true_and, and_true, forall_const, not_true_eq_false, not_false_eq_true, false_implies, true_implies, implies_true, one0, m10, Nat.reduceAdd, Nat.reduceSub, Nat.reduceLeDiff, Nat.zero_add, Nat.add_zero, fn_X11_within])
      exact hQ
theorem ct_X9_behindRate (l : Launch) : Con l yX9_behindRate cX9_behindRate 2 (Option.some FieldType.int) 1 pre_X9_behindRate fn_X9_behindRate := con_of (by decide +kernel) ok_X9_behindRate len_X9_behindRate (fun p e s m args below meth c D ca ad A as M hX hr hp ho => pf_X9_behindRate _ _ (bsX9_behindRate_0 hX hr) (bsX9_behindRate_8 hX hr) (bsX9_behindRate_31 hX hr) (bsX9_behindRate_32 hX hr) as M ho hp ⟨rfl, rfl⟩)
def bh (ph le : Int32) : Int32 := if ph.toInt < 0 ∨ 8 < ph.toInt then bhR ph le else if ph.toInt = 0 then (if le = 67 then 1 else -1) else if ph.toInt = 1 ∨ ph.toInt = 2 then (if wi le 49 52 = 0 then -1 else ph + 1) else if ph.toInt = 4 then (if le = 117 then 5 else -1) else if ph.toInt = 6 then (if wi le 49 57 = 0 then -1 else 7) else (if wi le 48 57 = 0 then -1 else ph + 1)
def pre_X9_behind (as : List mV) (M : mM) : Prop := ∃ ph le, as = [.inl ph, .inl le]
def fn_X9_behind : List mV → mM → Option mV × mM
  | [.inl ph, .inl le], M => (some (.inl (bh ph le)), M)
  | _, M => (none, M)
theorem ok_X9_behind (as : List mV) (M : mM) (h : pre_X9_behind as M) (_ : ∀ v ∈ as, okV v) : okR (fn_X9_behind as M).1 := by
  obtain ⟨ph, le, rfl⟩ := h
  first | trivial | exact (by decide +kernel : kof 14 = 8)
theorem len_X9_behind (as : List mV) (M : mM) (h : pre_X9_behind as M) : (inL as).length ≤ 2 := by
  obtain ⟨ph, le, rfl⟩ := h
  exact Nat.le_of_ble_eq_true rfl


theorem dX9_behind_0 : decode cX9_behind 0 = .ok (.iload_n 0, 1) := by decide +kernel
theorem dX9_behind_1 : decode cX9_behind 1 = .ok (.tableswitch 131 0 8 #[51, 63, 63, 112, 100, 112, 82, 112, 112], 51) := by decide +kernel
theorem dX9_behind_52 : decode cX9_behind 52 = .ok (.iload_n 1, 1) := by decide +kernel
theorem dX9_behind_53 : decode cX9_behind 53 = .ok (.bipush 67, 2) := by decide +kernel
theorem dX9_behind_55 : decode cX9_behind 55 = .ok (.if_icmp .ne 7, 3) := by decide +kernel
theorem dX9_behind_58 : decode cX9_behind 58 = .ok (.iconst 1, 1) := by decide +kernel
theorem dX9_behind_59 : decode cX9_behind 59 = .ok (.goto 4, 3) := by decide +kernel
theorem dX9_behind_62 : decode cX9_behind 62 = .ok (.iconst (-1), 1) := by decide +kernel
theorem dX9_behind_63 : decode cX9_behind 63 = .ok (.ireturn, 1) := by decide +kernel
theorem dX9_behind_64 : decode cX9_behind 64 = .ok (.iload_n 1, 1) := by decide +kernel
theorem dX9_behind_65 : decode cX9_behind 65 = .ok (.bipush 49, 2) := by decide +kernel
theorem dX9_behind_67 : decode cX9_behind 67 = .ok (.bipush 52, 2) := by decide +kernel
theorem dX9_behind_69 : decode cX9_behind 69 = .ok (.invokestatic 23, 3) := by decide +kernel
theorem dX9_behind_72 : decode cX9_behind 72 = .ok (.ifCond .eq 9, 3) := by decide +kernel
theorem dX9_behind_75 : decode cX9_behind 75 = .ok (.iload_n 0, 1) := by decide +kernel
theorem dX9_behind_76 : decode cX9_behind 76 = .ok (.iconst 1, 1) := by decide +kernel
theorem dX9_behind_77 : decode cX9_behind 77 = .ok (.iadd, 1) := by decide +kernel
theorem dX9_behind_78 : decode cX9_behind 78 = .ok (.goto 4, 3) := by decide +kernel
theorem dX9_behind_81 : decode cX9_behind 81 = .ok (.iconst (-1), 1) := by decide +kernel
theorem dX9_behind_82 : decode cX9_behind 82 = .ok (.ireturn, 1) := by decide +kernel
theorem dX9_behind_83 : decode cX9_behind 83 = .ok (.iload_n 1, 1) := by decide +kernel
theorem dX9_behind_84 : decode cX9_behind 84 = .ok (.bipush 49, 2) := by decide +kernel
theorem dX9_behind_86 : decode cX9_behind 86 = .ok (.bipush 57, 2) := by decide +kernel
theorem dX9_behind_88 : decode cX9_behind 88 = .ok (.invokestatic 23, 3) := by decide +kernel
theorem dX9_behind_91 : decode cX9_behind 91 = .ok (.ifCond .eq 8, 3) := by decide +kernel
theorem dX9_behind_94 : decode cX9_behind 94 = .ok (.bipush 7, 2) := by decide +kernel
theorem dX9_behind_96 : decode cX9_behind 96 = .ok (.goto 4, 3) := by decide +kernel
theorem dX9_behind_99 : decode cX9_behind 99 = .ok (.iconst (-1), 1) := by decide +kernel
theorem dX9_behind_100 : decode cX9_behind 100 = .ok (.ireturn, 1) := by decide +kernel
theorem dX9_behind_101 : decode cX9_behind 101 = .ok (.iload_n 1, 1) := by decide +kernel
theorem dX9_behind_102 : decode cX9_behind 102 = .ok (.bipush 117, 2) := by decide +kernel
theorem dX9_behind_104 : decode cX9_behind 104 = .ok (.if_icmp .ne 7, 3) := by decide +kernel
theorem dX9_behind_107 : decode cX9_behind 107 = .ok (.iconst 5, 1) := by decide +kernel
theorem dX9_behind_108 : decode cX9_behind 108 = .ok (.goto 4, 3) := by decide +kernel
theorem dX9_behind_111 : decode cX9_behind 111 = .ok (.iconst (-1), 1) := by decide +kernel
theorem dX9_behind_112 : decode cX9_behind 112 = .ok (.ireturn, 1) := by decide +kernel
theorem dX9_behind_113 : decode cX9_behind 113 = .ok (.iload_n 1, 1) := by decide +kernel
theorem dX9_behind_114 : decode cX9_behind 114 = .ok (.bipush 48, 2) := by decide +kernel
theorem dX9_behind_116 : decode cX9_behind 116 = .ok (.bipush 57, 2) := by decide +kernel
theorem dX9_behind_118 : decode cX9_behind 118 = .ok (.invokestatic 23, 3) := by decide +kernel
theorem dX9_behind_121 : decode cX9_behind 121 = .ok (.ifCond .eq 9, 3) := by decide +kernel
theorem dX9_behind_124 : decode cX9_behind 124 = .ok (.iload_n 0, 1) := by decide +kernel
theorem dX9_behind_125 : decode cX9_behind 125 = .ok (.iconst 1, 1) := by decide +kernel
theorem dX9_behind_126 : decode cX9_behind 126 = .ok (.iadd, 1) := by decide +kernel
theorem dX9_behind_127 : decode cX9_behind 127 = .ok (.goto 4, 3) := by decide +kernel
theorem dX9_behind_130 : decode cX9_behind 130 = .ok (.iconst (-1), 1) := by decide +kernel
theorem dX9_behind_131 : decode cX9_behind 131 = .ok (.ireturn, 1) := by decide +kernel
theorem dX9_behind_132 : decode cX9_behind 132 = .ok (.iload_n 0, 1) := by decide +kernel
theorem dX9_behind_133 : decode cX9_behind 133 = .ok (.iload_n 1, 1) := by decide +kernel
theorem dX9_behind_134 : decode cX9_behind 134 = .ok (.invokestatic 27, 3) := by decide +kernel
theorem dX9_behind_137 : decode cX9_behind 137 = .ok (.ireturn, 1) := by decide +kernel
theorem mk_X9_behind : MSk yX9_behind cX9_behind 2 (Option.some FieldType.int) 2 := ⟨w_363, w_362, w_2, by decide +kernel, by decide +kernel, by decide +kernel⟩
def BX9_behind_0 (G : Nat → KT) (Q : Option mV → mM → Prop) : KT := (s_iload 0 (s_tsw (0) (8) [s_at G 52 [false, true], s_at G 64 [true, true], s_at G 64 [true, true], s_at G 113 [true, true], s_at G 101 [false, true], s_at G 113 [true, true], s_at G 83 [false, true], s_at G 113 [true, true], s_at G 113 [true, true]] (s_at G 132 [true, true])))
set_option maxRecDepth 4000 in
theorem bsX9_behind_0 {p : Program} {l : Launch} {e : Env} {s : State} {m : MethodId} {args : Array Value} {below : List Frame} {meth : Method} {c : Code} {D : va_G} {ca : Nat → ClassId} {ad : Nat → Nat} {A : Nat → Prop} {Q : Option mV → mM → Prop} (hX : CX p s m args meth c 2 cX9_behind "FairBlocks$Text" D ca ad A) (hr : meth.sig.returnType = (Option.some FieldType.int)) : ∀ lv st M, BX9_behind_0 (Gd p l e (rmD 2) s m args below meth c 2 D ca ad A 0 0 (MQ below (QC D ca ad A Q) args s 0 0 A)) Q lv st M → Gd p l e (rmD 2) s m args below meth c 2 D ca ad A 0 0 (MQ below (QC D ca ad A Q) args s 0 0 A) 0 lv st M :=
  (sd_iload_n hX dX9_behind_0 rfl (sd_tsw hX dX9_behind_1 (ts := [52, 64, 64, 113, 101, 113, 83, 113, 113]) (td := 132) (by decide) (by decide) rfl ⟨sd_at, sd_at, sd_at, sd_at, sd_at, sd_at, sd_at, sd_at, sd_at, trivial⟩ sd_at))
def BX9_behind_52 (G : Nat → KT) (Q : Option mV → mM → Prop) : KT := (s_iload 1 (s_iconst (67) (s_icmp (fun x y => x = y) ((s_iconst (1) (s_at G 63 [false, false]))) (s_at G 62 [false, false]))))
set_option maxRecDepth 4000 in
theorem bsX9_behind_52 {p : Program} {l : Launch} {e : Env} {s : State} {m : MethodId} {args : Array Value} {below : List Frame} {meth : Method} {c : Code} {D : va_G} {ca : Nat → ClassId} {ad : Nat → Nat} {A : Nat → Prop} {Q : Option mV → mM → Prop} (hX : CX p s m args meth c 2 cX9_behind "FairBlocks$Text" D ca ad A) (hr : meth.sig.returnType = (Option.some FieldType.int)) : ∀ lv st M, BX9_behind_52 (Gd p l e (rmD 2) s m args below meth c 2 D ca ad A 0 0 (MQ below (QC D ca ad A Q) args s 0 0 A)) Q lv st M → Gd p l e (rmD 2) s m args below meth c 2 D ca ad A 0 0 (MQ below (QC D ca ad A Q) args s 0 0 A) 52 lv st M :=
  (sd_iload_n hX dX9_behind_52 rfl (sd_bipush hX dX9_behind_53 rfl (sd_icmp_ne hX dX9_behind_55 (by decide) sd_at (sd_iconst hX dX9_behind_58 rfl (sd_goto hX dX9_behind_59 (by decide) sd_at)))))
def BX9_behind_62 (G : Nat → KT) (Q : Option mV → mM → Prop) : KT := (s_iconst (-1) (s_at G 63 [false, false]))
set_option maxRecDepth 4000 in
theorem bsX9_behind_62 {p : Program} {l : Launch} {e : Env} {s : State} {m : MethodId} {args : Array Value} {below : List Frame} {meth : Method} {c : Code} {D : va_G} {ca : Nat → ClassId} {ad : Nat → Nat} {A : Nat → Prop} {Q : Option mV → mM → Prop} (hX : CX p s m args meth c 2 cX9_behind "FairBlocks$Text" D ca ad A) (hr : meth.sig.returnType = (Option.some FieldType.int)) : ∀ lv st M, BX9_behind_62 (Gd p l e (rmD 2) s m args below meth c 2 D ca ad A 0 0 (MQ below (QC D ca ad A Q) args s 0 0 A)) Q lv st M → Gd p l e (rmD 2) s m args below meth c 2 D ca ad A 0 0 (MQ below (QC D ca ad A Q) args s 0 0 A) 62 lv st M :=
  (sd_iconst hX dX9_behind_62 rfl sd_at)
def BX9_behind_63 (G : Nat → KT) (Q : Option mV → mM → Prop) : KT := (s_iret Q)
set_option maxRecDepth 4000 in
theorem bsX9_behind_63 {p : Program} {l : Launch} {e : Env} {s : State} {m : MethodId} {args : Array Value} {below : List Frame} {meth : Method} {c : Code} {D : va_G} {ca : Nat → ClassId} {ad : Nat → Nat} {A : Nat → Prop} {Q : Option mV → mM → Prop} (hX : CX p s m args meth c 2 cX9_behind "FairBlocks$Text" D ca ad A) (hr : meth.sig.returnType = (Option.some FieldType.int)) : ∀ lv st M, BX9_behind_63 (Gd p l e (rmD 2) s m args below meth c 2 D ca ad A 0 0 (MQ below (QC D ca ad A Q) args s 0 0 A)) Q lv st M → Gd p l e (rmD 2) s m args below meth c 2 D ca ad A 0 0 (MQ below (QC D ca ad A Q) args s 0 0 A) 63 lv st M :=
  sd_iret hX hr dX9_behind_63
def BX9_behind_64 (G : Nat → KT) (Q : Option mV → mM → Prop) : KT := (s_iload 1 (s_iconst (49) (s_iconst (52) (s_callS 3 pre_X11_within fn_X11_within (s_if (fun x => x = 0) (s_at G 81 [false, false]) (s_iload 0 (s_iconst (1) (s_bin (fun x y => x + y) (s_at G 82 [false, false])))))))))
set_option maxRecDepth 4000 in
theorem bsX9_behind_64 {p : Program} {l : Launch} {e : Env} {s : State} {m : MethodId} {args : Array Value} {below : List Frame} {meth : Method} {c : Code} {D : va_G} {ca : Nat → ClassId} {ad : Nat → Nat} {A : Nat → Prop} {Q : Option mV → mM → Prop} (hX : CX p s m args meth c 2 cX9_behind "FairBlocks$Text" D ca ad A) (hr : meth.sig.returnType = (Option.some FieldType.int)) : ∀ lv st M, BX9_behind_64 (Gd p l e (rmD 2) s m args below meth c 2 D ca ad A 0 0 (MQ below (QC D ca ad A Q) args s 0 0 A)) Q lv st M → Gd p l e (rmD 2) s m args below meth c 2 D ca ad A 0 0 (MQ below (QC D ca ad A Q) args s 0 0 A) 64 lv st M :=
  (sd_iload_n hX dX9_behind_64 rfl (sd_bipush hX dX9_behind_65 rfl (sd_bipush hX dX9_behind_67 rfl (sd_callSN hX (ct_X11_within l) mk_X11_within nw_4 ⟨⟨by decide, by decide⟩, by decide, by decide⟩ dX9_behind_69 (sd_if_eq hX dX9_behind_72 (by decide) sd_at (sd_iload_n hX dX9_behind_75 rfl (sd_iconst hX dX9_behind_76 rfl (sd_iadd hX dX9_behind_77 (sd_goto hX dX9_behind_78 (by decide) sd_at)))))))))
def BX9_behind_81 (G : Nat → KT) (Q : Option mV → mM → Prop) : KT := (s_iconst (-1) (s_at G 82 [false, false]))
set_option maxRecDepth 4000 in
theorem bsX9_behind_81 {p : Program} {l : Launch} {e : Env} {s : State} {m : MethodId} {args : Array Value} {below : List Frame} {meth : Method} {c : Code} {D : va_G} {ca : Nat → ClassId} {ad : Nat → Nat} {A : Nat → Prop} {Q : Option mV → mM → Prop} (hX : CX p s m args meth c 2 cX9_behind "FairBlocks$Text" D ca ad A) (hr : meth.sig.returnType = (Option.some FieldType.int)) : ∀ lv st M, BX9_behind_81 (Gd p l e (rmD 2) s m args below meth c 2 D ca ad A 0 0 (MQ below (QC D ca ad A Q) args s 0 0 A)) Q lv st M → Gd p l e (rmD 2) s m args below meth c 2 D ca ad A 0 0 (MQ below (QC D ca ad A Q) args s 0 0 A) 81 lv st M :=
  (sd_iconst hX dX9_behind_81 rfl sd_at)
def BX9_behind_82 (G : Nat → KT) (Q : Option mV → mM → Prop) : KT := (s_iret Q)
set_option maxRecDepth 4000 in
theorem bsX9_behind_82 {p : Program} {l : Launch} {e : Env} {s : State} {m : MethodId} {args : Array Value} {below : List Frame} {meth : Method} {c : Code} {D : va_G} {ca : Nat → ClassId} {ad : Nat → Nat} {A : Nat → Prop} {Q : Option mV → mM → Prop} (hX : CX p s m args meth c 2 cX9_behind "FairBlocks$Text" D ca ad A) (hr : meth.sig.returnType = (Option.some FieldType.int)) : ∀ lv st M, BX9_behind_82 (Gd p l e (rmD 2) s m args below meth c 2 D ca ad A 0 0 (MQ below (QC D ca ad A Q) args s 0 0 A)) Q lv st M → Gd p l e (rmD 2) s m args below meth c 2 D ca ad A 0 0 (MQ below (QC D ca ad A Q) args s 0 0 A) 82 lv st M :=
  sd_iret hX hr dX9_behind_82
def BX9_behind_83 (G : Nat → KT) (Q : Option mV → mM → Prop) : KT := (s_iload 1 (s_iconst (49) (s_iconst (57) (s_callS 3 pre_X11_within fn_X11_within (s_if (fun x => x = 0) (s_at G 99 [false, false]) (s_iconst (7) (s_at G 100 [false, false])))))))
set_option maxRecDepth 4000 in
theorem bsX9_behind_83 {p : Program} {l : Launch} {e : Env} {s : State} {m : MethodId} {args : Array Value} {below : List Frame} {meth : Method} {c : Code} {D : va_G} {ca : Nat → ClassId} {ad : Nat → Nat} {A : Nat → Prop} {Q : Option mV → mM → Prop} (hX : CX p s m args meth c 2 cX9_behind "FairBlocks$Text" D ca ad A) (hr : meth.sig.returnType = (Option.some FieldType.int)) : ∀ lv st M, BX9_behind_83 (Gd p l e (rmD 2) s m args below meth c 2 D ca ad A 0 0 (MQ below (QC D ca ad A Q) args s 0 0 A)) Q lv st M → Gd p l e (rmD 2) s m args below meth c 2 D ca ad A 0 0 (MQ below (QC D ca ad A Q) args s 0 0 A) 83 lv st M :=
  (sd_iload_n hX dX9_behind_83 rfl (sd_bipush hX dX9_behind_84 rfl (sd_bipush hX dX9_behind_86 rfl (sd_callSN hX (ct_X11_within l) mk_X11_within nw_4 ⟨⟨by decide, by decide⟩, by decide, by decide⟩ dX9_behind_88 (sd_if_eq hX dX9_behind_91 (by decide) sd_at (sd_bipush hX dX9_behind_94 rfl (sd_goto hX dX9_behind_96 (by decide) sd_at)))))))
def BX9_behind_99 (G : Nat → KT) (Q : Option mV → mM → Prop) : KT := (s_iconst (-1) (s_at G 100 [false, false]))
set_option maxRecDepth 4000 in
theorem bsX9_behind_99 {p : Program} {l : Launch} {e : Env} {s : State} {m : MethodId} {args : Array Value} {below : List Frame} {meth : Method} {c : Code} {D : va_G} {ca : Nat → ClassId} {ad : Nat → Nat} {A : Nat → Prop} {Q : Option mV → mM → Prop} (hX : CX p s m args meth c 2 cX9_behind "FairBlocks$Text" D ca ad A) (hr : meth.sig.returnType = (Option.some FieldType.int)) : ∀ lv st M, BX9_behind_99 (Gd p l e (rmD 2) s m args below meth c 2 D ca ad A 0 0 (MQ below (QC D ca ad A Q) args s 0 0 A)) Q lv st M → Gd p l e (rmD 2) s m args below meth c 2 D ca ad A 0 0 (MQ below (QC D ca ad A Q) args s 0 0 A) 99 lv st M :=
  (sd_iconst hX dX9_behind_99 rfl sd_at)
def BX9_behind_100 (G : Nat → KT) (Q : Option mV → mM → Prop) : KT := (s_iret Q)
set_option maxRecDepth 4000 in
theorem bsX9_behind_100 {p : Program} {l : Launch} {e : Env} {s : State} {m : MethodId} {args : Array Value} {below : List Frame} {meth : Method} {c : Code} {D : va_G} {ca : Nat → ClassId} {ad : Nat → Nat} {A : Nat → Prop} {Q : Option mV → mM → Prop} (hX : CX p s m args meth c 2 cX9_behind "FairBlocks$Text" D ca ad A) (hr : meth.sig.returnType = (Option.some FieldType.int)) : ∀ lv st M, BX9_behind_100 (Gd p l e (rmD 2) s m args below meth c 2 D ca ad A 0 0 (MQ below (QC D ca ad A Q) args s 0 0 A)) Q lv st M → Gd p l e (rmD 2) s m args below meth c 2 D ca ad A 0 0 (MQ below (QC D ca ad A Q) args s 0 0 A) 100 lv st M :=
  sd_iret hX hr dX9_behind_100
def BX9_behind_101 (G : Nat → KT) (Q : Option mV → mM → Prop) : KT := (s_iload 1 (s_iconst (117) (s_icmp (fun x y => x = y) ((s_iconst (5) (s_at G 112 [false, false]))) (s_at G 111 [false, false]))))
set_option maxRecDepth 4000 in
theorem bsX9_behind_101 {p : Program} {l : Launch} {e : Env} {s : State} {m : MethodId} {args : Array Value} {below : List Frame} {meth : Method} {c : Code} {D : va_G} {ca : Nat → ClassId} {ad : Nat → Nat} {A : Nat → Prop} {Q : Option mV → mM → Prop} (hX : CX p s m args meth c 2 cX9_behind "FairBlocks$Text" D ca ad A) (hr : meth.sig.returnType = (Option.some FieldType.int)) : ∀ lv st M, BX9_behind_101 (Gd p l e (rmD 2) s m args below meth c 2 D ca ad A 0 0 (MQ below (QC D ca ad A Q) args s 0 0 A)) Q lv st M → Gd p l e (rmD 2) s m args below meth c 2 D ca ad A 0 0 (MQ below (QC D ca ad A Q) args s 0 0 A) 101 lv st M :=
  (sd_iload_n hX dX9_behind_101 rfl (sd_bipush hX dX9_behind_102 rfl (sd_icmp_ne hX dX9_behind_104 (by decide) sd_at (sd_iconst hX dX9_behind_107 rfl (sd_goto hX dX9_behind_108 (by decide) sd_at)))))
def BX9_behind_111 (G : Nat → KT) (Q : Option mV → mM → Prop) : KT := (s_iconst (-1) (s_at G 112 [false, false]))
set_option maxRecDepth 4000 in
theorem bsX9_behind_111 {p : Program} {l : Launch} {e : Env} {s : State} {m : MethodId} {args : Array Value} {below : List Frame} {meth : Method} {c : Code} {D : va_G} {ca : Nat → ClassId} {ad : Nat → Nat} {A : Nat → Prop} {Q : Option mV → mM → Prop} (hX : CX p s m args meth c 2 cX9_behind "FairBlocks$Text" D ca ad A) (hr : meth.sig.returnType = (Option.some FieldType.int)) : ∀ lv st M, BX9_behind_111 (Gd p l e (rmD 2) s m args below meth c 2 D ca ad A 0 0 (MQ below (QC D ca ad A Q) args s 0 0 A)) Q lv st M → Gd p l e (rmD 2) s m args below meth c 2 D ca ad A 0 0 (MQ below (QC D ca ad A Q) args s 0 0 A) 111 lv st M :=
  (sd_iconst hX dX9_behind_111 rfl sd_at)
def BX9_behind_112 (G : Nat → KT) (Q : Option mV → mM → Prop) : KT := (s_iret Q)
set_option maxRecDepth 4000 in
theorem bsX9_behind_112 {p : Program} {l : Launch} {e : Env} {s : State} {m : MethodId} {args : Array Value} {below : List Frame} {meth : Method} {c : Code} {D : va_G} {ca : Nat → ClassId} {ad : Nat → Nat} {A : Nat → Prop} {Q : Option mV → mM → Prop} (hX : CX p s m args meth c 2 cX9_behind "FairBlocks$Text" D ca ad A) (hr : meth.sig.returnType = (Option.some FieldType.int)) : ∀ lv st M, BX9_behind_112 (Gd p l e (rmD 2) s m args below meth c 2 D ca ad A 0 0 (MQ below (QC D ca ad A Q) args s 0 0 A)) Q lv st M → Gd p l e (rmD 2) s m args below meth c 2 D ca ad A 0 0 (MQ below (QC D ca ad A Q) args s 0 0 A) 112 lv st M :=
  sd_iret hX hr dX9_behind_112
def BX9_behind_113 (G : Nat → KT) (Q : Option mV → mM → Prop) : KT := (s_iload 1 (s_iconst (48) (s_iconst (57) (s_callS 3 pre_X11_within fn_X11_within (s_if (fun x => x = 0) (s_at G 130 [false, false]) (s_iload 0 (s_iconst (1) (s_bin (fun x y => x + y) (s_at G 131 [false, false])))))))))
set_option maxRecDepth 4000 in
theorem bsX9_behind_113 {p : Program} {l : Launch} {e : Env} {s : State} {m : MethodId} {args : Array Value} {below : List Frame} {meth : Method} {c : Code} {D : va_G} {ca : Nat → ClassId} {ad : Nat → Nat} {A : Nat → Prop} {Q : Option mV → mM → Prop} (hX : CX p s m args meth c 2 cX9_behind "FairBlocks$Text" D ca ad A) (hr : meth.sig.returnType = (Option.some FieldType.int)) : ∀ lv st M, BX9_behind_113 (Gd p l e (rmD 2) s m args below meth c 2 D ca ad A 0 0 (MQ below (QC D ca ad A Q) args s 0 0 A)) Q lv st M → Gd p l e (rmD 2) s m args below meth c 2 D ca ad A 0 0 (MQ below (QC D ca ad A Q) args s 0 0 A) 113 lv st M :=
  (sd_iload_n hX dX9_behind_113 rfl (sd_bipush hX dX9_behind_114 rfl (sd_bipush hX dX9_behind_116 rfl (sd_callSN hX (ct_X11_within l) mk_X11_within nw_4 ⟨⟨by decide, by decide⟩, by decide, by decide⟩ dX9_behind_118 (sd_if_eq hX dX9_behind_121 (by decide) sd_at (sd_iload_n hX dX9_behind_124 rfl (sd_iconst hX dX9_behind_125 rfl (sd_iadd hX dX9_behind_126 (sd_goto hX dX9_behind_127 (by decide) sd_at)))))))))
def BX9_behind_130 (G : Nat → KT) (Q : Option mV → mM → Prop) : KT := (s_iconst (-1) (s_at G 131 [false, false]))
set_option maxRecDepth 4000 in
theorem bsX9_behind_130 {p : Program} {l : Launch} {e : Env} {s : State} {m : MethodId} {args : Array Value} {below : List Frame} {meth : Method} {c : Code} {D : va_G} {ca : Nat → ClassId} {ad : Nat → Nat} {A : Nat → Prop} {Q : Option mV → mM → Prop} (hX : CX p s m args meth c 2 cX9_behind "FairBlocks$Text" D ca ad A) (hr : meth.sig.returnType = (Option.some FieldType.int)) : ∀ lv st M, BX9_behind_130 (Gd p l e (rmD 2) s m args below meth c 2 D ca ad A 0 0 (MQ below (QC D ca ad A Q) args s 0 0 A)) Q lv st M → Gd p l e (rmD 2) s m args below meth c 2 D ca ad A 0 0 (MQ below (QC D ca ad A Q) args s 0 0 A) 130 lv st M :=
  (sd_iconst hX dX9_behind_130 rfl sd_at)
def BX9_behind_131 (G : Nat → KT) (Q : Option mV → mM → Prop) : KT := (s_iret Q)
set_option maxRecDepth 4000 in
theorem bsX9_behind_131 {p : Program} {l : Launch} {e : Env} {s : State} {m : MethodId} {args : Array Value} {below : List Frame} {meth : Method} {c : Code} {D : va_G} {ca : Nat → ClassId} {ad : Nat → Nat} {A : Nat → Prop} {Q : Option mV → mM → Prop} (hX : CX p s m args meth c 2 cX9_behind "FairBlocks$Text" D ca ad A) (hr : meth.sig.returnType = (Option.some FieldType.int)) : ∀ lv st M, BX9_behind_131 (Gd p l e (rmD 2) s m args below meth c 2 D ca ad A 0 0 (MQ below (QC D ca ad A Q) args s 0 0 A)) Q lv st M → Gd p l e (rmD 2) s m args below meth c 2 D ca ad A 0 0 (MQ below (QC D ca ad A Q) args s 0 0 A) 131 lv st M :=
  sd_iret hX hr dX9_behind_131
def BX9_behind_132 (G : Nat → KT) (Q : Option mV → mM → Prop) : KT := (s_iload 0 (s_iload 1 (s_callS 2 pre_X9_behindRate fn_X9_behindRate (s_iret Q))))
set_option maxRecDepth 4000 in
theorem bsX9_behind_132 {p : Program} {l : Launch} {e : Env} {s : State} {m : MethodId} {args : Array Value} {below : List Frame} {meth : Method} {c : Code} {D : va_G} {ca : Nat → ClassId} {ad : Nat → Nat} {A : Nat → Prop} {Q : Option mV → mM → Prop} (hX : CX p s m args meth c 2 cX9_behind "FairBlocks$Text" D ca ad A) (hr : meth.sig.returnType = (Option.some FieldType.int)) : ∀ lv st M, BX9_behind_132 (Gd p l e (rmD 2) s m args below meth c 2 D ca ad A 0 0 (MQ below (QC D ca ad A Q) args s 0 0 A)) Q lv st M → Gd p l e (rmD 2) s m args below meth c 2 D ca ad A 0 0 (MQ below (QC D ca ad A Q) args s 0 0 A) 132 lv st M :=
  (sd_iload_n hX dX9_behind_132 rfl (sd_iload_n hX dX9_behind_133 rfl (sd_callS hX (ct_X9_behindRate l) mk_X9_behindRate w_365 ⟨⟨by decide, by decide⟩, by decide, by decide⟩ dX9_behind_134 (sd_iret hX hr dX9_behind_137))))
set_option maxHeartbeats 400000 in
theorem pf_X9_behind (G : Nat → KT) (Q : Option mV → mM → Prop) (h0 : ∀ lv st M, BX9_behind_0 G Q lv st M → G 0 lv st M) (h52 : ∀ lv st M, BX9_behind_52 G Q lv st M → G 52 lv st M) (h62 : ∀ lv st M, BX9_behind_62 G Q lv st M → G 62 lv st M) (h63 : ∀ lv st M, BX9_behind_63 G Q lv st M → G 63 lv st M) (h64 : ∀ lv st M, BX9_behind_64 G Q lv st M → G 64 lv st M) (h81 : ∀ lv st M, BX9_behind_81 G Q lv st M → G 81 lv st M) (h82 : ∀ lv st M, BX9_behind_82 G Q lv st M → G 82 lv st M) (h83 : ∀ lv st M, BX9_behind_83 G Q lv st M → G 83 lv st M) (h99 : ∀ lv st M, BX9_behind_99 G Q lv st M → G 99 lv st M) (h100 : ∀ lv st M, BX9_behind_100 G Q lv st M → G 100 lv st M) (h101 : ∀ lv st M, BX9_behind_101 G Q lv st M → G 101 lv st M) (h111 : ∀ lv st M, BX9_behind_111 G Q lv st M → G 111 lv st M) (h112 : ∀ lv st M, BX9_behind_112 G Q lv st M → G 112 lv st M) (h113 : ∀ lv st M, BX9_behind_113 G Q lv st M → G 113 lv st M) (h130 : ∀ lv st M, BX9_behind_130 G Q lv st M → G 130 lv st M) (h131 : ∀ lv st M, BX9_behind_131 G Q lv st M → G 131 lv st M) (h132 : ∀ lv st M, BX9_behind_132 G Q lv st M → G 132 lv st M) (as : List mV) (M : mM) (ho : ∀ v ∈ as, okV v) (hp : pre_X9_behind as M) (hQ : Q (fn_X9_behind as M).1 (fn_X9_behind as M).2) : G 0 (inL as ++ List.replicate (2 - (inL as).length) none) [] M := by
  obtain ⟨ph, le, rfl⟩ := hp
  simp only [fn_X9_behind, bh] at hQ
  have D113 : Q (some (.inl (if wi le 48 57 = 0 then -1 else ph + 1))) M → G 113 [some (.inl ph), some (.inl le)] [] M := by
    intro hQ
    (apply h113; simp only [BX9_behind_113, s_mth, s_mab, s_at, s_iconst, s_lconst, s_iload, s_lload, s_aload, s_istore, s_lstore, s_astore, s_iinc, s_bin, s_binG, s_un, s_lbin, s_lbinG, s_lsh, s_lcmp, s_i2l, s_l2i, s_dup, s_dup2, s_pop, s_if, s_icmp, s_geti, s_getl, s_getr, s_puti, s_putz, s_putl, s_iald, s_zald, s_iast, s_zast, s_aaldS, s_aaldU, s_gets, s_tald, s_tsw, tsw, s_iret, s_zret, s_lret, s_aret, s_vret, s_callV, s_callS, c1, nl1, keepL, csum, pushR, inL, List.getD_cons_zero, List.getD_cons_succ, List.set_cons_zero, List.set_cons_succ, List.cons_append, List.nil_append, List.append_nil, List.replicate, List.length_cons, List.length_nil, List.take_succ_cons, List.take_zero, List.drop_succ_cons, List.drop_zero, List.reverse_cons, List.reverse_nil, true_and, and_true, forall_const, not_true_eq_false, not_false_eq_true, false_implies, true_implies, implies_true, one0, m10, Nat.reduceAdd, Nat.reduceSub, Nat.reduceLeDiff, Nat.zero_add, Nat.add_zero, fn_X11_within, fn_X9_behindRate])
    refine ⟨⟨_, _, _, rfl⟩, fun h2 => ?_, fun h2 => ?_⟩
    · rw [if_pos h2] at hQ
      (apply h130; simp only [BX9_behind_130, s_mth, s_mab, s_at, s_iconst, s_lconst, s_iload, s_lload, s_aload, s_istore, s_lstore, s_astore, s_iinc, s_bin, s_binG, s_un, s_lbin, s_lbinG, s_lsh, s_lcmp, s_i2l, s_l2i, s_dup, s_dup2, s_pop, s_if, s_icmp, s_geti, s_getl, s_getr, s_puti, s_putz, s_putl, s_iald, s_zald, s_iast, s_zast, s_aaldS, s_aaldU, s_gets, s_tald, s_tsw, tsw, s_iret, s_zret, s_lret, s_aret, s_vret, s_callV, s_callS, c1, nl1, keepL, csum, pushR, inL, List.getD_cons_zero, List.getD_cons_succ, List.set_cons_zero, List.set_cons_succ, List.cons_append, List.nil_append, List.append_nil, List.replicate, List.length_cons, List.length_nil, List.take_succ_cons, List.take_zero, List.drop_succ_cons, List.drop_zero, List.reverse_cons, List.reverse_nil, true_and, and_true, forall_const, not_true_eq_false, not_false_eq_true, false_implies, true_implies, implies_true, one0, m10, Nat.reduceAdd, Nat.reduceSub, Nat.reduceLeDiff, Nat.zero_add, Nat.add_zero, fn_X11_within, fn_X9_behindRate])
      (apply h131; simp only [BX9_behind_131, s_mth, s_mab, s_at, s_iconst, s_lconst, s_iload, s_lload, s_aload, s_istore, s_lstore, s_astore, s_iinc, s_bin, s_binG, s_un, s_lbin, s_lbinG, s_lsh, s_lcmp, s_i2l, s_l2i, s_dup, s_dup2, s_pop, s_if, s_icmp, s_geti, s_getl, s_getr, s_puti, s_putz, s_putl, s_iald, s_zald, s_iast, s_zast, s_aaldS, s_aaldU, s_gets, s_tald, s_tsw, tsw, s_iret, s_zret, s_lret, s_aret, s_vret, s_callV, s_callS, c1, nl1, keepL, csum, pushR, inL, List.getD_cons_zero, List.getD_cons_succ, List.set_cons_zero, List.set_cons_succ, List.cons_append, List.nil_append, List.append_nil, List.replicate, List.length_cons, List.length_nil, List.take_succ_cons, List.take_zero, List.drop_succ_cons, List.drop_zero, List.reverse_cons, List.reverse_nil, true_and, and_true, forall_const, not_true_eq_false, not_false_eq_true, false_implies, true_implies, implies_true, one0, m10, Nat.reduceAdd, Nat.reduceSub, Nat.reduceLeDiff, Nat.zero_add, Nat.add_zero, fn_X11_within, fn_X9_behindRate])
      exact hQ
    · rw [if_neg h2] at hQ
      (apply h131; simp only [BX9_behind_131, s_mth, s_mab, s_at, s_iconst, s_lconst, s_iload, s_lload, s_aload, s_istore, s_lstore, s_astore, s_iinc, s_bin, s_binG, s_un, s_lbin, s_lbinG, s_lsh, s_lcmp, s_i2l, s_l2i, s_dup, s_dup2, s_pop, s_if, s_icmp, s_geti, s_getl, s_getr, s_puti, s_putz, s_putl, s_iald, s_zald, s_iast, s_zast, s_aaldS, s_aaldU, s_gets, s_tald, s_tsw, tsw, s_iret, s_zret, s_lret, s_aret, s_vret, s_callV, s_callS, c1, nl1, keepL, csum, pushR, inL, List.getD_cons_zero, List.getD_cons_succ, List.set_cons_zero, List.set_cons_succ, List.cons_append, List.nil_append, List.append_nil, List.replicate, List.length_cons, List.length_nil, List.take_succ_cons, List.take_zero, List.drop_succ_cons, List.drop_zero, List.reverse_cons, List.reverse_nil, true_and, and_true, forall_const, not_true_eq_false, not_false_eq_true, false_implies, true_implies, implies_true, one0, m10, Nat.reduceAdd, Nat.reduceSub, Nat.reduceLeDiff, Nat.zero_add, Nat.add_zero, fn_X11_within, fn_X9_behindRate])
      exact hQ
  have D64 : Q (some (.inl (if wi le 49 52 = 0 then -1 else ph + 1))) M → G 64 [some (.inl ph), some (.inl le)] [] M := by
    intro hQ
    (apply h64; simp only [BX9_behind_64, s_mth, s_mab, s_at, s_iconst, s_lconst, s_iload, s_lload, s_aload, s_istore, s_lstore, s_astore, s_iinc, s_bin, s_binG, s_un, s_lbin, s_lbinG, s_lsh, s_lcmp, s_i2l, s_l2i, s_dup, s_dup2, s_pop, s_if, s_icmp, s_geti, s_getl, s_getr, s_puti, s_putz, s_putl, s_iald, s_zald, s_iast, s_zast, s_aaldS, s_aaldU, s_gets, s_tald, s_tsw, tsw, s_iret, s_zret, s_lret, s_aret, s_vret, s_callV, s_callS, c1, nl1, keepL, csum, pushR, inL, List.getD_cons_zero, List.getD_cons_succ, List.set_cons_zero, List.set_cons_succ, List.cons_append, List.nil_append, List.append_nil, List.replicate, List.length_cons, List.length_nil, List.take_succ_cons, List.take_zero, List.drop_succ_cons, List.drop_zero, List.reverse_cons, List.reverse_nil, true_and, and_true, forall_const, not_true_eq_false, not_false_eq_true, false_implies, true_implies, implies_true, one0, m10, Nat.reduceAdd, Nat.reduceSub, Nat.reduceLeDiff, Nat.zero_add, Nat.add_zero, fn_X11_within, fn_X9_behindRate])
    refine ⟨⟨_, _, _, rfl⟩, fun h2 => ?_, fun h2 => ?_⟩
    · rw [if_pos h2] at hQ
      (apply h81; simp only [BX9_behind_81, s_mth, s_mab, s_at, s_iconst, s_lconst, s_iload, s_lload, s_aload, s_istore, s_lstore, s_astore, s_iinc, s_bin, s_binG, s_un, s_lbin, s_lbinG, s_lsh, s_lcmp, s_i2l, s_l2i, s_dup, s_dup2, s_pop, s_if, s_icmp, s_geti, s_getl, s_getr, s_puti, s_putz, s_putl, s_iald, s_zald, s_iast, s_zast, s_aaldS, s_aaldU, s_gets, s_tald, s_tsw, tsw, s_iret, s_zret, s_lret, s_aret, s_vret, s_callV, s_callS, c1, nl1, keepL, csum, pushR, inL, List.getD_cons_zero, List.getD_cons_succ, List.set_cons_zero, List.set_cons_succ, List.cons_append, List.nil_append, List.append_nil, List.replicate, List.length_cons, List.length_nil, List.take_succ_cons, List.take_zero, List.drop_succ_cons, List.drop_zero, List.reverse_cons, List.reverse_nil, true_and, and_true, forall_const, not_true_eq_false, not_false_eq_true, false_implies, true_implies, implies_true, one0, m10, Nat.reduceAdd, Nat.reduceSub, Nat.reduceLeDiff, Nat.zero_add, Nat.add_zero, fn_X11_within, fn_X9_behindRate])
      (apply h82; simp only [BX9_behind_82, s_mth, s_mab, s_at, s_iconst, s_lconst, s_iload, s_lload, s_aload, s_istore, s_lstore, s_astore, s_iinc, s_bin, s_binG, s_un, s_lbin, s_lbinG, s_lsh, s_lcmp, s_i2l, s_l2i, s_dup, s_dup2, s_pop, s_if, s_icmp, s_geti, s_getl, s_getr, s_puti, s_putz, s_putl, s_iald, s_zald, s_iast, s_zast, s_aaldS, s_aaldU, s_gets, s_tald, s_tsw, tsw, s_iret, s_zret, s_lret, s_aret, s_vret, s_callV, s_callS, c1, nl1, keepL, csum, pushR, inL, List.getD_cons_zero, List.getD_cons_succ, List.set_cons_zero, List.set_cons_succ, List.cons_append, List.nil_append, List.append_nil, List.replicate, List.length_cons, List.length_nil, List.take_succ_cons, List.take_zero, List.drop_succ_cons, List.drop_zero, List.reverse_cons, List.reverse_nil, true_and, and_true, forall_const, not_true_eq_false, not_false_eq_true, false_implies, true_implies, implies_true, one0, m10, Nat.reduceAdd, Nat.reduceSub, Nat.reduceLeDiff, Nat.zero_add, Nat.add_zero, fn_X11_within, fn_X9_behindRate])
      exact hQ
    · rw [if_neg h2] at hQ
      (apply h82; simp only [BX9_behind_82, s_mth, s_mab, s_at, s_iconst, s_lconst, s_iload, s_lload, s_aload, s_istore, s_lstore, s_astore, s_iinc, s_bin, s_binG, s_un, s_lbin, s_lbinG, s_lsh, s_lcmp, s_i2l, s_l2i, s_dup, s_dup2, s_pop, s_if, s_icmp, s_geti, s_getl, s_getr, s_puti, s_putz, s_putl, s_iald, s_zald, s_iast, s_zast, s_aaldS, s_aaldU, s_gets, s_tald, s_tsw, tsw, s_iret, s_zret, s_lret, s_aret, s_vret, s_callV, s_callS, c1, nl1, keepL, csum, pushR, inL, List.getD_cons_zero, List.getD_cons_succ, List.set_cons_zero, List.set_cons_succ, List.cons_append, List.nil_append, List.append_nil, List.replicate, List.length_cons, List.length_nil, List.take_succ_cons, List.take_zero, List.drop_succ_cons, List.drop_zero, List.reverse_cons, List.reverse_nil, true_and, and_true, forall_const, not_true_eq_false, not_false_eq_true, false_implies, true_implies, implies_true, one0, m10, Nat.reduceAdd, Nat.reduceSub, Nat.reduceLeDiff, Nat.zero_add, Nat.add_zero, fn_X11_within, fn_X9_behindRate])
      exact hQ
  (apply h0; simp only [BX9_behind_0, s_mth, s_mab, s_at, s_iconst, s_lconst, s_iload, s_lload, s_aload, s_istore, s_lstore, s_astore, s_iinc, s_bin, s_binG, s_un, s_lbin, s_lbinG, s_lsh, s_lcmp, s_i2l, s_l2i, s_dup, s_dup2, s_pop, s_if, s_icmp, s_geti, s_getl, s_getr, s_puti, s_putz, s_putl, s_iald, s_zald, s_iast, s_zast, s_aaldS, s_aaldU, s_gets, s_tald, s_tsw, tsw, s_iret, s_zret, s_lret, s_aret, s_vret, s_callV, s_callS, c1, nl1, keepL, csum, pushR, inL, List.getD_cons_zero, List.getD_cons_succ, List.set_cons_zero, List.set_cons_succ, List.cons_append, List.nil_append, List.append_nil, List.replicate, List.length_cons, List.length_nil, List.take_succ_cons, List.take_zero, List.drop_succ_cons, List.drop_zero, List.reverse_cons, List.reverse_nil, true_and, and_true, forall_const, not_true_eq_false, not_false_eq_true, false_implies, true_implies, implies_true, one0, m10, Nat.reduceAdd, Nat.reduceSub, Nat.reduceLeDiff, Nat.zero_add, Nat.add_zero, fn_X11_within, fn_X9_behindRate])
  refine ⟨fun h => ?_, fun h => ?_, fun h => ?_, fun h => ?_, fun h => ?_, fun h => ?_, fun h => ?_, fun h => ?_, fun h => ?_, fun h => ?_⟩
  · rw [if_pos h] at hQ
    (apply h132; simp only [BX9_behind_132, s_mth, s_mab, s_at, s_iconst, s_lconst, s_iload, s_lload, s_aload, s_istore, s_lstore, s_astore, s_iinc, s_bin, s_binG, s_un, s_lbin, s_lbinG, s_lsh, s_lcmp, s_i2l, s_l2i, s_dup, s_dup2, s_pop, s_if, s_icmp, s_geti, s_getl, s_getr, s_puti, s_putz, s_putl, s_iald, s_zald, s_iast, s_zast, s_aaldS, s_aaldU, s_gets, s_tald, s_tsw, tsw, s_iret, s_zret, s_lret, s_aret, s_vret, s_callV, s_callS, c1, nl1, keepL, csum, pushR, inL, List.getD_cons_zero, List.getD_cons_succ, List.set_cons_zero, List.set_cons_succ, List.cons_append, List.nil_append, List.append_nil, List.replicate, List.length_cons, List.length_nil, List.take_succ_cons, List.take_zero, List.drop_succ_cons, List.drop_zero, List.reverse_cons, List.reverse_nil, true_and, and_true, forall_const, not_true_eq_false, not_false_eq_true, false_implies, true_implies, implies_true, one0, m10, Nat.reduceAdd, Nat.reduceSub, Nat.reduceLeDiff, Nat.zero_add, Nat.add_zero, fn_X11_within, fn_X9_behindRate])
    exact ⟨⟨_, _, rfl⟩, hQ⟩
  · rw [if_neg (by omega), if_pos (by omega)] at hQ
    (apply h52; simp only [BX9_behind_52, s_mth, s_mab, s_at, s_iconst, s_lconst, s_iload, s_lload, s_aload, s_istore, s_lstore, s_astore, s_iinc, s_bin, s_binG, s_un, s_lbin, s_lbinG, s_lsh, s_lcmp, s_i2l, s_l2i, s_dup, s_dup2, s_pop, s_if, s_icmp, s_geti, s_getl, s_getr, s_puti, s_putz, s_putl, s_iald, s_zald, s_iast, s_zast, s_aaldS, s_aaldU, s_gets, s_tald, s_tsw, tsw, s_iret, s_zret, s_lret, s_aret, s_vret, s_callV, s_callS, c1, nl1, keepL, csum, pushR, inL, List.getD_cons_zero, List.getD_cons_succ, List.set_cons_zero, List.set_cons_succ, List.cons_append, List.nil_append, List.append_nil, List.replicate, List.length_cons, List.length_nil, List.take_succ_cons, List.take_zero, List.drop_succ_cons, List.drop_zero, List.reverse_cons, List.reverse_nil, true_and, and_true, forall_const, not_true_eq_false, not_false_eq_true, false_implies, true_implies, implies_true, one0, m10, Nat.reduceAdd, Nat.reduceSub, Nat.reduceLeDiff, Nat.zero_add, Nat.add_zero, fn_X11_within, fn_X9_behindRate])
    refine ⟨fun h2 => ?_, fun h2 => ?_⟩
    · rw [if_pos h2] at hQ
      (apply h63; simp only [BX9_behind_63, s_mth, s_mab, s_at, s_iconst, s_lconst, s_iload, s_lload, s_aload, s_istore, s_lstore, s_astore, s_iinc, s_bin, s_binG, s_un, s_lbin, s_lbinG, s_lsh, s_lcmp, s_i2l, s_l2i, s_dup, s_dup2, s_pop, s_if, s_icmp, s_geti, s_getl, s_getr, s_puti, s_putz, s_putl, s_iald, s_zald, s_iast, s_zast, s_aaldS, s_aaldU, s_gets, s_tald, s_tsw, tsw, s_iret, s_zret, s_lret, s_aret, s_vret, s_callV, s_callS, c1, nl1, keepL, csum, pushR, inL, List.getD_cons_zero, List.getD_cons_succ, List.set_cons_zero, List.set_cons_succ, List.cons_append, List.nil_append, List.append_nil, List.replicate, List.length_cons, List.length_nil, List.take_succ_cons, List.take_zero, List.drop_succ_cons, List.drop_zero, List.reverse_cons, List.reverse_nil, true_and, and_true, forall_const, not_true_eq_false, not_false_eq_true, false_implies, true_implies, implies_true, one0, m10, Nat.reduceAdd, Nat.reduceSub, Nat.reduceLeDiff, Nat.zero_add, Nat.add_zero, fn_X11_within, fn_X9_behindRate])
      exact hQ
    · rw [if_neg h2] at hQ
      (apply h62; simp only [BX9_behind_62, s_mth, s_mab, s_at, s_iconst, s_lconst, s_iload, s_lload, s_aload, s_istore, s_lstore, s_astore, s_iinc, s_bin, s_binG, s_un, s_lbin, s_lbinG, s_lsh, s_lcmp, s_i2l, s_l2i, s_dup, s_dup2, s_pop, s_if, s_icmp, s_geti, s_getl, s_getr, s_puti, s_putz, s_putl, s_iald, s_zald, s_iast, s_zast, s_aaldS, s_aaldU, s_gets, s_tald, s_tsw, tsw, s_iret, s_zret, s_lret, s_aret, s_vret, s_callV, s_callS, c1, nl1, keepL, csum, pushR, inL, List.getD_cons_zero, List.getD_cons_succ, List.set_cons_zero, List.set_cons_succ, List.cons_append, List.nil_append, List.append_nil, List.replicate, List.length_cons, List.length_nil, List.take_succ_cons, List.take_zero, List.drop_succ_cons, List.drop_zero, List.reverse_cons, List.reverse_nil, true_and, and_true, forall_const, not_true_eq_false, not_false_eq_true, false_implies, true_implies, implies_true, one0, m10, Nat.reduceAdd, Nat.reduceSub, Nat.reduceLeDiff, Nat.zero_add, Nat.add_zero, fn_X11_within, fn_X9_behindRate])
      (apply h63; simp only [BX9_behind_63, s_mth, s_mab, s_at, s_iconst, s_lconst, s_iload, s_lload, s_aload, s_istore, s_lstore, s_astore, s_iinc, s_bin, s_binG, s_un, s_lbin, s_lbinG, s_lsh, s_lcmp, s_i2l, s_l2i, s_dup, s_dup2, s_pop, s_if, s_icmp, s_geti, s_getl, s_getr, s_puti, s_putz, s_putl, s_iald, s_zald, s_iast, s_zast, s_aaldS, s_aaldU, s_gets, s_tald, s_tsw, tsw, s_iret, s_zret, s_lret, s_aret, s_vret, s_callV, s_callS, c1, nl1, keepL, csum, pushR, inL, List.getD_cons_zero, List.getD_cons_succ, List.set_cons_zero, List.set_cons_succ, List.cons_append, List.nil_append, List.append_nil, List.replicate, List.length_cons, List.length_nil, List.take_succ_cons, List.take_zero, List.drop_succ_cons, List.drop_zero, List.reverse_cons, List.reverse_nil, true_and, and_true, forall_const, not_true_eq_false, not_false_eq_true, false_implies, true_implies, implies_true, one0, m10, Nat.reduceAdd, Nat.reduceSub, Nat.reduceLeDiff, Nat.zero_add, Nat.add_zero, fn_X11_within, fn_X9_behindRate])
      exact hQ
  · rw [if_neg (by omega), if_neg (by omega), if_pos (by omega)] at hQ
    exact D64 hQ
  · rw [if_neg (by omega), if_neg (by omega), if_pos (by omega)] at hQ
    exact D64 hQ
  · rw [if_neg (by omega), if_neg (by omega), if_neg (by omega), if_neg (by omega), if_neg (by omega)] at hQ
    exact D113 hQ
  · rw [if_neg (by omega), if_neg (by omega), if_neg (by omega), if_pos (by omega)] at hQ
    (apply h101; simp only [BX9_behind_101, s_mth, s_mab, s_at, s_iconst, s_lconst, s_iload, s_lload, s_aload, s_istore, s_lstore, s_astore, s_iinc, s_bin, s_binG, s_un, s_lbin, s_lbinG, s_lsh, s_lcmp, s_i2l, s_l2i, s_dup, s_dup2, s_pop, s_if, s_icmp, s_geti, s_getl, s_getr, s_puti, s_putz, s_putl, s_iald, s_zald, s_iast, s_zast, s_aaldS, s_aaldU, s_gets, s_tald, s_tsw, tsw, s_iret, s_zret, s_lret, s_aret, s_vret, s_callV, s_callS, c1, nl1, keepL, csum, pushR, inL, List.getD_cons_zero, List.getD_cons_succ, List.set_cons_zero, List.set_cons_succ, List.cons_append, List.nil_append, List.append_nil, List.replicate, List.length_cons, List.length_nil, List.take_succ_cons, List.take_zero, List.drop_succ_cons, List.drop_zero, List.reverse_cons, List.reverse_nil, true_and, and_true, forall_const, not_true_eq_false, not_false_eq_true, false_implies, true_implies, implies_true, one0, m10, Nat.reduceAdd, Nat.reduceSub, Nat.reduceLeDiff, Nat.zero_add, Nat.add_zero, fn_X11_within, fn_X9_behindRate])
    refine ⟨fun h2 => ?_, fun h2 => ?_⟩
    · rw [if_pos h2] at hQ
      (apply h112; simp only [BX9_behind_112, s_mth, s_mab, s_at, s_iconst, s_lconst, s_iload, s_lload, s_aload, s_istore, s_lstore, s_astore, s_iinc, s_bin, s_binG, s_un, s_lbin, s_lbinG, s_lsh, s_lcmp, s_i2l, s_l2i, s_dup, s_dup2, s_pop, s_if, s_icmp, s_geti, s_getl, s_getr, s_puti, s_putz, s_putl, s_iald, s_zald, s_iast, s_zast, s_aaldS, s_aaldU, s_gets, s_tald, s_tsw, tsw, s_iret, s_zret, s_lret, s_aret, s_vret, s_callV, s_callS, c1, nl1, keepL, csum, pushR, inL, List.getD_cons_zero, List.getD_cons_succ, List.set_cons_zero, List.set_cons_succ, List.cons_append, List.nil_append, List.append_nil, List.replicate, List.length_cons, List.length_nil, List.take_succ_cons, List.take_zero, List.drop_succ_cons, List.drop_zero, List.reverse_cons, List.reverse_nil, true_and, and_true, forall_const, not_true_eq_false, not_false_eq_true, false_implies, true_implies, implies_true, one0, m10, Nat.reduceAdd, Nat.reduceSub, Nat.reduceLeDiff, Nat.zero_add, Nat.add_zero, fn_X11_within, fn_X9_behindRate])
      exact hQ
    · rw [if_neg h2] at hQ
      (apply h111; simp only [BX9_behind_111, s_mth, s_mab, s_at, s_iconst, s_lconst, s_iload, s_lload, s_aload, s_istore, s_lstore, s_astore, s_iinc, s_bin, s_binG, s_un, s_lbin, s_lbinG, s_lsh, s_lcmp, s_i2l, s_l2i, s_dup, s_dup2, s_pop, s_if, s_icmp, s_geti, s_getl, s_getr, s_puti, s_putz, s_putl, s_iald, s_zald, s_iast, s_zast, s_aaldS, s_aaldU, s_gets, s_tald, s_tsw, tsw, s_iret, s_zret, s_lret, s_aret, s_vret, s_callV, s_callS, c1, nl1, keepL, csum, pushR, inL, List.getD_cons_zero, List.getD_cons_succ, List.set_cons_zero, List.set_cons_succ, List.cons_append, List.nil_append, List.append_nil, List.replicate, List.length_cons, List.length_nil, List.take_succ_cons, List.take_zero, List.drop_succ_cons, List.drop_zero, List.reverse_cons, List.reverse_nil, true_and, and_true, forall_const, not_true_eq_false, not_false_eq_true, false_implies, true_implies, implies_true, one0, m10, Nat.reduceAdd, Nat.reduceSub, Nat.reduceLeDiff, Nat.zero_add, Nat.add_zero, fn_X11_within, fn_X9_behindRate])
      (apply h112; simp only [BX9_behind_112, s_mth, s_mab, s_at, s_iconst, s_lconst, s_iload, s_lload, s_aload, s_istore, s_lstore, s_astore, s_iinc, s_bin, s_binG, s_un, s_lbin, s_lbinG, s_lsh, s_lcmp, s_i2l, s_l2i, s_dup, s_dup2, s_pop, s_if, s_icmp, s_geti, s_getl, s_getr, s_puti, s_putz, s_putl, s_iald, s_zald, s_iast, s_zast, s_aaldS, s_aaldU, s_gets, s_tald, s_tsw, tsw, s_iret, s_zret, s_lret, s_aret, s_vret, s_callV, s_callS, c1, nl1, keepL, csum, pushR, inL, List.getD_cons_zero, List.getD_cons_succ, List.set_cons_zero, List.set_cons_succ, List.cons_append, List.nil_append, List.append_nil, List.replicate, List.length_cons, List.length_nil, List.take_succ_cons, List.take_zero, List.drop_succ_cons, List.drop_zero, List.reverse_cons, List.reverse_nil, true_and, and_true, forall_const, not_true_eq_false, not_false_eq_true, false_implies, true_implies, implies_true, one0, m10, Nat.reduceAdd, Nat.reduceSub, Nat.reduceLeDiff, Nat.zero_add, Nat.add_zero, fn_X11_within, fn_X9_behindRate])
      exact hQ
  · rw [if_neg (by omega), if_neg (by omega), if_neg (by omega), if_neg (by omega), if_neg (by omega)] at hQ
    exact D113 hQ
  · rw [if_neg (by omega), if_neg (by omega), if_neg (by omega), if_neg (by omega), if_pos (by omega)] at hQ
    (apply h83; simp only [BX9_behind_83, s_mth, s_mab, s_at, s_iconst, s_lconst, s_iload, s_lload, s_aload, s_istore, s_lstore, s_astore, s_iinc, s_bin, s_binG, s_un, s_lbin, s_lbinG, s_lsh, s_lcmp, s_i2l, s_l2i, s_dup, s_dup2, s_pop, s_if, s_icmp, s_geti, s_getl, s_getr, s_puti, s_putz, s_putl, s_iald, s_zald, s_iast, s_zast, s_aaldS, s_aaldU, s_gets, s_tald, s_tsw, tsw, s_iret, s_zret, s_lret, s_aret, s_vret, s_callV, s_callS, c1, nl1, keepL, csum, pushR, inL, List.getD_cons_zero, List.getD_cons_succ, List.set_cons_zero, List.set_cons_succ, List.cons_append, List.nil_append, List.append_nil, List.replicate, List.length_cons, List.length_nil, List.take_succ_cons, List.take_zero, List.drop_succ_cons, List.drop_zero, List.reverse_cons, List.reverse_nil, true_and, and_true, forall_const, not_true_eq_false, not_false_eq_true, false_implies, true_implies, implies_true, one0, m10, Nat.reduceAdd, Nat.reduceSub, Nat.reduceLeDiff, Nat.zero_add, Nat.add_zero, fn_X11_within, fn_X9_behindRate])
    refine ⟨⟨_, _, _, rfl⟩, fun h2 => ?_, fun h2 => ?_⟩
    · rw [if_pos h2] at hQ
      (apply h99; simp only [BX9_behind_99, s_mth, s_mab, s_at, s_iconst, s_lconst, s_iload, s_lload, s_aload, s_istore, s_lstore, s_astore, s_iinc, s_bin, s_binG, s_un, s_lbin, s_lbinG, s_lsh, s_lcmp, s_i2l, s_l2i, s_dup, s_dup2, s_pop, s_if, s_icmp, s_geti, s_getl, s_getr, s_puti, s_putz, s_putl, s_iald, s_zald, s_iast, s_zast, s_aaldS, s_aaldU, s_gets, s_tald, s_tsw, tsw, s_iret, s_zret, s_lret, s_aret, s_vret, s_callV, s_callS, c1, nl1, keepL, csum, pushR, inL, List.getD_cons_zero, List.getD_cons_succ, List.set_cons_zero, List.set_cons_succ, List.cons_append, List.nil_append, List.append_nil, List.replicate, List.length_cons, List.length_nil, List.take_succ_cons, List.take_zero, List.drop_succ_cons, List.drop_zero, List.reverse_cons, List.reverse_nil, true_and, and_true, forall_const, not_true_eq_false, not_false_eq_true, false_implies, true_implies, implies_true, one0, m10, Nat.reduceAdd, Nat.reduceSub, Nat.reduceLeDiff, Nat.zero_add, Nat.add_zero, fn_X11_within, fn_X9_behindRate])
      (apply h100; simp only [BX9_behind_100, s_mth, s_mab, s_at, s_iconst, s_lconst, s_iload, s_lload, s_aload, s_istore, s_lstore, s_astore, s_iinc, s_bin, s_binG, s_un, s_lbin, s_lbinG, s_lsh, s_lcmp, s_i2l, s_l2i, s_dup, s_dup2, s_pop, s_if, s_icmp, s_geti, s_getl, s_getr, s_puti, s_putz, s_putl, s_iald, s_zald, s_iast, s_zast, s_aaldS, s_aaldU, s_gets, s_tald, s_tsw, tsw, s_iret, s_zret, s_lret, s_aret, s_vret, s_callV, s_callS, c1, nl1, keepL, csum, pushR, inL, List.getD_cons_zero, List.getD_cons_succ, List.set_cons_zero, List.set_cons_succ, List.cons_append, List.nil_append, List.append_nil, List.replicate, List.length_cons, List.length_nil, List.take_succ_cons, List.take_zero, List.drop_succ_cons, List.drop_zero, List.reverse_cons, List.reverse_nil, true_and, and_true, forall_const, not_true_eq_false, not_false_eq_true, false_implies, true_implies, implies_true, one0, m10, Nat.reduceAdd, Nat.reduceSub, Nat.reduceLeDiff, Nat.zero_add, Nat.add_zero, fn_X11_within, fn_X9_behindRate])
      exact hQ
    · rw [if_neg h2] at hQ
      (apply h100; simp only [BX9_behind_100, s_mth, s_mab, s_at, s_iconst, s_lconst, s_iload, s_lload, s_aload, s_istore, s_lstore, s_astore, s_iinc, s_bin, s_binG, s_un, s_lbin, s_lbinG, s_lsh, s_lcmp, s_i2l, s_l2i, s_dup, s_dup2, s_pop, s_if, s_icmp, s_geti, s_getl, s_getr, s_puti, s_putz, s_putl, s_iald, s_zald, s_iast, s_zast, s_aaldS, s_aaldU, s_gets, s_tald, s_tsw, tsw, s_iret, s_zret, s_lret, s_aret, s_vret, s_callV, s_callS, c1, nl1, keepL, csum, pushR, inL, List.getD_cons_zero, List.getD_cons_succ, List.set_cons_zero, List.set_cons_succ, List.cons_append, List.nil_append, List.append_nil, List.replicate, List.length_cons, List.length_nil, List.take_succ_cons, List.take_zero, List.drop_succ_cons, List.drop_zero, List.reverse_cons, List.reverse_nil, true_and, and_true, forall_const, not_true_eq_false, not_false_eq_true, false_implies, true_implies, implies_true, one0, m10, Nat.reduceAdd, Nat.reduceSub, Nat.reduceLeDiff, Nat.zero_add, Nat.add_zero, fn_X11_within, fn_X9_behindRate])
      exact hQ
  · rw [if_neg (by omega), if_neg (by omega), if_neg (by omega), if_neg (by omega), if_neg (by omega)] at hQ
    exact D113 hQ
  · rw [if_neg (by omega), if_neg (by omega), if_neg (by omega), if_neg (by omega), if_neg (by omega)] at hQ
    exact D113 hQ
theorem ct_X9_behind (l : Launch) : Con l yX9_behind cX9_behind 2 (Option.some FieldType.int) 2 pre_X9_behind fn_X9_behind := con_of (by decide +kernel) ok_X9_behind len_X9_behind (fun p e s m args below meth c D ca ad A as M hX hr hp ho => pf_X9_behind _ _ (bsX9_behind_0 hX hr) (bsX9_behind_52 hX hr) (bsX9_behind_62 hX hr) (bsX9_behind_63 hX hr) (bsX9_behind_64 hX hr) (bsX9_behind_81 hX hr) (bsX9_behind_82 hX hr) (bsX9_behind_83 hX hr) (bsX9_behind_99 hX hr) (bsX9_behind_100 hX hr) (bsX9_behind_101 hX hr) (bsX9_behind_111 hX hr) (bsX9_behind_112 hX hr) (bsX9_behind_113 hX hr) (bsX9_behind_130 hX hr) (bsX9_behind_131 hX hr) (bsX9_behind_132 hX hr) as M ho hp ⟨rfl, rfl⟩)
def ffU (ph us : Int32) : Int32 := if ph = 4 then us + 1 else us
def ffP (M : mM) (ph us : Int32) (i : Nat) : Int32 := if ffU ph us ≤ 5 then bh ph (M.1 2 i) else -1
def ff (M : mM) : Nat → Int32 → Int32 → Nat → Int32
  | 0, ph, _, _ => if ph = 4 then -9 else M.1 1 1
  | n + 1, ph, us, i => if ffP M ph us i = -1 then nI i else ff M n (ffP M ph us i) (ffU ph us) (i + 1)
def pre_X9_firstFault (as : List mV) (M : mM) : Prop := ∃ c, as = [.inr (.inr (9, c))] ∧ TL M
def fn_X9_firstFault : List mV → mM → Option mV × mM
  | [.inr (.inr (_, c))], M => (some (.inl (ff M (nT M) 0 0 0)), M)
  | _, M => (none, M)
theorem ok_X9_firstFault (as : List mV) (M : mM) (h : pre_X9_firstFault as M) (_ : ∀ v ∈ as, okV v) : okR (fn_X9_firstFault as M).1 := by
  obtain ⟨c, rfl, -⟩ := h
  first | trivial | exact (by decide +kernel : kof 14 = 8)
theorem len_X9_firstFault (as : List mV) (M : mM) (h : pre_X9_firstFault as M) : (inL as).length ≤ 4 := by
  obtain ⟨c, rfl, -⟩ := h
  exact Nat.le_of_ble_eq_true rfl


theorem dX9_firstFault_0 : decode cX9_firstFault 0 = .ok (.iconst 0, 1) := by decide +kernel
theorem dX9_firstFault_1 : decode cX9_firstFault 1 = .ok (.istore_n 1, 1) := by decide +kernel
theorem dX9_firstFault_2 : decode cX9_firstFault 2 = .ok (.iconst 0, 1) := by decide +kernel
theorem dX9_firstFault_3 : decode cX9_firstFault 3 = .ok (.istore_n 2, 1) := by decide +kernel
theorem dX9_firstFault_4 : decode cX9_firstFault 4 = .ok (.iconst 0, 1) := by decide +kernel
theorem dX9_firstFault_5 : decode cX9_firstFault 5 = .ok (.istore_n 3, 1) := by decide +kernel
theorem dX9_firstFault_6 : decode cX9_firstFault 6 = .ok (.iload_n 3, 1) := by decide +kernel
theorem dX9_firstFault_7 : decode cX9_firstFault 7 = .ok (.aload_n 0, 1) := by decide +kernel
theorem dX9_firstFault_8 : decode cX9_firstFault 8 = .ok (.getfield 15, 3) := by decide +kernel
theorem dX9_firstFault_11 : decode cX9_firstFault 11 = .ok (.if_icmp .ge 44, 3) := by decide +kernel
theorem dX9_firstFault_14 : decode cX9_firstFault 14 = .ok (.iload_n 1, 1) := by decide +kernel
theorem dX9_firstFault_15 : decode cX9_firstFault 15 = .ok (.iconst 4, 1) := by decide +kernel
theorem dX9_firstFault_16 : decode cX9_firstFault 16 = .ok (.if_icmp .ne 6, 3) := by decide +kernel
theorem dX9_firstFault_19 : decode cX9_firstFault 19 = .ok (.iinc 2 1, 3) := by decide +kernel
theorem dX9_firstFault_22 : decode cX9_firstFault 22 = .ok (.iload_n 2, 1) := by decide +kernel
theorem dX9_firstFault_23 : decode cX9_firstFault 23 = .ok (.iconst 5, 1) := by decide +kernel
theorem dX9_firstFault_24 : decode cX9_firstFault 24 = .ok (.if_icmp .le 7, 3) := by decide +kernel
theorem dX9_firstFault_27 : decode cX9_firstFault 27 = .ok (.iconst (-1), 1) := by decide +kernel
theorem dX9_firstFault_28 : decode cX9_firstFault 28 = .ok (.goto 13, 3) := by decide +kernel
theorem dX9_firstFault_31 : decode cX9_firstFault 31 = .ok (.iload_n 1, 1) := by decide +kernel
theorem dX9_firstFault_32 : decode cX9_firstFault 32 = .ok (.aload_n 0, 1) := by decide +kernel
theorem dX9_firstFault_33 : decode cX9_firstFault 33 = .ok (.getfield 11, 3) := by decide +kernel
theorem dX9_firstFault_36 : decode cX9_firstFault 36 = .ok (.iload_n 3, 1) := by decide +kernel
theorem dX9_firstFault_37 : decode cX9_firstFault 37 = .ok (.iaload, 1) := by decide +kernel
theorem dX9_firstFault_38 : decode cX9_firstFault 38 = .ok (.invokestatic 19, 3) := by decide +kernel
theorem dX9_firstFault_41 : decode cX9_firstFault 41 = .ok (.istore_n 1, 1) := by decide +kernel
theorem dX9_firstFault_42 : decode cX9_firstFault 42 = .ok (.iload_n 1, 1) := by decide +kernel
theorem dX9_firstFault_43 : decode cX9_firstFault 43 = .ok (.iconst (-1), 1) := by decide +kernel
theorem dX9_firstFault_44 : decode cX9_firstFault 44 = .ok (.if_icmp .ne 5, 3) := by decide +kernel
theorem dX9_firstFault_47 : decode cX9_firstFault 47 = .ok (.iload_n 3, 1) := by decide +kernel
theorem dX9_firstFault_48 : decode cX9_firstFault 48 = .ok (.ireturn, 1) := by decide +kernel
theorem dX9_firstFault_49 : decode cX9_firstFault 49 = .ok (.iinc 3 1, 3) := by decide +kernel
theorem dX9_firstFault_52 : decode cX9_firstFault 52 = .ok (.goto (-46), 3) := by decide +kernel
theorem dX9_firstFault_55 : decode cX9_firstFault 55 = .ok (.iload_n 1, 1) := by decide +kernel
theorem dX9_firstFault_56 : decode cX9_firstFault 56 = .ok (.iconst 4, 1) := by decide +kernel
theorem dX9_firstFault_57 : decode cX9_firstFault 57 = .ok (.if_icmp .ne 8, 3) := by decide +kernel
theorem dX9_firstFault_60 : decode cX9_firstFault 60 = .ok (.bipush (-9), 2) := by decide +kernel
theorem dX9_firstFault_62 : decode cX9_firstFault 62 = .ok (.goto 7, 3) := by decide +kernel
theorem dX9_firstFault_65 : decode cX9_firstFault 65 = .ok (.aload_n 0, 1) := by decide +kernel
theorem dX9_firstFault_66 : decode cX9_firstFault 66 = .ok (.getfield 15, 3) := by decide +kernel
theorem dX9_firstFault_69 : decode cX9_firstFault 69 = .ok (.ireturn, 1) := by decide +kernel
theorem mk_X9_firstFault : MVk yX9_firstFault "FairBlocks$Text" cX9_firstFault 4 (Option.some FieldType.int) 0 := ⟨w_360, w_358, w_359, w_2, rfl, by decide +kernel, by decide +kernel, by decide +kernel⟩
def BX9_firstFault_0 (G : Nat → KT) (Q : Option mV → mM → Prop) : KT := (s_iconst (0) (s_istore 1 (s_iconst (0) (s_istore 2 (s_iconst (0) (s_istore 3 (s_at G 6 [true, true, true, true])))))))
set_option maxRecDepth 4000 in
theorem bsX9_firstFault_0 {p : Program} {l : Launch} {e : Env} {s : State} {m : MethodId} {args : Array Value} {below : List Frame} {meth : Method} {c : Code} {D : va_G} {ca : Nat → ClassId} {ad : Nat → Nat} {A : Nat → Prop} {Q : Option mV → mM → Prop} (hX : CX p s m args meth c 4 cX9_firstFault "FairBlocks$Text" D ca ad A) (hr : meth.sig.returnType = (Option.some FieldType.int)) : ∀ lv st M, BX9_firstFault_0 (Gd p l e (rmD 3) s m args below meth c 4 D ca ad A 0 0 (MQ below (QC D ca ad A Q) args s 0 0 A)) Q lv st M → Gd p l e (rmD 3) s m args below meth c 4 D ca ad A 0 0 (MQ below (QC D ca ad A Q) args s 0 0 A) 0 lv st M :=
  (sd_iconst hX dX9_firstFault_0 rfl (sd_istore_n hX (by decide) dX9_firstFault_1 rfl (sd_iconst hX dX9_firstFault_2 rfl (sd_istore_n hX (by decide) dX9_firstFault_3 rfl (sd_iconst hX dX9_firstFault_4 rfl (sd_istore_n hX (by decide) dX9_firstFault_5 rfl sd_at))))))
def BX9_firstFault_6 (G : Nat → KT) (Q : Option mV → mM → Prop) : KT := (s_iload 3 (s_aload 0 (s_geti 9 1 (s_icmp (fun x y => y ≤ x) (s_at G 55 [true, true, false, false]) (s_iload 1 (s_iconst (4) (s_icmp (fun x y => x = y) ((s_iinc 2 (1) (s_at G 22 [true, true, true, true]))) (s_at G 22 [true, true, true, true]))))))))
set_option maxRecDepth 4000 in
theorem bsX9_firstFault_6 {p : Program} {l : Launch} {e : Env} {s : State} {m : MethodId} {args : Array Value} {below : List Frame} {meth : Method} {c : Code} {D : va_G} {ca : Nat → ClassId} {ad : Nat → Nat} {A : Nat → Prop} {Q : Option mV → mM → Prop} (hX : CX p s m args meth c 4 cX9_firstFault "FairBlocks$Text" D ca ad A) (hr : meth.sig.returnType = (Option.some FieldType.int)) : ∀ lv st M, BX9_firstFault_6 (Gd p l e (rmD 3) s m args below meth c 4 D ca ad A 0 0 (MQ below (QC D ca ad A Q) args s 0 0 A)) Q lv st M → Gd p l e (rmD 3) s m args below meth c 4 D ca ad A 0 0 (MQ below (QC D ca ad A Q) args s 0 0 A) 6 lv st M :=
  (sd_iload_n hX dX9_firstFault_6 rfl (sd_aload_n hX dX9_firstFault_7 rfl (sd_geti hX fl_31 (by decide) dX9_firstFault_8 (sd_icmp_ge hX dX9_firstFault_11 (by decide) sd_at (sd_iload_n hX dX9_firstFault_14 rfl (sd_iconst hX dX9_firstFault_15 rfl (sd_icmp_ne hX dX9_firstFault_16 (by decide) sd_at (sd_iinc hX (by decide) dX9_firstFault_19 rfl sd_at))))))))
def BX9_firstFault_22 (G : Nat → KT) (Q : Option mV → mM → Prop) : KT := (s_iload 2 (s_iconst (5) (s_icmp (fun x y => x ≤ y) (s_at G 31 [true, true, true, true]) (s_iconst (-1) (s_at G 41 [true, false, true, true])))))
set_option maxRecDepth 4000 in
theorem bsX9_firstFault_22 {p : Program} {l : Launch} {e : Env} {s : State} {m : MethodId} {args : Array Value} {below : List Frame} {meth : Method} {c : Code} {D : va_G} {ca : Nat → ClassId} {ad : Nat → Nat} {A : Nat → Prop} {Q : Option mV → mM → Prop} (hX : CX p s m args meth c 4 cX9_firstFault "FairBlocks$Text" D ca ad A) (hr : meth.sig.returnType = (Option.some FieldType.int)) : ∀ lv st M, BX9_firstFault_22 (Gd p l e (rmD 3) s m args below meth c 4 D ca ad A 0 0 (MQ below (QC D ca ad A Q) args s 0 0 A)) Q lv st M → Gd p l e (rmD 3) s m args below meth c 4 D ca ad A 0 0 (MQ below (QC D ca ad A Q) args s 0 0 A) 22 lv st M :=
  (sd_iload_n hX dX9_firstFault_22 rfl (sd_iconst hX dX9_firstFault_23 rfl (sd_icmp_le hX dX9_firstFault_24 (by decide) sd_at (sd_iconst hX dX9_firstFault_27 rfl (sd_goto hX dX9_firstFault_28 (by decide) sd_at)))))
def BX9_firstFault_31 (G : Nat → KT) (Q : Option mV → mM → Prop) : KT := (s_iload 1 (s_aload 0 (s_getr 9 13 (fun _ => 2) (s_iload 3 (s_iald (s_callS 2 pre_X9_behind fn_X9_behind (s_at G 41 [true, false, true, true])))))))
set_option maxRecDepth 4000 in
theorem bsX9_firstFault_31 {p : Program} {l : Launch} {e : Env} {s : State} {m : MethodId} {args : Array Value} {below : List Frame} {meth : Method} {c : Code} {D : va_G} {ca : Nat → ClassId} {ad : Nat → Nat} {A : Nat → Prop} {Q : Option mV → mM → Prop} (hX : CX p s m args meth c 4 cX9_firstFault "FairBlocks$Text" D ca ad A) (hr : meth.sig.returnType = (Option.some FieldType.int)) : ∀ lv st M, BX9_firstFault_31 (Gd p l e (rmD 3) s m args below meth c 4 D ca ad A 0 0 (MQ below (QC D ca ad A Q) args s 0 0 A)) Q lv st M → Gd p l e (rmD 3) s m args below meth c 4 D ca ad A 0 0 (MQ below (QC D ca ad A Q) args s 0 0 A) 31 lv st M :=
  (sd_iload_n hX dX9_firstFault_31 rfl (sd_aload_n hX dX9_firstFault_32 rfl (sd_getr hX fl_30 (fun _ => rfl) (fun _ _ _ => by decide +kernel) dX9_firstFault_33 (sd_iload_n hX dX9_firstFault_36 rfl (sd_iald hX dX9_firstFault_37 (sd_callS hX (ct_X9_behind l) mk_X9_behind w_361 ⟨⟨by decide, by decide⟩, by decide, by decide⟩ dX9_firstFault_38 sd_at))))))
def BX9_firstFault_41 (G : Nat → KT) (Q : Option mV → mM → Prop) : KT := (s_istore 1 (s_iload 1 (s_iconst (-1) (s_icmp (fun x y => x = y) ((s_iload 3 (s_iret Q))) (s_at G 49 [true, true, true, true])))))
set_option maxRecDepth 4000 in
theorem bsX9_firstFault_41 {p : Program} {l : Launch} {e : Env} {s : State} {m : MethodId} {args : Array Value} {below : List Frame} {meth : Method} {c : Code} {D : va_G} {ca : Nat → ClassId} {ad : Nat → Nat} {A : Nat → Prop} {Q : Option mV → mM → Prop} (hX : CX p s m args meth c 4 cX9_firstFault "FairBlocks$Text" D ca ad A) (hr : meth.sig.returnType = (Option.some FieldType.int)) : ∀ lv st M, BX9_firstFault_41 (Gd p l e (rmD 3) s m args below meth c 4 D ca ad A 0 0 (MQ below (QC D ca ad A Q) args s 0 0 A)) Q lv st M → Gd p l e (rmD 3) s m args below meth c 4 D ca ad A 0 0 (MQ below (QC D ca ad A Q) args s 0 0 A) 41 lv st M :=
  (sd_istore_n hX (by decide) dX9_firstFault_41 rfl (sd_iload_n hX dX9_firstFault_42 rfl (sd_iconst hX dX9_firstFault_43 rfl (sd_icmp_ne hX dX9_firstFault_44 (by decide) sd_at (sd_iload_n hX dX9_firstFault_47 rfl (sd_iret hX hr dX9_firstFault_48))))))
def BX9_firstFault_49 (G : Nat → KT) (Q : Option mV → mM → Prop) : KT := (s_iinc 3 (1) (s_at G 6 [true, true, true, true]))
set_option maxRecDepth 4000 in
theorem bsX9_firstFault_49 {p : Program} {l : Launch} {e : Env} {s : State} {m : MethodId} {args : Array Value} {below : List Frame} {meth : Method} {c : Code} {D : va_G} {ca : Nat → ClassId} {ad : Nat → Nat} {A : Nat → Prop} {Q : Option mV → mM → Prop} (hX : CX p s m args meth c 4 cX9_firstFault "FairBlocks$Text" D ca ad A) (hr : meth.sig.returnType = (Option.some FieldType.int)) : ∀ lv st M, BX9_firstFault_49 (Gd p l e (rmD 3) s m args below meth c 4 D ca ad A 0 0 (MQ below (QC D ca ad A Q) args s 0 0 A)) Q lv st M → Gd p l e (rmD 3) s m args below meth c 4 D ca ad A 0 0 (MQ below (QC D ca ad A Q) args s 0 0 A) 49 lv st M :=
  (sd_iinc hX (by decide) dX9_firstFault_49 rfl (sd_goto hX dX9_firstFault_52 (by decide) sd_at))
def BX9_firstFault_55 (G : Nat → KT) (Q : Option mV → mM → Prop) : KT := (s_iload 1 (s_iconst (4) (s_icmp (fun x y => x = y) ((s_iconst (-9) (s_at G 69 [false, false, false, false]))) (s_at G 65 [true, false, false, false]))))
set_option maxRecDepth 4000 in
theorem bsX9_firstFault_55 {p : Program} {l : Launch} {e : Env} {s : State} {m : MethodId} {args : Array Value} {below : List Frame} {meth : Method} {c : Code} {D : va_G} {ca : Nat → ClassId} {ad : Nat → Nat} {A : Nat → Prop} {Q : Option mV → mM → Prop} (hX : CX p s m args meth c 4 cX9_firstFault "FairBlocks$Text" D ca ad A) (hr : meth.sig.returnType = (Option.some FieldType.int)) : ∀ lv st M, BX9_firstFault_55 (Gd p l e (rmD 3) s m args below meth c 4 D ca ad A 0 0 (MQ below (QC D ca ad A Q) args s 0 0 A)) Q lv st M → Gd p l e (rmD 3) s m args below meth c 4 D ca ad A 0 0 (MQ below (QC D ca ad A Q) args s 0 0 A) 55 lv st M :=
  (sd_iload_n hX dX9_firstFault_55 rfl (sd_iconst hX dX9_firstFault_56 rfl (sd_icmp_ne hX dX9_firstFault_57 (by decide) sd_at (sd_bipush hX dX9_firstFault_60 rfl (sd_goto hX dX9_firstFault_62 (by decide) sd_at)))))
def BX9_firstFault_65 (G : Nat → KT) (Q : Option mV → mM → Prop) : KT := (s_aload 0 (s_geti 9 1 (s_at G 69 [false, false, false, false])))
set_option maxRecDepth 4000 in
theorem bsX9_firstFault_65 {p : Program} {l : Launch} {e : Env} {s : State} {m : MethodId} {args : Array Value} {below : List Frame} {meth : Method} {c : Code} {D : va_G} {ca : Nat → ClassId} {ad : Nat → Nat} {A : Nat → Prop} {Q : Option mV → mM → Prop} (hX : CX p s m args meth c 4 cX9_firstFault "FairBlocks$Text" D ca ad A) (hr : meth.sig.returnType = (Option.some FieldType.int)) : ∀ lv st M, BX9_firstFault_65 (Gd p l e (rmD 3) s m args below meth c 4 D ca ad A 0 0 (MQ below (QC D ca ad A Q) args s 0 0 A)) Q lv st M → Gd p l e (rmD 3) s m args below meth c 4 D ca ad A 0 0 (MQ below (QC D ca ad A Q) args s 0 0 A) 65 lv st M :=
  (sd_aload_n hX dX9_firstFault_65 rfl (sd_geti hX fl_31 (by decide) dX9_firstFault_66 sd_at))
def BX9_firstFault_69 (G : Nat → KT) (Q : Option mV → mM → Prop) : KT := (s_iret Q)
set_option maxRecDepth 4000 in
theorem bsX9_firstFault_69 {p : Program} {l : Launch} {e : Env} {s : State} {m : MethodId} {args : Array Value} {below : List Frame} {meth : Method} {c : Code} {D : va_G} {ca : Nat → ClassId} {ad : Nat → Nat} {A : Nat → Prop} {Q : Option mV → mM → Prop} (hX : CX p s m args meth c 4 cX9_firstFault "FairBlocks$Text" D ca ad A) (hr : meth.sig.returnType = (Option.some FieldType.int)) : ∀ lv st M, BX9_firstFault_69 (Gd p l e (rmD 3) s m args below meth c 4 D ca ad A 0 0 (MQ below (QC D ca ad A Q) args s 0 0 A)) Q lv st M → Gd p l e (rmD 3) s m args below meth c 4 D ca ad A 0 0 (MQ below (QC D ca ad A Q) args s 0 0 A) 69 lv st M :=
  sd_iret hX hr dX9_firstFault_69
set_option maxHeartbeats 400000 in
theorem pf_X9_firstFault (G : Nat → KT) (Q : Option mV → mM → Prop) (h0 : ∀ lv st M, BX9_firstFault_0 G Q lv st M → G 0 lv st M) (h6 : ∀ lv st M, BX9_firstFault_6 G Q lv st M → G 6 lv st M) (h22 : ∀ lv st M, BX9_firstFault_22 G Q lv st M → G 22 lv st M) (h31 : ∀ lv st M, BX9_firstFault_31 G Q lv st M → G 31 lv st M) (h41 : ∀ lv st M, BX9_firstFault_41 G Q lv st M → G 41 lv st M) (h49 : ∀ lv st M, BX9_firstFault_49 G Q lv st M → G 49 lv st M) (h55 : ∀ lv st M, BX9_firstFault_55 G Q lv st M → G 55 lv st M) (h65 : ∀ lv st M, BX9_firstFault_65 G Q lv st M → G 65 lv st M) (h69 : ∀ lv st M, BX9_firstFault_69 G Q lv st M → G 69 lv st M) (as : List mV) (M : mM) (ho : ∀ v ∈ as, okV v) (hp : pre_X9_firstFault as M) (hQ : Q (fn_X9_firstFault as M).1 (fn_X9_firstFault as M).2) : G 0 (inL as ++ List.replicate (4 - (inL as).length) none) [] M := by
  obtain ⟨c, rfl, hT⟩ := hp
  obtain rfl : c = 1 := k9 (ho (.inr (.inr (9, c))) (by simp))
  obtain ⟨hz, ez⟩ := nT_e hT
  simp only [fn_X9_firstFault] at hQ
  have loop : ∀ (n i : Nat) (ph us : Int32), i + n = nT M → Q (some (.inl (ff M n ph us i))) M → G 6 [some (.inr (.inr (9, 1))), some (.inl ph), some (.inl us), some (.inl (nI i))] [] M := by
    intro n
    induction n with
    | zero =>
      intro i ph us hi hq
      obtain rfl : i = nT M := by omega
      (apply h6; simp only [BX9_firstFault_6, s_mth, s_mab, s_at, s_iconst, s_lconst, s_iload, s_lload, s_aload, s_istore, s_lstore, s_astore, s_iinc, s_bin, s_binG, s_un, s_lbin, s_lbinG, s_lsh, s_lcmp, s_i2l, s_l2i, s_dup, s_dup2, s_pop, s_if, s_icmp, s_geti, s_getl, s_getr, s_puti, s_putz, s_putl, s_iald, s_zald, s_iast, s_zast, s_aaldS, s_aaldU, s_gets, s_tald, s_tsw, tsw, s_iret, s_zret, s_lret, s_aret, s_vret, s_callV, s_callS, c1, nl1, keepL, csum, pushR, inL, List.getD_cons_zero, List.getD_cons_succ, List.set_cons_zero, List.set_cons_succ, List.cons_append, List.nil_append, List.append_nil, List.replicate, List.length_cons, List.length_nil, List.take_succ_cons, List.take_zero, List.drop_succ_cons, List.drop_zero, List.reverse_cons, List.reverse_nil, true_and, and_true, forall_const, not_true_eq_false, not_false_eq_true, false_implies, true_implies, implies_true, one0, m10, Nat.reduceAdd, Nat.reduceSub, Nat.reduceLeDiff, Nat.zero_add, Nat.add_zero, fn_X9_behind])
      rw [ez]
      refine ⟨fun _ => ?_, fun h => absurd (nI_le (Nat.le_refl _) (by omega)) h⟩
      (apply h55; simp only [BX9_firstFault_55, s_mth, s_mab, s_at, s_iconst, s_lconst, s_iload, s_lload, s_aload, s_istore, s_lstore, s_astore, s_iinc, s_bin, s_binG, s_un, s_lbin, s_lbinG, s_lsh, s_lcmp, s_i2l, s_l2i, s_dup, s_dup2, s_pop, s_if, s_icmp, s_geti, s_getl, s_getr, s_puti, s_putz, s_putl, s_iald, s_zald, s_iast, s_zast, s_aaldS, s_aaldU, s_gets, s_tald, s_tsw, tsw, s_iret, s_zret, s_lret, s_aret, s_vret, s_callV, s_callS, c1, nl1, keepL, csum, pushR, inL, List.getD_cons_zero, List.getD_cons_succ, List.set_cons_zero, List.set_cons_succ, List.cons_append, List.nil_append, List.append_nil, List.replicate, List.length_cons, List.length_nil, List.take_succ_cons, List.take_zero, List.drop_succ_cons, List.drop_zero, List.reverse_cons, List.reverse_nil, true_and, and_true, forall_const, not_true_eq_false, not_false_eq_true, false_implies, true_implies, implies_true, one0, m10, Nat.reduceAdd, Nat.reduceSub, Nat.reduceLeDiff, Nat.zero_add, Nat.add_zero, fn_X9_behind])
      refine ⟨fun h => ?_, fun h => ?_⟩
      · (apply h69; simp only [BX9_firstFault_69, s_mth, s_mab, s_at, s_iconst, s_lconst, s_iload, s_lload, s_aload, s_istore, s_lstore, s_astore, s_iinc, s_bin, s_binG, s_un, s_lbin, s_lbinG, s_lsh, s_lcmp, s_i2l, s_l2i, s_dup, s_dup2, s_pop, s_if, s_icmp, s_geti, s_getl, s_getr, s_puti, s_putz, s_putl, s_iald, s_zald, s_iast, s_zast, s_aaldS, s_aaldU, s_gets, s_tald, s_tsw, tsw, s_iret, s_zret, s_lret, s_aret, s_vret, s_callV, s_callS, c1, nl1, keepL, csum, pushR, inL, List.getD_cons_zero, List.getD_cons_succ, List.set_cons_zero, List.set_cons_succ, List.cons_append, List.nil_append, List.append_nil, List.replicate, List.length_cons, List.length_nil, List.take_succ_cons, List.take_zero, List.drop_succ_cons, List.drop_zero, List.reverse_cons, List.reverse_nil, true_and, and_true, forall_const, not_true_eq_false, not_false_eq_true, false_implies, true_implies, implies_true, one0, m10, Nat.reduceAdd, Nat.reduceSub, Nat.reduceLeDiff, Nat.zero_add, Nat.add_zero, fn_X9_behind])
        rw [ff, if_pos h] at hq
        exact hq
      · (apply h65; simp only [BX9_firstFault_65, s_mth, s_mab, s_at, s_iconst, s_lconst, s_iload, s_lload, s_aload, s_istore, s_lstore, s_astore, s_iinc, s_bin, s_binG, s_un, s_lbin, s_lbinG, s_lsh, s_lcmp, s_i2l, s_l2i, s_dup, s_dup2, s_pop, s_if, s_icmp, s_geti, s_getl, s_getr, s_puti, s_putz, s_putl, s_iald, s_zald, s_iast, s_zast, s_aaldS, s_aaldU, s_gets, s_tald, s_tsw, tsw, s_iret, s_zret, s_lret, s_aret, s_vret, s_callV, s_callS, c1, nl1, keepL, csum, pushR, inL, List.getD_cons_zero, List.getD_cons_succ, List.set_cons_zero, List.set_cons_succ, List.cons_append, List.nil_append, List.append_nil, List.replicate, List.length_cons, List.length_nil, List.take_succ_cons, List.take_zero, List.drop_succ_cons, List.drop_zero, List.reverse_cons, List.reverse_nil, true_and, and_true, forall_const, not_true_eq_false, not_false_eq_true, false_implies, true_implies, implies_true, one0, m10, Nat.reduceAdd, Nat.reduceSub, Nat.reduceLeDiff, Nat.zero_add, Nat.add_zero, fn_X9_behind])
        (apply h69; simp only [BX9_firstFault_69, s_mth, s_mab, s_at, s_iconst, s_lconst, s_iload, s_lload, s_aload, s_istore, s_lstore, s_astore, s_iinc, s_bin, s_binG, s_un, s_lbin, s_lbinG, s_lsh, s_lcmp, s_i2l, s_l2i, s_dup, s_dup2, s_pop, s_if, s_icmp, s_geti, s_getl, s_getr, s_puti, s_putz, s_putl, s_iald, s_zald, s_iast, s_zast, s_aaldS, s_aaldU, s_gets, s_tald, s_tsw, tsw, s_iret, s_zret, s_lret, s_aret, s_vret, s_callV, s_callS, c1, nl1, keepL, csum, pushR, inL, List.getD_cons_zero, List.getD_cons_succ, List.set_cons_zero, List.set_cons_succ, List.cons_append, List.nil_append, List.append_nil, List.replicate, List.length_cons, List.length_nil, List.take_succ_cons, List.take_zero, List.drop_succ_cons, List.drop_zero, List.reverse_cons, List.reverse_nil, true_and, and_true, forall_const, not_true_eq_false, not_false_eq_true, false_implies, true_implies, implies_true, one0, m10, Nat.reduceAdd, Nat.reduceSub, Nat.reduceLeDiff, Nat.zero_add, Nat.add_zero, fn_X9_behind])
        rw [ff, if_neg h] at hq
        exact hq
    | succ n ih =>
      intro i ph us hi hq
      have ei : (nI i).toNatClampNeg = i := nI_clamp (by omega)
      have L41 : ∀ w us2, w = ffP M ph us i → us2 = ffU ph us → G 41 [some (.inr (.inr (9, 1))), none, some (.inl us2), some (.inl (nI i))] [.inl w] M := by
        intro w us2 ew eu
        subst ew
        subst eu
        (apply h41; simp only [BX9_firstFault_41, s_mth, s_mab, s_at, s_iconst, s_lconst, s_iload, s_lload, s_aload, s_istore, s_lstore, s_astore, s_iinc, s_bin, s_binG, s_un, s_lbin, s_lbinG, s_lsh, s_lcmp, s_i2l, s_l2i, s_dup, s_dup2, s_pop, s_if, s_icmp, s_geti, s_getl, s_getr, s_puti, s_putz, s_putl, s_iald, s_zald, s_iast, s_zast, s_aaldS, s_aaldU, s_gets, s_tald, s_tsw, tsw, s_iret, s_zret, s_lret, s_aret, s_vret, s_callV, s_callS, c1, nl1, keepL, csum, pushR, inL, List.getD_cons_zero, List.getD_cons_succ, List.set_cons_zero, List.set_cons_succ, List.cons_append, List.nil_append, List.append_nil, List.replicate, List.length_cons, List.length_nil, List.take_succ_cons, List.take_zero, List.drop_succ_cons, List.drop_zero, List.reverse_cons, List.reverse_nil, true_and, and_true, forall_const, not_true_eq_false, not_false_eq_true, false_implies, true_implies, implies_true, one0, m10, Nat.reduceAdd, Nat.reduceSub, Nat.reduceLeDiff, Nat.zero_add, Nat.add_zero, fn_X9_behind])
        refine ⟨fun h => ?_, fun h => ?_⟩
        · rw [ff, if_pos h] at hq
          exact hq
        · rw [ff, if_neg h] at hq
          (apply h49; simp only [BX9_firstFault_49, s_mth, s_mab, s_at, s_iconst, s_lconst, s_iload, s_lload, s_aload, s_istore, s_lstore, s_astore, s_iinc, s_bin, s_binG, s_un, s_lbin, s_lbinG, s_lsh, s_lcmp, s_i2l, s_l2i, s_dup, s_dup2, s_pop, s_if, s_icmp, s_geti, s_getl, s_getr, s_puti, s_putz, s_putl, s_iald, s_zald, s_iast, s_zast, s_aaldS, s_aaldU, s_gets, s_tald, s_tsw, tsw, s_iret, s_zret, s_lret, s_aret, s_vret, s_callV, s_callS, c1, nl1, keepL, csum, pushR, inL, List.getD_cons_zero, List.getD_cons_succ, List.set_cons_zero, List.set_cons_succ, List.cons_append, List.nil_append, List.append_nil, List.replicate, List.length_cons, List.length_nil, List.take_succ_cons, List.take_zero, List.drop_succ_cons, List.drop_zero, List.reverse_cons, List.reverse_nil, true_and, and_true, forall_const, not_true_eq_false, not_false_eq_true, false_implies, true_implies, implies_true, one0, m10, Nat.reduceAdd, Nat.reduceSub, Nat.reduceLeDiff, Nat.zero_add, Nat.add_zero, fn_X9_behind])
          rw [nI_1]
          exact ih (i + 1) _ _ (by omega) hq
      have L22 : ∀ us2, us2 = ffU ph us → G 22 [some (.inr (.inr (9, 1))), some (.inl ph), some (.inl us2), some (.inl (nI i))] [] M := by
        intro us2 eu
        (apply h22; simp only [BX9_firstFault_22, s_mth, s_mab, s_at, s_iconst, s_lconst, s_iload, s_lload, s_aload, s_istore, s_lstore, s_astore, s_iinc, s_bin, s_binG, s_un, s_lbin, s_lbinG, s_lsh, s_lcmp, s_i2l, s_l2i, s_dup, s_dup2, s_pop, s_if, s_icmp, s_geti, s_getl, s_getr, s_puti, s_putz, s_putl, s_iald, s_zald, s_iast, s_zast, s_aaldS, s_aaldU, s_gets, s_tald, s_tsw, tsw, s_iret, s_zret, s_lret, s_aret, s_vret, s_callV, s_callS, c1, nl1, keepL, csum, pushR, inL, List.getD_cons_zero, List.getD_cons_succ, List.set_cons_zero, List.set_cons_succ, List.cons_append, List.nil_append, List.append_nil, List.replicate, List.length_cons, List.length_nil, List.take_succ_cons, List.take_zero, List.drop_succ_cons, List.drop_zero, List.reverse_cons, List.reverse_nil, true_and, and_true, forall_const, not_true_eq_false, not_false_eq_true, false_implies, true_implies, implies_true, one0, m10, Nat.reduceAdd, Nat.reduceSub, Nat.reduceLeDiff, Nat.zero_add, Nat.add_zero, fn_X9_behind])
        refine ⟨fun h => ?_, fun h => ?_⟩
        · (apply h31; simp only [BX9_firstFault_31, s_mth, s_mab, s_at, s_iconst, s_lconst, s_iload, s_lload, s_aload, s_istore, s_lstore, s_astore, s_iinc, s_bin, s_binG, s_un, s_lbin, s_lbinG, s_lsh, s_lcmp, s_i2l, s_l2i, s_dup, s_dup2, s_pop, s_if, s_icmp, s_geti, s_getl, s_getr, s_puti, s_putz, s_putl, s_iald, s_zald, s_iast, s_zast, s_aaldS, s_aaldU, s_gets, s_tald, s_tsw, tsw, s_iret, s_zret, s_lret, s_aret, s_vret, s_callV, s_callS, c1, nl1, keepL, csum, pushR, inL, List.getD_cons_zero, List.getD_cons_succ, List.set_cons_zero, List.set_cons_succ, List.cons_append, List.nil_append, List.append_nil, List.replicate, List.length_cons, List.length_nil, List.take_succ_cons, List.take_zero, List.drop_succ_cons, List.drop_zero, List.reverse_cons, List.reverse_nil, true_and, and_true, forall_const, not_true_eq_false, not_false_eq_true, false_implies, true_implies, implies_true, one0, m10, Nat.reduceAdd, Nat.reduceSub, Nat.reduceLeDiff, Nat.zero_add, Nat.add_zero, fn_X9_behind])
          simp only [l2, ei]
          exact ⟨vp_in_nI (by omega) (by decide), ⟨_, _, rfl⟩, L41 _ _ (by rw [ffP, ← eu, if_pos h]) eu⟩
        · exact L41 _ _ (by rw [ffP, ← eu, if_neg h]) eu
      (apply h6; simp only [BX9_firstFault_6, s_mth, s_mab, s_at, s_iconst, s_lconst, s_iload, s_lload, s_aload, s_istore, s_lstore, s_astore, s_iinc, s_bin, s_binG, s_un, s_lbin, s_lbinG, s_lsh, s_lcmp, s_i2l, s_l2i, s_dup, s_dup2, s_pop, s_if, s_icmp, s_geti, s_getl, s_getr, s_puti, s_putz, s_putl, s_iald, s_zald, s_iast, s_zast, s_aaldS, s_aaldU, s_gets, s_tald, s_tsw, tsw, s_iret, s_zret, s_lret, s_aret, s_vret, s_callV, s_callS, c1, nl1, keepL, csum, pushR, inL, List.getD_cons_zero, List.getD_cons_succ, List.set_cons_zero, List.set_cons_succ, List.cons_append, List.nil_append, List.append_nil, List.replicate, List.length_cons, List.length_nil, List.take_succ_cons, List.take_zero, List.drop_succ_cons, List.drop_zero, List.reverse_cons, List.reverse_nil, true_and, and_true, forall_const, not_true_eq_false, not_false_eq_true, false_implies, true_implies, implies_true, one0, m10, Nat.reduceAdd, Nat.reduceSub, Nat.reduceLeDiff, Nat.zero_add, Nat.add_zero, fn_X9_behind])
      rw [ez]
      refine ⟨fun h => absurd h (nI_ge (by omega) (by omega)), fun _ => ⟨fun h => ?_, fun h => ?_⟩⟩
      · exact L22 _ (by rw [ffU, if_pos h])
      · exact L22 _ (by rw [ffU, if_neg h])
  (apply h0; simp only [BX9_firstFault_0, s_mth, s_mab, s_at, s_iconst, s_lconst, s_iload, s_lload, s_aload, s_istore, s_lstore, s_astore, s_iinc, s_bin, s_binG, s_un, s_lbin, s_lbinG, s_lsh, s_lcmp, s_i2l, s_l2i, s_dup, s_dup2, s_pop, s_if, s_icmp, s_geti, s_getl, s_getr, s_puti, s_putz, s_putl, s_iald, s_zald, s_iast, s_zast, s_aaldS, s_aaldU, s_gets, s_tald, s_tsw, tsw, s_iret, s_zret, s_lret, s_aret, s_vret, s_callV, s_callS, c1, nl1, keepL, csum, pushR, inL, List.getD_cons_zero, List.getD_cons_succ, List.set_cons_zero, List.set_cons_succ, List.cons_append, List.nil_append, List.append_nil, List.replicate, List.length_cons, List.length_nil, List.take_succ_cons, List.take_zero, List.drop_succ_cons, List.drop_zero, List.reverse_cons, List.reverse_nil, true_and, and_true, forall_const, not_true_eq_false, not_false_eq_true, false_implies, true_implies, implies_true, one0, m10, Nat.reduceAdd, Nat.reduceSub, Nat.reduceLeDiff, Nat.zero_add, Nat.add_zero, fn_X9_behind])
  exact loop _ 0 0 0 (by omega) hQ
theorem ct_X9_firstFault (l : Launch) : Con l yX9_firstFault cX9_firstFault 4 (Option.some FieldType.int) 3 pre_X9_firstFault fn_X9_firstFault := con_of (by decide +kernel) ok_X9_firstFault len_X9_firstFault (fun p e s m args below meth c D ca ad A as M hX hr hp ho => pf_X9_firstFault _ _ (bsX9_firstFault_0 hX hr) (bsX9_firstFault_6 hX hr) (bsX9_firstFault_22 hX hr) (bsX9_firstFault_31 hX hr) (bsX9_firstFault_41 hX hr) (bsX9_firstFault_49 hX hr) (bsX9_firstFault_55 hX hr) (bsX9_firstFault_65 hX hr) (bsX9_firstFault_69 hX hr) as M ho hp ⟨rfl, rfl⟩)
def bgn (M : mM) (k : Nat) (x y z : Int32) : mM := mset (mset (mset (mset (mset (mset (mset (mset (mset (mset M k 0 x) k 1 y) k 2 z) k 3 0) k 4 0) k 5 0) k 6 0) k 7 0) k 8 0) k 9 0
/-- the figures of RATES, from place p on -/
def rrL (fst : Nat) : Nat → Nat → mM → Nat × mM
  | 0, p, M => (p, M)
  | n + 1, p, M => if M.1 2 p = 46 then (p, M) else rrL fst n (p + 1) (setR M (M.1 4 2) (nI p - nI fst) (fig M (nI p)))
def rd0 (M : mM) : mM := mset (mset (mset (mset (mset M 4 0 (fig M 1)) 4 1 (fig M 2)) 4 2 0) 7 1 (fig M 3)) 7 2 0
def rdB (M : mM) (p : Nat) : mM := bgn M (9 + (M.1 4 2).toNatClampNeg) (fig M (nI (p + 1))) (fig M (nI (p + 2))) (fig M (nI (p + 3)))
def rdI (M : mM) (p : Nat) : Nat × mM := rrL (p + 4) (nT M - (p + 4)) (p + 4) (rdB M p)
def rdN (M : mM) : mM := mset M 4 2 (M.1 4 2 + 1)
def rdL : Nat → Nat → mM → mM
  | 0, _, M => M
  | n + 1, p, M => if nT M ≤ p then M else if 5 ≤ M.1 4 2 then M else rdL n ((rdI M p).1 + 1) (rdN (rdI M p).2)
def rd (M : mM) : mM := rdL 6 4 (rd0 M)
theorem bgn_n {M : mM} {k a : Nat} {x y z : Int32} (h : a ≠ k) : (bgn M k x y z).1 a = M.1 a := by
  unfold bgn
  rw [mset_n h, mset_n h, mset_n h, mset_n h, mset_n h, mset_n h, mset_n h, mset_n h, mset_n h, mset_n h]
theorem setR_n {M : mM} {u p r : Int32} {a : Nat} (h5 : a ≠ 5) (h6 : a ≠ 6) : (setR M u p r).1 a = M.1 a := by
  unfold setR
  split
  · rfl
  · split
    · rfl
    · rw [mset_n h6, mset_n h5]
theorem rrL_n {fst a : Nat} (h5 : a ≠ 5) (h6 : a ≠ 6) : ∀ (n p : Nat) (M : mM), (rrL fst n p M).2.1 a = M.1 a ∧ p ≤ (rrL fst n p M).1 ∧ (rrL fst n p M).1 ≤ p + n
  | 0, p, M => ⟨rfl, Nat.le_refl _, Nat.le_refl _⟩
  | n + 1, p, M => by
    unfold rrL
    split
    · exact ⟨rfl, Nat.le_refl _, by omega⟩
    · obtain ⟨h1, h2, h3⟩ := rrL_n h5 h6 (fst := fst) n (p + 1) (setR M (M.1 4 2) (nI p - nI fst) (fig M (nI p)))
      exact ⟨h1.trans (setR_n h5 h6), by omega, by omega⟩
def pre_X9_readInto (as : List mV) (M : mM) : Prop := ∃ c q k, as = [.inr (.inr (9, c)), .inr (.inr (5, q)), .inr (.inr (8, k))] ∧ TL M ∧ k = 7
def fn_X9_readInto : List mV → mM → Option mV × mM
  | [.inr (.inr (_, c)), .inr (.inr (_, q)), .inr (.inr (_, k))], M => (none, rd M)
  | _, M => (none, M)
theorem ok_X9_readInto (as : List mV) (M : mM) (h : pre_X9_readInto as M) (_ : ∀ v ∈ as, okV v) : okR (fn_X9_readInto as M).1 := by
  obtain ⟨c, q, k, rfl, -⟩ := h
  first | trivial | exact (by decide +kernel : kof 14 = 8)
theorem len_X9_readInto (as : List mV) (M : mM) (h : pre_X9_readInto as M) : (inL as).length ≤ 6 := by
  obtain ⟨c, q, k, rfl, -⟩ := h
  exact Nat.le_of_ble_eq_true rfl

theorem fl_149 : FLk "FairBlocks$Text" 53 8 0 19 := ⟨RX8, TX8, 3, rfl, inX8, by decide, w_149, by decide, rfl⟩
theorem fl_66 : FLk "FairBlocks$Text" 42 5 2 0 := ⟨RX5, TX5, 5, rfl, inX5, by decide, w_66, by decide, rfl⟩
theorem fp_151 : FPk "FairBlocks$Text" 45 8 1 0 .int := ⟨RX8, TX8, 3, tyX8, rfl, inX8, by decide, w_151, by decide, rfl, tyX8_ok, nmX8, rfl, rfl⟩
theorem fp_156 : FPk "FairBlocks$Text" 50 8 2 0 .int := ⟨RX8, TX8, 3, tyX8, rfl, inX8, by decide, w_156, by decide, rfl, tyX8_ok, nmX8, rfl, rfl⟩
theorem fp_54 : FPk "FairBlocks$Text" 34 5 0 0 .int := ⟨RX5, TX5, 5, tyX5, rfl, inX5, by decide, w_54, by decide, rfl, tyX5_ok, nmX5, rfl, rfl⟩
theorem fp_57 : FPk "FairBlocks$Text" 39 5 1 0 .int := ⟨RX5, TX5, 5, tyX5, rfl, inX5, by decide, w_57, by decide, rfl, tyX5_ok, nmX5, rfl, rfl⟩
theorem fp_66 : FPk "FairBlocks$Text" 42 5 2 0 .int := ⟨RX5, TX5, 5, tyX5, rfl, inX5, by decide, w_66, by decide, rfl, tyX5_ok, nmX5, rfl, rfl⟩
theorem dX9_readInto_0 : decode cX9_readInto 0 = .ok (.aload_n 1, 1) := by decide +kernel
theorem dX9_readInto_1 : decode cX9_readInto 1 = .ok (.aload_n 0, 1) := by decide +kernel
theorem dX9_readInto_2 : decode cX9_readInto 2 = .ok (.iconst 1, 1) := by decide +kernel
theorem dX9_readInto_3 : decode cX9_readInto 3 = .ok (.invokevirtual 30, 3) := by decide +kernel
theorem dX9_readInto_6 : decode cX9_readInto 6 = .ok (.putfield 34, 3) := by decide +kernel
theorem dX9_readInto_9 : decode cX9_readInto 9 = .ok (.aload_n 1, 1) := by decide +kernel
theorem dX9_readInto_10 : decode cX9_readInto 10 = .ok (.aload_n 0, 1) := by decide +kernel
theorem dX9_readInto_11 : decode cX9_readInto 11 = .ok (.iconst 2, 1) := by decide +kernel
theorem dX9_readInto_12 : decode cX9_readInto 12 = .ok (.invokevirtual 30, 3) := by decide +kernel
theorem dX9_readInto_15 : decode cX9_readInto 15 = .ok (.putfield 39, 3) := by decide +kernel
theorem dX9_readInto_18 : decode cX9_readInto 18 = .ok (.aload_n 1, 1) := by decide +kernel
theorem dX9_readInto_19 : decode cX9_readInto 19 = .ok (.iconst 0, 1) := by decide +kernel
theorem dX9_readInto_20 : decode cX9_readInto 20 = .ok (.putfield 42, 3) := by decide +kernel
theorem dX9_readInto_23 : decode cX9_readInto 23 = .ok (.aload_n 2, 1) := by decide +kernel
theorem dX9_readInto_24 : decode cX9_readInto 24 = .ok (.aload_n 0, 1) := by decide +kernel
theorem dX9_readInto_25 : decode cX9_readInto 25 = .ok (.iconst 3, 1) := by decide +kernel
theorem dX9_readInto_26 : decode cX9_readInto 26 = .ok (.invokevirtual 30, 3) := by decide +kernel
theorem dX9_readInto_29 : decode cX9_readInto 29 = .ok (.putfield 45, 3) := by decide +kernel
theorem dX9_readInto_32 : decode cX9_readInto 32 = .ok (.aload_n 2, 1) := by decide +kernel
theorem dX9_readInto_33 : decode cX9_readInto 33 = .ok (.iconst 0, 1) := by decide +kernel
theorem dX9_readInto_34 : decode cX9_readInto 34 = .ok (.putfield 50, 3) := by decide +kernel
theorem dX9_readInto_37 : decode cX9_readInto 37 = .ok (.iconst 4, 1) := by decide +kernel
theorem dX9_readInto_38 : decode cX9_readInto 38 = .ok (.istore_n 3, 1) := by decide +kernel
theorem dX9_readInto_39 : decode cX9_readInto 39 = .ok (.iload_n 3, 1) := by decide +kernel
theorem dX9_readInto_40 : decode cX9_readInto 40 = .ok (.aload_n 0, 1) := by decide +kernel
theorem dX9_readInto_41 : decode cX9_readInto 41 = .ok (.getfield 15, 3) := by decide +kernel
theorem dX9_readInto_44 : decode cX9_readInto 44 = .ok (.if_icmp .ge 114, 3) := by decide +kernel
theorem dX9_readInto_47 : decode cX9_readInto 47 = .ok (.aload_n 1, 1) := by decide +kernel
theorem dX9_readInto_48 : decode cX9_readInto 48 = .ok (.getfield 42, 3) := by decide +kernel
theorem dX9_readInto_51 : decode cX9_readInto 51 = .ok (.iconst 5, 1) := by decide +kernel
theorem dX9_readInto_52 : decode cX9_readInto 52 = .ok (.if_icmp .ge 106, 3) := by decide +kernel
theorem dX9_readInto_55 : decode cX9_readInto 55 = .ok (.aload_n 2, 1) := by decide +kernel
theorem dX9_readInto_56 : decode cX9_readInto 56 = .ok (.getfield 53, 3) := by decide +kernel
theorem dX9_readInto_59 : decode cX9_readInto 59 = .ok (.aload_n 1, 1) := by decide +kernel
theorem dX9_readInto_60 : decode cX9_readInto 60 = .ok (.getfield 42, 3) := by decide +kernel
theorem dX9_readInto_63 : decode cX9_readInto 63 = .ok (.aaload, 1) := by decide +kernel
theorem dX9_readInto_64 : decode cX9_readInto 64 = .ok (.astore 4, 2) := by decide +kernel
theorem dX9_readInto_66 : decode cX9_readInto 66 = .ok (.aload 4, 2) := by decide +kernel
theorem dX9_readInto_68 : decode cX9_readInto 68 = .ok (.aload_n 0, 1) := by decide +kernel
theorem dX9_readInto_69 : decode cX9_readInto 69 = .ok (.iload_n 3, 1) := by decide +kernel
theorem dX9_readInto_70 : decode cX9_readInto 70 = .ok (.iconst 1, 1) := by decide +kernel
theorem dX9_readInto_71 : decode cX9_readInto 71 = .ok (.iadd, 1) := by decide +kernel
theorem dX9_readInto_72 : decode cX9_readInto 72 = .ok (.invokevirtual 30, 3) := by decide +kernel
theorem dX9_readInto_75 : decode cX9_readInto 75 = .ok (.aload_n 0, 1) := by decide +kernel
theorem dX9_readInto_76 : decode cX9_readInto 76 = .ok (.iload_n 3, 1) := by decide +kernel
theorem dX9_readInto_77 : decode cX9_readInto 77 = .ok (.iconst 2, 1) := by decide +kernel
theorem dX9_readInto_78 : decode cX9_readInto 78 = .ok (.iadd, 1) := by decide +kernel
theorem dX9_readInto_79 : decode cX9_readInto 79 = .ok (.invokevirtual 30, 3) := by decide +kernel
theorem dX9_readInto_82 : decode cX9_readInto 82 = .ok (.aload_n 0, 1) := by decide +kernel
theorem dX9_readInto_83 : decode cX9_readInto 83 = .ok (.iload_n 3, 1) := by decide +kernel
theorem dX9_readInto_84 : decode cX9_readInto 84 = .ok (.iconst 3, 1) := by decide +kernel
theorem dX9_readInto_85 : decode cX9_readInto 85 = .ok (.iadd, 1) := by decide +kernel
theorem dX9_readInto_86 : decode cX9_readInto 86 = .ok (.invokevirtual 30, 3) := by decide +kernel
theorem dX9_readInto_89 : decode cX9_readInto 89 = .ok (.invokevirtual 56, 3) := by decide +kernel
theorem dX9_readInto_92 : decode cX9_readInto 92 = .ok (.iload_n 3, 1) := by decide +kernel
theorem dX9_readInto_93 : decode cX9_readInto 93 = .ok (.iconst 4, 1) := by decide +kernel
theorem dX9_readInto_94 : decode cX9_readInto 94 = .ok (.iadd, 1) := by decide +kernel
theorem dX9_readInto_95 : decode cX9_readInto 95 = .ok (.istore 5, 2) := by decide +kernel
theorem dX9_readInto_97 : decode cX9_readInto 97 = .ok (.iload 5, 2) := by decide +kernel
theorem dX9_readInto_99 : decode cX9_readInto 99 = .ok (.istore_n 3, 1) := by decide +kernel
theorem dX9_readInto_100 : decode cX9_readInto 100 = .ok (.iload_n 3, 1) := by decide +kernel
theorem dX9_readInto_101 : decode cX9_readInto 101 = .ok (.aload_n 0, 1) := by decide +kernel
theorem dX9_readInto_102 : decode cX9_readInto 102 = .ok (.getfield 15, 3) := by decide +kernel
theorem dX9_readInto_105 : decode cX9_readInto 105 = .ok (.if_icmp .ge 37, 3) := by decide +kernel
theorem dX9_readInto_108 : decode cX9_readInto 108 = .ok (.aload_n 0, 1) := by decide +kernel
theorem dX9_readInto_109 : decode cX9_readInto 109 = .ok (.getfield 11, 3) := by decide +kernel
theorem dX9_readInto_112 : decode cX9_readInto 112 = .ok (.iload_n 3, 1) := by decide +kernel
theorem dX9_readInto_113 : decode cX9_readInto 113 = .ok (.iaload, 1) := by decide +kernel
theorem dX9_readInto_114 : decode cX9_readInto 114 = .ok (.bipush 46, 2) := by decide +kernel
theorem dX9_readInto_116 : decode cX9_readInto 116 = .ok (.if_icmp .eq 26, 3) := by decide +kernel
theorem dX9_readInto_119 : decode cX9_readInto 119 = .ok (.aload_n 1, 1) := by decide +kernel
theorem dX9_readInto_120 : decode cX9_readInto 120 = .ok (.aload_n 1, 1) := by decide +kernel
theorem dX9_readInto_121 : decode cX9_readInto 121 = .ok (.getfield 42, 3) := by decide +kernel
theorem dX9_readInto_124 : decode cX9_readInto 124 = .ok (.iload_n 3, 1) := by decide +kernel
theorem dX9_readInto_125 : decode cX9_readInto 125 = .ok (.iload 5, 2) := by decide +kernel
theorem dX9_readInto_127 : decode cX9_readInto 127 = .ok (.isub, 1) := by decide +kernel
theorem dX9_readInto_128 : decode cX9_readInto 128 = .ok (.aload_n 0, 1) := by decide +kernel
theorem dX9_readInto_129 : decode cX9_readInto 129 = .ok (.iload_n 3, 1) := by decide +kernel
theorem dX9_readInto_130 : decode cX9_readInto 130 = .ok (.invokevirtual 30, 3) := by decide +kernel
theorem dX9_readInto_133 : decode cX9_readInto 133 = .ok (.invokevirtual 62, 3) := by decide +kernel
theorem dX9_readInto_136 : decode cX9_readInto 136 = .ok (.iinc 3 1, 3) := by decide +kernel
theorem dX9_readInto_139 : decode cX9_readInto 139 = .ok (.goto (-39), 3) := by decide +kernel
theorem dX9_readInto_142 : decode cX9_readInto 142 = .ok (.iinc 3 1, 3) := by decide +kernel
theorem dX9_readInto_145 : decode cX9_readInto 145 = .ok (.aload_n 1, 1) := by decide +kernel
theorem dX9_readInto_146 : decode cX9_readInto 146 = .ok (.dup, 1) := by decide +kernel
theorem dX9_readInto_147 : decode cX9_readInto 147 = .ok (.getfield 42, 3) := by decide +kernel
theorem dX9_readInto_150 : decode cX9_readInto 150 = .ok (.iconst 1, 1) := by decide +kernel
theorem dX9_readInto_151 : decode cX9_readInto 151 = .ok (.iadd, 1) := by decide +kernel
theorem dX9_readInto_152 : decode cX9_readInto 152 = .ok (.putfield 42, 3) := by decide +kernel
theorem dX9_readInto_155 : decode cX9_readInto 155 = .ok (.goto (-116), 3) := by decide +kernel
theorem dX9_readInto_158 : decode cX9_readInto 158 = .ok (.return_, 1) := by decide +kernel
theorem mk_X9_readInto : MVk yX9_readInto "FairBlocks$Text" cX9_readInto 6 (Option.none : Option FieldType) 2 := ⟨w_375, w_373, w_374, w_2, rfl, by decide +kernel, by decide +kernel, by decide +kernel⟩
def BX9_readInto_0 (G : Nat → KT) (Q : Option mV → mM → Prop) : KT := (s_aload 1 (s_aload 0 (s_iconst (1) (s_callV 9 1 pre_X9_figure fn_X9_figure (s_puti 5 0 (s_aload 1 (s_aload 0 (s_iconst (2) (s_callV 9 1 pre_X9_figure fn_X9_figure (s_puti 5 1 (s_aload 1 (s_iconst (0) (s_puti 5 2 (s_aload 2 (s_aload 0 (s_iconst (3) (s_callV 9 1 pre_X9_figure fn_X9_figure (s_puti 8 1 (s_aload 2 (s_iconst (0) (s_puti 8 2 (s_iconst (4) (s_istore 3 (s_at G 39 [true, true, true, true, false, false]))))))))))))))))))))))))
set_option maxRecDepth 4000 in
theorem bsX9_readInto_0 {p : Program} {l : Launch} {e : Env} {s : State} {m : MethodId} {args : Array Value} {below : List Frame} {meth : Method} {c : Code} {D : va_G} {ca : Nat → ClassId} {ad : Nat → Nat} {A : Nat → Prop} {Q : Option mV → mM → Prop} (hX : CX p s m args meth c 6 cX9_readInto "FairBlocks$Text" D ca ad A) (hr : meth.sig.returnType = (Option.none : Option FieldType)) : ∀ lv st M, BX9_readInto_0 (Gd p l e (rmD 2) s m args below meth c 6 D ca ad A 0 0 (MQ below (QC D ca ad A Q) args s 0 0 A)) Q lv st M → Gd p l e (rmD 2) s m args below meth c 6 D ca ad A 0 0 (MQ below (QC D ca ad A Q) args s 0 0 A) 0 lv st M :=
  (sd_aload_n hX dX9_readInto_0 rfl (sd_aload_n hX dX9_readInto_1 rfl (sd_iconst hX dX9_readInto_2 rfl (sd_callV hX (kd := 9) rfl (by decide) (ct_X9_figure l) mk_X9_figure w_376 ⟨⟨by decide, by decide⟩, by decide, by decide⟩ dX9_readInto_3 (sd_puti hX fp_54 dX9_readInto_6 (sd_aload_n hX dX9_readInto_9 rfl (sd_aload_n hX dX9_readInto_10 rfl (sd_iconst hX dX9_readInto_11 rfl (sd_callV hX (kd := 9) rfl (by decide) (ct_X9_figure l) mk_X9_figure w_376 ⟨⟨by decide, by decide⟩, by decide, by decide⟩ dX9_readInto_12 (sd_puti hX fp_57 dX9_readInto_15 (sd_aload_n hX dX9_readInto_18 rfl (sd_iconst hX dX9_readInto_19 rfl (sd_puti hX fp_66 dX9_readInto_20 (sd_aload_n hX dX9_readInto_23 rfl (sd_aload_n hX dX9_readInto_24 rfl (sd_iconst hX dX9_readInto_25 rfl (sd_callV hX (kd := 9) rfl (by decide) (ct_X9_figure l) mk_X9_figure w_376 ⟨⟨by decide, by decide⟩, by decide, by decide⟩ dX9_readInto_26 (sd_puti hX fp_151 dX9_readInto_29 (sd_aload_n hX dX9_readInto_32 rfl (sd_iconst hX dX9_readInto_33 rfl (sd_puti hX fp_156 dX9_readInto_34 (sd_iconst hX dX9_readInto_37 rfl (sd_istore_n hX (by decide) dX9_readInto_38 rfl sd_at)))))))))))))))))))))))
def BX9_readInto_39 (G : Nat → KT) (Q : Option mV → mM → Prop) : KT := (s_iload 3 (s_aload 0 (s_geti 9 1 (s_icmp (fun x y => y ≤ x) (s_at G 158 [false, false, false, false, false, false]) (s_aload 1 (s_geti 5 2 (s_iconst (5) (s_icmp (fun x y => y ≤ x) (s_at G 158 [false, false, false, false, false, false]) (s_aload 2 (s_getr 8 16 (fun k => k + 1) (s_aload 1 (s_geti 5 2 (s_aaldU (s_astore 4 (s_aload 4 (s_aload 0 (s_iload 3 (s_iconst (1) (s_bin (fun x y => x + y) (s_callV 9 1 pre_X9_figure fn_X9_figure (s_aload 0 (s_iload 3 (s_iconst (2) (s_bin (fun x y => x + y) (s_callV 9 1 pre_X9_figure fn_X9_figure (s_aload 0 (s_iload 3 (s_iconst (3) (s_bin (fun x y => x + y) (s_callV 9 1 pre_X9_figure fn_X9_figure (s_callV 10 3 pre_X10_begin fn_X10_begin (s_iload 3 (s_iconst (4) (s_bin (fun x y => x + y) (s_istore 5 (s_iload 5 (s_istore 3 (s_at G 100 [true, true, true, true, false, true]))))))))))))))))))))))))))))))))))))))
set_option maxRecDepth 4000 in
theorem bsX9_readInto_39 {p : Program} {l : Launch} {e : Env} {s : State} {m : MethodId} {args : Array Value} {below : List Frame} {meth : Method} {c : Code} {D : va_G} {ca : Nat → ClassId} {ad : Nat → Nat} {A : Nat → Prop} {Q : Option mV → mM → Prop} (hX : CX p s m args meth c 6 cX9_readInto "FairBlocks$Text" D ca ad A) (hr : meth.sig.returnType = (Option.none : Option FieldType)) : ∀ lv st M, BX9_readInto_39 (Gd p l e (rmD 2) s m args below meth c 6 D ca ad A 0 0 (MQ below (QC D ca ad A Q) args s 0 0 A)) Q lv st M → Gd p l e (rmD 2) s m args below meth c 6 D ca ad A 0 0 (MQ below (QC D ca ad A Q) args s 0 0 A) 39 lv st M :=
  (sd_iload_n hX dX9_readInto_39 rfl (sd_aload_n hX dX9_readInto_40 rfl (sd_geti hX fl_31 (by decide) dX9_readInto_41 (sd_icmp_ge hX dX9_readInto_44 (by decide) sd_at (sd_aload_n hX dX9_readInto_47 rfl (sd_geti hX fl_66 (by decide) dX9_readInto_48 (sd_iconst hX dX9_readInto_51 rfl (sd_icmp_ge hX dX9_readInto_52 (by decide) sd_at (sd_aload_n hX dX9_readInto_55 rfl (sd_getr hX fl_149 (fun _ => rfl) okA dX9_readInto_56 (sd_aload_n hX dX9_readInto_59 rfl (sd_geti hX fl_66 (by decide) dX9_readInto_60 (sd_aaldU hX dX9_readInto_63 (sd_astore hX (by decide) dX9_readInto_64 (sd_aload hX dX9_readInto_66 (sd_aload_n hX dX9_readInto_68 rfl (sd_iload_n hX dX9_readInto_69 rfl (sd_iconst hX dX9_readInto_70 rfl (sd_iadd hX dX9_readInto_71 (sd_callV hX (kd := 9) rfl (by decide) (ct_X9_figure l) mk_X9_figure w_376 ⟨⟨by decide, by decide⟩, by decide, by decide⟩ dX9_readInto_72 (sd_aload_n hX dX9_readInto_75 rfl (sd_iload_n hX dX9_readInto_76 rfl (sd_iconst hX dX9_readInto_77 rfl (sd_iadd hX dX9_readInto_78 (sd_callV hX (kd := 9) rfl (by decide) (ct_X9_figure l) mk_X9_figure w_376 ⟨⟨by decide, by decide⟩, by decide, by decide⟩ dX9_readInto_79 (sd_aload_n hX dX9_readInto_82 rfl (sd_iload_n hX dX9_readInto_83 rfl (sd_iconst hX dX9_readInto_84 rfl (sd_iadd hX dX9_readInto_85 (sd_callV hX (kd := 9) rfl (by decide) (ct_X9_figure l) mk_X9_figure w_376 ⟨⟨by decide, by decide⟩, by decide, by decide⟩ dX9_readInto_86 (sd_callV hX (kd := 10) rfl (by decide) (ct_X10_begin l) mk_X10_begin w_380 ⟨⟨by decide, by decide⟩, by decide, by decide⟩ dX9_readInto_89 (sd_iload_n hX dX9_readInto_92 rfl (sd_iconst hX dX9_readInto_93 rfl (sd_iadd hX dX9_readInto_94 (sd_istore hX (by decide) dX9_readInto_95 (sd_iload hX dX9_readInto_97 (sd_istore_n hX (by decide) dX9_readInto_99 rfl sd_at)))))))))))))))))))))))))))))))))))))
def BX9_readInto_100 (G : Nat → KT) (Q : Option mV → mM → Prop) : KT := (s_iload 3 (s_aload 0 (s_geti 9 1 (s_icmp (fun x y => y ≤ x) (s_at G 142 [true, true, true, true, false, false]) (s_aload 0 (s_getr 9 13 (fun _ => 2) (s_iload 3 (s_iald (s_iconst (46) (s_icmp (fun x y => x = y) (s_at G 142 [true, true, true, true, false, false]) (s_aload 1 (s_aload 1 (s_geti 5 2 (s_iload 3 (s_iload 5 (s_bin (fun x y => x - y) (s_aload 0 (s_iload 3 (s_callV 9 1 pre_X9_figure fn_X9_figure (s_callV 5 3 pre_X5_setRate fn_X5_setRate (s_iinc 3 (1) (s_at G 100 [true, true, true, true, false, true]))))))))))))))))))))))
set_option maxRecDepth 4000 in
theorem bsX9_readInto_100 {p : Program} {l : Launch} {e : Env} {s : State} {m : MethodId} {args : Array Value} {below : List Frame} {meth : Method} {c : Code} {D : va_G} {ca : Nat → ClassId} {ad : Nat → Nat} {A : Nat → Prop} {Q : Option mV → mM → Prop} (hX : CX p s m args meth c 6 cX9_readInto "FairBlocks$Text" D ca ad A) (hr : meth.sig.returnType = (Option.none : Option FieldType)) : ∀ lv st M, BX9_readInto_100 (Gd p l e (rmD 2) s m args below meth c 6 D ca ad A 0 0 (MQ below (QC D ca ad A Q) args s 0 0 A)) Q lv st M → Gd p l e (rmD 2) s m args below meth c 6 D ca ad A 0 0 (MQ below (QC D ca ad A Q) args s 0 0 A) 100 lv st M :=
  (sd_iload_n hX dX9_readInto_100 rfl (sd_aload_n hX dX9_readInto_101 rfl (sd_geti hX fl_31 (by decide) dX9_readInto_102 (sd_icmp_ge hX dX9_readInto_105 (by decide) sd_at (sd_aload_n hX dX9_readInto_108 rfl (sd_getr hX fl_30 (fun _ => rfl) (fun _ _ _ => by decide +kernel) dX9_readInto_109 (sd_iload_n hX dX9_readInto_112 rfl (sd_iald hX dX9_readInto_113 (sd_bipush hX dX9_readInto_114 rfl (sd_icmp_eq hX dX9_readInto_116 (by decide) sd_at (sd_aload_n hX dX9_readInto_119 rfl (sd_aload_n hX dX9_readInto_120 rfl (sd_geti hX fl_66 (by decide) dX9_readInto_121 (sd_iload_n hX dX9_readInto_124 rfl (sd_iload hX dX9_readInto_125 (sd_isub hX dX9_readInto_127 (sd_aload_n hX dX9_readInto_128 rfl (sd_iload_n hX dX9_readInto_129 rfl (sd_callV hX (kd := 9) rfl (by decide) (ct_X9_figure l) mk_X9_figure w_376 ⟨⟨by decide, by decide⟩, by decide, by decide⟩ dX9_readInto_130 (sd_callV hX (kd := 5) rfl (by decide) (ct_X5_setRate l) mk_X5_setRate w_384 ⟨⟨by decide, by decide⟩, by decide, by decide⟩ dX9_readInto_133 (sd_iinc hX (by decide) dX9_readInto_136 rfl (sd_goto hX dX9_readInto_139 (by decide) sd_at))))))))))))))))))))))
def BX9_readInto_142 (G : Nat → KT) (Q : Option mV → mM → Prop) : KT := (s_iinc 3 (1) (s_aload 1 (s_dup (s_geti 5 2 (s_iconst (1) (s_bin (fun x y => x + y) (s_puti 5 2 (s_at G 39 [true, true, true, true, false, false]))))))))
set_option maxRecDepth 4000 in
theorem bsX9_readInto_142 {p : Program} {l : Launch} {e : Env} {s : State} {m : MethodId} {args : Array Value} {below : List Frame} {meth : Method} {c : Code} {D : va_G} {ca : Nat → ClassId} {ad : Nat → Nat} {A : Nat → Prop} {Q : Option mV → mM → Prop} (hX : CX p s m args meth c 6 cX9_readInto "FairBlocks$Text" D ca ad A) (hr : meth.sig.returnType = (Option.none : Option FieldType)) : ∀ lv st M, BX9_readInto_142 (Gd p l e (rmD 2) s m args below meth c 6 D ca ad A 0 0 (MQ below (QC D ca ad A Q) args s 0 0 A)) Q lv st M → Gd p l e (rmD 2) s m args below meth c 6 D ca ad A 0 0 (MQ below (QC D ca ad A Q) args s 0 0 A) 142 lv st M :=
  (sd_iinc hX (by decide) dX9_readInto_142 rfl (sd_aload_n hX dX9_readInto_145 rfl (sd_dup hX dX9_readInto_146 (sd_geti hX fl_66 (by decide) dX9_readInto_147 (sd_iconst hX dX9_readInto_150 rfl (sd_iadd hX dX9_readInto_151 (sd_puti hX fp_66 dX9_readInto_152 (sd_goto hX dX9_readInto_155 (by decide) sd_at))))))))
def BX9_readInto_158 (G : Nat → KT) (Q : Option mV → mM → Prop) : KT := (s_vret Q)
set_option maxRecDepth 4000 in
theorem bsX9_readInto_158 {p : Program} {l : Launch} {e : Env} {s : State} {m : MethodId} {args : Array Value} {below : List Frame} {meth : Method} {c : Code} {D : va_G} {ca : Nat → ClassId} {ad : Nat → Nat} {A : Nat → Prop} {Q : Option mV → mM → Prop} (hX : CX p s m args meth c 6 cX9_readInto "FairBlocks$Text" D ca ad A) (hr : meth.sig.returnType = (Option.none : Option FieldType)) : ∀ lv st M, BX9_readInto_158 (Gd p l e (rmD 2) s m args below meth c 6 D ca ad A 0 0 (MQ below (QC D ca ad A Q) args s 0 0 A)) Q lv st M → Gd p l e (rmD 2) s m args below meth c 6 D ca ad A 0 0 (MQ below (QC D ca ad A Q) args s 0 0 A) 158 lv st M :=
  sd_vret hX hr dX9_readInto_158
set_option maxHeartbeats 400000 in
theorem pf_X9_readInto (G : Nat → KT) (Q : Option mV → mM → Prop) (h0 : ∀ lv st M, BX9_readInto_0 G Q lv st M → G 0 lv st M) (h39 : ∀ lv st M, BX9_readInto_39 G Q lv st M → G 39 lv st M) (h100 : ∀ lv st M, BX9_readInto_100 G Q lv st M → G 100 lv st M) (h142 : ∀ lv st M, BX9_readInto_142 G Q lv st M → G 142 lv st M) (h158 : ∀ lv st M, BX9_readInto_158 G Q lv st M → G 158 lv st M) (as : List mV) (M : mM) (ho : ∀ v ∈ as, okV v) (hp : pre_X9_readInto as M) (hQ : Q (fn_X9_readInto as M).1 (fn_X9_readInto as M).2) : G 0 (inL as ++ List.replicate (6 - (inL as).length) none) [] M := by
  obtain ⟨c, q, k, rfl, hT, rfl⟩ := hp
  obtain rfl : c = 1 := k9 (ho (.inr (.inr (9, c))) (by simp))
  obtain rfl : q = 4 := k5 (ho (.inr (.inr (5, q))) (by simp))
  simp only [fn_X9_readInto, rd] at hQ
  have hTL : ∀ {M' M : mM}, TL M → M'.1 1 = M.1 1 → TL M' := by
    intro M' M h e
    unfold TL at h ⊢
    rw [e]
    exact h
  have inner : ∀ (n p fst : Nat) (M : mM), p + n = max p (nT M) → p < 1000 → fst ≤ p → TL M → (∀ (p2 : Nat) (M2 : mM), (p2, M2) = rrL fst n p M → G 142 [some (.inr (.inr (9, 1))), some (.inr (.inr (5, 4))), some (.inr (.inr (8, 7))), some (.inl (nI p2)), none, none] [] M2) → G 100 [some (.inr (.inr (9, 1))), some (.inr (.inr (5, 4))), some (.inr (.inr (8, 7))), some (.inl (nI p)), none, some (.inl (nI fst))] [] M := by
    intro n
    induction n with
    | zero =>
      intro p fst M hi h1000 hf hT hk
      obtain ⟨hz, ez⟩ := nT_e hT
      (apply h100; simp only [BX9_readInto_100, s_mth, s_mab, s_at, s_iconst, s_lconst, s_iload, s_lload, s_aload, s_istore, s_lstore, s_astore, s_iinc, s_bin, s_binG, s_un, s_lbin, s_lbinG, s_lsh, s_lcmp, s_i2l, s_l2i, s_dup, s_dup2, s_pop, s_if, s_icmp, s_geti, s_getl, s_getr, s_puti, s_putz, s_putl, s_iald, s_zald, s_iast, s_zast, s_aaldS, s_aaldU, s_gets, s_tald, s_tsw, tsw, s_iret, s_zret, s_lret, s_aret, s_vret, s_callV, s_callS, c1, nl1, keepL, csum, pushR, inL, List.getD_cons_zero, List.getD_cons_succ, List.set_cons_zero, List.set_cons_succ, List.cons_append, List.nil_append, List.append_nil, List.replicate, List.length_cons, List.length_nil, List.take_succ_cons, List.take_zero, List.drop_succ_cons, List.drop_zero, List.reverse_cons, List.reverse_nil, true_and, and_true, forall_const, not_true_eq_false, not_false_eq_true, false_implies, true_implies, implies_true, one0, m10, Nat.reduceAdd, Nat.reduceSub, Nat.reduceLeDiff, Nat.zero_add, Nat.add_zero, fn_X10_begin, fn_X5_setRate, fn_X9_figure])
      rw [ez]
      refine ⟨fun _ => hk p M rfl, fun h => absurd (nI_le (by omega) (by omega)) h⟩
    | succ n ih =>
      intro p fst M hi h1000 hf hT hk
      obtain ⟨hz, ez⟩ := nT_e hT
      have ep : (nI p).toNatClampNeg = p := nI_clamp (by omega)
      (apply h100; simp only [BX9_readInto_100, s_mth, s_mab, s_at, s_iconst, s_lconst, s_iload, s_lload, s_aload, s_istore, s_lstore, s_astore, s_iinc, s_bin, s_binG, s_un, s_lbin, s_lbinG, s_lsh, s_lcmp, s_i2l, s_l2i, s_dup, s_dup2, s_pop, s_if, s_icmp, s_geti, s_getl, s_getr, s_puti, s_putz, s_putl, s_iald, s_zald, s_iast, s_zast, s_aaldS, s_aaldU, s_gets, s_tald, s_tsw, tsw, s_iret, s_zret, s_lret, s_aret, s_vret, s_callV, s_callS, c1, nl1, keepL, csum, pushR, inL, List.getD_cons_zero, List.getD_cons_succ, List.set_cons_zero, List.set_cons_succ, List.cons_append, List.nil_append, List.append_nil, List.replicate, List.length_cons, List.length_nil, List.take_succ_cons, List.take_zero, List.drop_succ_cons, List.drop_zero, List.reverse_cons, List.reverse_nil, true_and, and_true, forall_const, not_true_eq_false, not_false_eq_true, false_implies, true_implies, implies_true, one0, m10, Nat.reduceAdd, Nat.reduceSub, Nat.reduceLeDiff, Nat.zero_add, Nat.add_zero, fn_X10_begin, fn_X5_setRate, fn_X9_figure])
      simp only [ez, l2, ep]
      refine ⟨fun h => absurd h (nI_ge (by omega) (by omega)), fun _ => ⟨vp_in_nI (by omega) (by decide), fun h => ?_, fun h => ?_⟩⟩
      · exact hk p M (by rw [rrL, if_pos h])
      · refine ⟨⟨_, _, rfl, hT, p, by omega, rfl⟩, ⟨_, _, _, _, rfl⟩, ?_⟩
        rw [nI_1]
        have e1 : (setR M (M.1 4 2) (nI p - nI fst) (fig M (nI p))).1 1 = M.1 1 := setR_n (by decide) (by decide)
        have e2 : nT (setR M (M.1 4 2) (nI p - nI fst) (fig M (nI p))) = nT M := by unfold nT; rw [e1]
        refine ih (p + 1) fst _ (by rw [e2]; omega) (by omega) (by omega) (hTL hT e1) fun p2 M2 e => ?_
        exact hk p2 M2 (by rw [e, rrL, if_neg h])
  have outer : ∀ (n p : Nat) (M : mM), p ≤ 90 → TL M → (∃ u, u + n = 6 ∧ u ≤ 5 ∧ M.1 4 2 = nI u) → Q none (rdL n p M) → G 39 [some (.inr (.inr (9, 1))), some (.inr (.inr (5, 4))), some (.inr (.inr (8, 7))), some (.inl (nI p)), none, none] [] M := by
    intro n
    induction n with
    | zero =>
      intro p M hp hT ⟨u, hu, h5, eu⟩ hq
      omega
    | succ n ih =>
      intro p M hp hT ⟨u, hu, h5, eu⟩ hq
      obtain ⟨hz, ez⟩ := nT_e hT
      have euc : (nI u).toNatClampNeg = u := nI_clamp (by omega)
      have E : Q none M → G 158 [none, none, none, none, none, none] [] M := by
        intro hq
        (apply h158; simp only [BX9_readInto_158, s_mth, s_mab, s_at, s_iconst, s_lconst, s_iload, s_lload, s_aload, s_istore, s_lstore, s_astore, s_iinc, s_bin, s_binG, s_un, s_lbin, s_lbinG, s_lsh, s_lcmp, s_i2l, s_l2i, s_dup, s_dup2, s_pop, s_if, s_icmp, s_geti, s_getl, s_getr, s_puti, s_putz, s_putl, s_iald, s_zald, s_iast, s_zast, s_aaldS, s_aaldU, s_gets, s_tald, s_tsw, tsw, s_iret, s_zret, s_lret, s_aret, s_vret, s_callV, s_callS, c1, nl1, keepL, csum, pushR, inL, List.getD_cons_zero, List.getD_cons_succ, List.set_cons_zero, List.set_cons_succ, List.cons_append, List.nil_append, List.append_nil, List.replicate, List.length_cons, List.length_nil, List.take_succ_cons, List.take_zero, List.drop_succ_cons, List.drop_zero, List.reverse_cons, List.reverse_nil, true_and, and_true, forall_const, not_true_eq_false, not_false_eq_true, false_implies, true_implies, implies_true, one0, m10, Nat.reduceAdd, Nat.reduceSub, Nat.reduceLeDiff, Nat.zero_add, Nat.add_zero, fn_X10_begin, fn_X5_setRate, fn_X9_figure])
        exact hq
      (apply h39; simp only [BX9_readInto_39, s_mth, s_mab, s_at, s_iconst, s_lconst, s_iload, s_lload, s_aload, s_istore, s_lstore, s_astore, s_iinc, s_bin, s_binG, s_un, s_lbin, s_lbinG, s_lsh, s_lcmp, s_i2l, s_l2i, s_dup, s_dup2, s_pop, s_if, s_icmp, s_geti, s_getl, s_getr, s_puti, s_putz, s_putl, s_iald, s_zald, s_iast, s_zast, s_aaldS, s_aaldU, s_gets, s_tald, s_tsw, tsw, s_iret, s_zret, s_lret, s_aret, s_vret, s_callV, s_callS, c1, nl1, keepL, csum, pushR, inL, List.getD_cons_zero, List.getD_cons_succ, List.set_cons_zero, List.set_cons_succ, List.cons_append, List.nil_append, List.append_nil, List.replicate, List.length_cons, List.length_nil, List.take_succ_cons, List.take_zero, List.drop_succ_cons, List.drop_zero, List.reverse_cons, List.reverse_nil, true_and, and_true, forall_const, not_true_eq_false, not_false_eq_true, false_implies, true_implies, implies_true, one0, m10, Nat.reduceAdd, Nat.reduceSub, Nat.reduceLeDiff, Nat.zero_add, Nat.add_zero, fn_X10_begin, fn_X5_setRate, fn_X9_figure])
      simp only [ez, l8, eu, euc]
      refine ⟨fun h => ?_, fun h => ⟨fun h2 => ?_, fun h2 => ?_⟩⟩
      · refine E ?_
        rcases Nat.lt_or_ge p (nT M) with g | g
        · exact absurd h (nI_ge g (by omega))
        · rw [rdL, if_pos g] at hq
          exact hq
      · refine E ?_
        rw [rdL] at hq
        split at hq
        · exact hq
        · rw [eu, if_pos h2] at hq
          exact hq
      · have hu5 : u < 5 := by
          rcases Nat.lt_or_ge u 5 with g | g
          · exact g
          · exact absurd (nI_le (a := 5) g (by omega)) h2
        have hpT : p < nT M := by
          rcases Nat.lt_or_ge p (nT M) with g | g
          · exact g
          · exact absurd (nI_le g (by omega)) h
        rw [rdL, if_neg (by omega), eu, if_neg h2] at hq
        have a1 : nI p + 1 = nI (p + 1) := nI_add p 1
        have a2 : nI p + 2 = nI (p + 2) := nI_add p 2
        have a3 : nI p + 3 = nI (p + 3) := nI_add p 3
        have a4 : nI p + 4 = nI (p + 4) := nI_add p 4
        rw [a1, a2, a3, a4]
        refine ⟨vp_in_nI hu5 (by decide), ⟨_, _, rfl, hT, p + 1, by omega, rfl⟩, ⟨_, _, rfl, hT, p + 2, by omega, rfl⟩, ⟨_, _, rfl, hT, p + 3, by omega, rfl⟩, ⟨_, _, _, _, rfl⟩, ?_⟩
        have eB : rdB M p = mset (mset (mset (mset (mset (mset (mset (mset (mset (mset M (9 + u) 0 (fig M (nI (p + 1)))) (9 + u) 1 (fig M (nI (p + 2)))) (9 + u) 2 (fig M (nI (p + 3)))) (9 + u) 3 0) (9 + u) 4 0) (9 + u) 5 0) (9 + u) 6 0) (9 + u) 7 0) (9 + u) 8 0) (9 + u) 9 0 := by
          unfold rdB bgn
          rw [eu, euc]
        rw [← eB]
        have b1 : (rdB M p).1 1 = M.1 1 := bgn_n (by omega)
        have b4 : (rdB M p).1 4 = M.1 4 := bgn_n (by omega)
        have bT : nT (rdB M p) = nT M := by unfold nT; rw [b1]
        refine inner (nT M - (p + 4)) (p + 4) (p + 4) _ (by rw [bT]; omega) (by omega) (Nat.le_refl _) (hTL hT b1) fun p2 M2 e => ?_
        have r1 := rrL_n (a := 1) (by decide) (by decide) (fst := p + 4) (nT M - (p + 4)) (p + 4) (rdB M p)
        have r4 := rrL_n (a := 4) (by decide) (by decide) (fst := p + 4) (nT M - (p + 4)) (p + 4) (rdB M p)
        have eI : rdI M p = (p2, M2) := e.symm
        rw [eI] at hq
        rw [← e] at r1 r4
        simp only at r1 r4 hq
        (apply h142; simp only [BX9_readInto_142, s_mth, s_mab, s_at, s_iconst, s_lconst, s_iload, s_lload, s_aload, s_istore, s_lstore, s_astore, s_iinc, s_bin, s_binG, s_un, s_lbin, s_lbinG, s_lsh, s_lcmp, s_i2l, s_l2i, s_dup, s_dup2, s_pop, s_if, s_icmp, s_geti, s_getl, s_getr, s_puti, s_putz, s_putl, s_iald, s_zald, s_iast, s_zast, s_aaldS, s_aaldU, s_gets, s_tald, s_tsw, tsw, s_iret, s_zret, s_lret, s_aret, s_vret, s_callV, s_callS, c1, nl1, keepL, csum, pushR, inL, List.getD_cons_zero, List.getD_cons_succ, List.set_cons_zero, List.set_cons_succ, List.cons_append, List.nil_append, List.append_nil, List.replicate, List.length_cons, List.length_nil, List.take_succ_cons, List.take_zero, List.drop_succ_cons, List.drop_zero, List.reverse_cons, List.reverse_nil, true_and, and_true, forall_const, not_true_eq_false, not_false_eq_true, false_implies, true_implies, implies_true, one0, m10, Nat.reduceAdd, Nat.reduceSub, Nat.reduceLeDiff, Nat.zero_add, Nat.add_zero, fn_X10_begin, fn_X5_setRate, fn_X9_figure])
        rw [nI_1]
        refine ih (p2 + 1) _ (by omega) ?_ ⟨u + 1, by omega, by omega, ?_⟩ hq
        · exact hTL hT ((mset_n (by decide)).trans (r1.1.trans b1))
        · rw [mset_s, r4.1, b4, eu, nI_1]
  obtain ⟨hz, ez⟩ := nT_e hT
  have t1 : ∀ {v : Int32}, TL (mset M 4 0 v) := hTL hT (mset_n (by decide))
  have t2 : ∀ {v w : Int32}, TL (mset (mset M 4 0 v) 4 1 w) := hTL t1 (mset_n (by decide))
  have t3 : ∀ {v w x : Int32}, TL (mset (mset (mset M 4 0 v) 4 1 w) 4 2 x) := hTL t2 (mset_n (by decide))
  have f1 : ∀ {v p : Int32}, fig (mset M 4 0 v) p = fig M p := by intro v p; unfold fig; rw [mset_n (by decide), mset_n (by decide)]
  have f3 : ∀ {v w x p : Int32}, fig (mset (mset (mset M 4 0 v) 4 1 w) 4 2 x) p = fig M p := by intro v w x p; unfold fig; rw [mset_n (by decide), mset_n (by decide), mset_n (by decide), mset_n (by decide), mset_n (by decide), mset_n (by decide)]
  (apply h0; simp only [BX9_readInto_0, s_mth, s_mab, s_at, s_iconst, s_lconst, s_iload, s_lload, s_aload, s_istore, s_lstore, s_astore, s_iinc, s_bin, s_binG, s_un, s_lbin, s_lbinG, s_lsh, s_lcmp, s_i2l, s_l2i, s_dup, s_dup2, s_pop, s_if, s_icmp, s_geti, s_getl, s_getr, s_puti, s_putz, s_putl, s_iald, s_zald, s_iast, s_zast, s_aaldS, s_aaldU, s_gets, s_tald, s_tsw, tsw, s_iret, s_zret, s_lret, s_aret, s_vret, s_callV, s_callS, c1, nl1, keepL, csum, pushR, inL, List.getD_cons_zero, List.getD_cons_succ, List.set_cons_zero, List.set_cons_succ, List.cons_append, List.nil_append, List.append_nil, List.replicate, List.length_cons, List.length_nil, List.take_succ_cons, List.take_zero, List.drop_succ_cons, List.drop_zero, List.reverse_cons, List.reverse_nil, true_and, and_true, forall_const, not_true_eq_false, not_false_eq_true, false_implies, true_implies, implies_true, one0, m10, Nat.reduceAdd, Nat.reduceSub, Nat.reduceLeDiff, Nat.zero_add, Nat.add_zero, fn_X10_begin, fn_X5_setRate, fn_X9_figure])
  refine ⟨⟨_, _, rfl, hT, 1, by decide, rfl⟩, ⟨_, _, rfl, t1, 2, by decide, rfl⟩, ⟨_, _, rfl, t3, 3, by decide, rfl⟩, ?_⟩
  rw [f1, f3]
  refine outer 6 4 (rd0 M) (by decide) ?_ ⟨0, by decide, by decide, ?_⟩ hQ
  · unfold rd0
    exact hTL (hTL t3 (mset_n (by decide))) (mset_n (by decide))
  · unfold rd0
    rw [mset_n (by decide), mset_n (by decide), mset_s]
    rfl
theorem ct_X9_readInto (l : Launch) : Con l yX9_readInto cX9_readInto 6 (Option.none : Option FieldType) 2 pre_X9_readInto fn_X9_readInto := con_of (by decide +kernel) ok_X9_readInto len_X9_readInto (fun p e s m args below meth c D ca ad A as M hX hr hp ho => pf_X9_readInto _ _ (bsX9_readInto_0 hX hr) (bsX9_readInto_39 hX hr) (bsX9_readInto_100 hX hr) (bsX9_readInto_142 hX hr) (bsX9_readInto_158 hX hr) as M ho hp ⟨rfl, rfl⟩)
