/-! Standing, Plan, Acts, Bench, Text -/
theorem lnU {k : Nat} (h : kof k = 8) : ln (k + 1) = 5 := by
  have g : ∀ k, k < 178 → kof k = 8 → ln (k + 1) = 5 := by decide +kernel
  exact g k (kof_lt (by omega)) h
theorem k5 {k : Nat} (h : kof k = 5) : k = 4 := by
  have g : ∀ k, k < 178 → kof k = 5 → k = 4 := by decide +kernel
  exact g k (kof_lt (by omega)) h
theorem k0 {k : Nat} (h : kof k = 0) : k = 26 := by
  have g : ∀ k, k < 178 → kof k = 0 → k = 26 := by decide +kernel
  exact g k (kof_lt (by omega)) h
theorem k9 {k : Nat} (h : kof k = 9) : k = 1 := by
  have g : ∀ k, k < 178 → kof k = 9 → k = 1 := by decide +kernel
  exact g k (kof_lt (by omega)) h
theorem kU {k i : Nat} (h : kof k = 8) (hi : i < 5) : kof (k + 1 + 1 + i) = 10 := by
  have hlt := kof_lt (k := k) (by omega)
  exact okU (k + 1) (kof_lt (by rw [okA k hlt h]; decide)) (okA k hlt h) i (by rw [lnU h]; exact hi)
def OF (M : mM) : Prop := ∀ k, kof k = 10 → M.1 k 3 = 0 ∨ M.1 k 3 = 1
theorem cpU_get {M : mM} {k o a b : Nat} : (cpU M k o).1 a b = if a = k ∧ b < 10 then M.1 o b else M.1 a b := by
  by_cases ha : a = k
  · subst ha
    by_cases hb : b < 10
    · have : b = 0 ∨ b = 1 ∨ b = 2 ∨ b = 3 ∨ b = 4 ∨ b = 5 ∨ b = 6 ∨ b = 7 ∨ b = 8 ∨ b = 9 := by omega
      rcases this with rfl | rfl | rfl | rfl | rfl | rfl | rfl | rfl | rfl | rfl <;> simp [cpU, mset_get]
    · have h0 : b ≠ 0 := by omega
      have h1 : b ≠ 1 := by omega
      have h2 : b ≠ 2 := by omega
      have h3 : b ≠ 3 := by omega
      have h4 : b ≠ 4 := by omega
      have h5 : b ≠ 5 := by omega
      have h6 : b ≠ 6 := by omega
      have h7 : b ≠ 7 := by omega
      have h8 : b ≠ 8 := by omega
      have h9 : b ≠ 9 := by omega
      simp [cpU, mset_get, *]
  · simp [cpU, mset_get, ha]
theorem cpU_2 {M : mM} {k o : Nat} : (cpU M k o).2 = M.2 := rfl
theorem OF_cpU {M : mM} {k o : Nat} (h : OF M) (ho : kof o = 10) : OF (cpU M k o) := by
  intro a ha
  rw [cpU_get]
  split
  · exact h o ho
  · exact h a ha
def cpL (M : mM) (k o n i : Nat) : mM := itr (fun i M => cpU M (k + 1 + 1 + i) (o + 1 + 1 + i)) i n M
def stc (M : mM) (k o : Nat) : mM := mset (mset (cpL M k o 5 0) k 1 ((cpL M k o 5 0).1 o 1)) k 2 ((cpL M k o 5 0).1 o 2)
def pre_X8_copyFrom (as : List mV) (M : mM) : Prop := ∃ k o, as = [.inr (.inr (8, k)), .inr (.inr (8, o))] ∧ OF M
def fn_X8_copyFrom : List mV → mM → Option mV × mM
  | [.inr (.inr (_, k)), .inr (.inr (_, o))], M => (none, stc M k o)
  | _, M => (none, M)
theorem ok_X8_copyFrom (as : List mV) (M : mM) (h : pre_X8_copyFrom as M) (_ : ∀ v ∈ as, okV v) : okR (fn_X8_copyFrom as M).1 := by
  obtain ⟨k, o, rfl, -⟩ := h
  first | trivial | exact (by decide +kernel : kof 14 = 8)
theorem len_X8_copyFrom (as : List mV) (M : mM) (h : pre_X8_copyFrom as M) : (inL as).length ≤ 3 := by
  obtain ⟨k, o, rfl, -⟩ := h
  exact Nat.le_of_ble_eq_true rfl

theorem fl_142 : FLk "FairBlocks$Standing" 11 8 0 19 := ⟨RX8, TX8, 3, rfl, inX8, by decide, w_142, by decide, rfl⟩
theorem fl_150 : FLk "FairBlocks$Standing" 17 8 1 0 := ⟨RX8, TX8, 3, rfl, inX8, by decide, w_150, by decide, rfl⟩
theorem fl_154 : FLk "FairBlocks$Standing" 21 8 2 0 := ⟨RX8, TX8, 3, rfl, inX8, by decide, w_154, by decide, rfl⟩
theorem fp_150 : FPk "FairBlocks$Standing" 17 8 1 0 .int := ⟨RX8, TX8, 3, tyX8, rfl, inX8, by decide, w_150, by decide, rfl, tyX8_ok, nmX8, rfl, rfl⟩
theorem fp_154 : FPk "FairBlocks$Standing" 21 8 2 0 .int := ⟨RX8, TX8, 3, tyX8, rfl, inX8, by decide, w_154, by decide, rfl, tyX8_ok, nmX8, rfl, rfl⟩
theorem dX8_copyFrom_0 : decode cX8_copyFrom 0 = .ok (.iconst 0, 1) := by decide +kernel
theorem dX8_copyFrom_1 : decode cX8_copyFrom 1 = .ok (.istore_n 2, 1) := by decide +kernel
theorem dX8_copyFrom_2 : decode cX8_copyFrom 2 = .ok (.iload_n 2, 1) := by decide +kernel
theorem dX8_copyFrom_3 : decode cX8_copyFrom 3 = .ok (.iconst 5, 1) := by decide +kernel
theorem dX8_copyFrom_4 : decode cX8_copyFrom 4 = .ok (.if_icmp .ge 24, 3) := by decide +kernel
theorem dX8_copyFrom_7 : decode cX8_copyFrom 7 = .ok (.aload_n 0, 1) := by decide +kernel
theorem dX8_copyFrom_8 : decode cX8_copyFrom 8 = .ok (.getfield 11, 3) := by decide +kernel
theorem dX8_copyFrom_11 : decode cX8_copyFrom 11 = .ok (.iload_n 2, 1) := by decide +kernel
theorem dX8_copyFrom_12 : decode cX8_copyFrom 12 = .ok (.aaload, 1) := by decide +kernel
theorem dX8_copyFrom_13 : decode cX8_copyFrom 13 = .ok (.aload_n 1, 1) := by decide +kernel
theorem dX8_copyFrom_14 : decode cX8_copyFrom 14 = .ok (.getfield 11, 3) := by decide +kernel
theorem dX8_copyFrom_17 : decode cX8_copyFrom 17 = .ok (.iload_n 2, 1) := by decide +kernel
theorem dX8_copyFrom_18 : decode cX8_copyFrom 18 = .ok (.aaload, 1) := by decide +kernel
theorem dX8_copyFrom_19 : decode cX8_copyFrom 19 = .ok (.invokevirtual 25, 3) := by decide +kernel
theorem dX8_copyFrom_22 : decode cX8_copyFrom 22 = .ok (.iinc 2 1, 3) := by decide +kernel
theorem dX8_copyFrom_25 : decode cX8_copyFrom 25 = .ok (.goto (-23), 3) := by decide +kernel
theorem dX8_copyFrom_28 : decode cX8_copyFrom 28 = .ok (.aload_n 0, 1) := by decide +kernel
theorem dX8_copyFrom_29 : decode cX8_copyFrom 29 = .ok (.aload_n 1, 1) := by decide +kernel
theorem dX8_copyFrom_30 : decode cX8_copyFrom 30 = .ok (.getfield 17, 3) := by decide +kernel
theorem dX8_copyFrom_33 : decode cX8_copyFrom 33 = .ok (.putfield 17, 3) := by decide +kernel
theorem dX8_copyFrom_36 : decode cX8_copyFrom 36 = .ok (.aload_n 0, 1) := by decide +kernel
theorem dX8_copyFrom_37 : decode cX8_copyFrom 37 = .ok (.aload_n 1, 1) := by decide +kernel
theorem dX8_copyFrom_38 : decode cX8_copyFrom 38 = .ok (.getfield 21, 3) := by decide +kernel
theorem dX8_copyFrom_41 : decode cX8_copyFrom 41 = .ok (.putfield 21, 3) := by decide +kernel
theorem dX8_copyFrom_44 : decode cX8_copyFrom 44 = .ok (.return_, 1) := by decide +kernel
theorem mk_X8_copyFrom : MVk yX8_copyFrom "FairBlocks$Standing" cX8_copyFrom 3 (Option.none : Option FieldType) 1 := ⟨w_420, w_418, w_419, w_5, rfl, by decide +kernel, by decide +kernel, by decide +kernel⟩
def BX8_copyFrom_0 (G : Nat → KT) (Q : Option mV → mM → Prop) : KT := (s_iconst (0) (s_istore 2 (s_at G 2 [true, true, true])))
set_option maxRecDepth 4000 in
theorem bsX8_copyFrom_0 {p : Program} {l : Launch} {e : Env} {s : State} {m : MethodId} {args : Array Value} {below : List Frame} {meth : Method} {c : Code} {D : va_G} {ca : Nat → ClassId} {ad : Nat → Nat} {A : Nat → Prop} {Q : Option mV → mM → Prop} (hX : CX p s m args meth c 3 cX8_copyFrom "FairBlocks$Standing" D ca ad A) (hr : meth.sig.returnType = (Option.none : Option FieldType)) : ∀ lv st M, BX8_copyFrom_0 (Gd p l e (rmD 1) s m args below meth c 3 D ca ad A 0 0 (MQ below (QC D ca ad A Q) args s 0 0 A)) Q lv st M → Gd p l e (rmD 1) s m args below meth c 3 D ca ad A 0 0 (MQ below (QC D ca ad A Q) args s 0 0 A) 0 lv st M :=
  (sd_iconst hX dX8_copyFrom_0 rfl (sd_istore_n hX (by decide) dX8_copyFrom_1 rfl sd_at))
def BX8_copyFrom_2 (G : Nat → KT) (Q : Option mV → mM → Prop) : KT := (s_iload 2 (s_iconst (5) (s_icmp (fun x y => y ≤ x) (s_at G 28 [true, true, false]) (s_aload 0 (s_getr 8 16 (fun k => k + 1) (s_iload 2 (s_aaldU (s_aload 1 (s_getr 8 16 (fun k => k + 1) (s_iload 2 (s_aaldU (s_callV 10 1 pre_X10_copyFrom fn_X10_copyFrom (s_iinc 2 (1) (s_at G 2 [true, true, true]))))))))))))))
set_option maxRecDepth 4000 in
theorem bsX8_copyFrom_2 {p : Program} {l : Launch} {e : Env} {s : State} {m : MethodId} {args : Array Value} {below : List Frame} {meth : Method} {c : Code} {D : va_G} {ca : Nat → ClassId} {ad : Nat → Nat} {A : Nat → Prop} {Q : Option mV → mM → Prop} (hX : CX p s m args meth c 3 cX8_copyFrom "FairBlocks$Standing" D ca ad A) (hr : meth.sig.returnType = (Option.none : Option FieldType)) : ∀ lv st M, BX8_copyFrom_2 (Gd p l e (rmD 1) s m args below meth c 3 D ca ad A 0 0 (MQ below (QC D ca ad A Q) args s 0 0 A)) Q lv st M → Gd p l e (rmD 1) s m args below meth c 3 D ca ad A 0 0 (MQ below (QC D ca ad A Q) args s 0 0 A) 2 lv st M :=
  (sd_iload_n hX dX8_copyFrom_2 rfl (sd_iconst hX dX8_copyFrom_3 rfl (sd_icmp_ge hX dX8_copyFrom_4 (by decide) sd_at (sd_aload_n hX dX8_copyFrom_7 rfl (sd_getr hX fl_142 (fun _ => rfl) okA dX8_copyFrom_8 (sd_iload_n hX dX8_copyFrom_11 rfl (sd_aaldU hX dX8_copyFrom_12 (sd_aload_n hX dX8_copyFrom_13 rfl (sd_getr hX fl_142 (fun _ => rfl) okA dX8_copyFrom_14 (sd_iload_n hX dX8_copyFrom_17 rfl (sd_aaldU hX dX8_copyFrom_18 (sd_callV hX (kd := 10) rfl (by decide) (ct_X10_copyFrom l) mk_X10_copyFrom w_421 ⟨⟨by decide, by decide⟩, by decide, by decide⟩ dX8_copyFrom_19 (sd_iinc hX (by decide) dX8_copyFrom_22 rfl (sd_goto hX dX8_copyFrom_25 (by decide) sd_at))))))))))))))
def BX8_copyFrom_28 (G : Nat → KT) (Q : Option mV → mM → Prop) : KT := (s_aload 0 (s_aload 1 (s_geti 8 1 (s_puti 8 1 (s_aload 0 (s_aload 1 (s_geti 8 2 (s_puti 8 2 (s_vret Q)))))))))
set_option maxRecDepth 4000 in
theorem bsX8_copyFrom_28 {p : Program} {l : Launch} {e : Env} {s : State} {m : MethodId} {args : Array Value} {below : List Frame} {meth : Method} {c : Code} {D : va_G} {ca : Nat → ClassId} {ad : Nat → Nat} {A : Nat → Prop} {Q : Option mV → mM → Prop} (hX : CX p s m args meth c 3 cX8_copyFrom "FairBlocks$Standing" D ca ad A) (hr : meth.sig.returnType = (Option.none : Option FieldType)) : ∀ lv st M, BX8_copyFrom_28 (Gd p l e (rmD 1) s m args below meth c 3 D ca ad A 0 0 (MQ below (QC D ca ad A Q) args s 0 0 A)) Q lv st M → Gd p l e (rmD 1) s m args below meth c 3 D ca ad A 0 0 (MQ below (QC D ca ad A Q) args s 0 0 A) 28 lv st M :=
  (sd_aload_n hX dX8_copyFrom_28 rfl (sd_aload_n hX dX8_copyFrom_29 rfl (sd_geti hX fl_150 (by decide) dX8_copyFrom_30 (sd_puti hX fp_150 dX8_copyFrom_33 (sd_aload_n hX dX8_copyFrom_36 rfl (sd_aload_n hX dX8_copyFrom_37 rfl (sd_geti hX fl_154 (by decide) dX8_copyFrom_38 (sd_puti hX fp_154 dX8_copyFrom_41 (sd_vret hX hr dX8_copyFrom_44)))))))))
set_option maxHeartbeats 400000 in
theorem pf_X8_copyFrom (G : Nat → KT) (Q : Option mV → mM → Prop) (h0 : ∀ lv st M, BX8_copyFrom_0 G Q lv st M → G 0 lv st M) (h2 : ∀ lv st M, BX8_copyFrom_2 G Q lv st M → G 2 lv st M) (h28 : ∀ lv st M, BX8_copyFrom_28 G Q lv st M → G 28 lv st M) (as : List mV) (M : mM) (ho : ∀ v ∈ as, okV v) (hp : pre_X8_copyFrom as M) (hQ : Q (fn_X8_copyFrom as M).1 (fn_X8_copyFrom as M).2) : G 0 (inL as ++ List.replicate (3 - (inL as).length) none) [] M := by
  obtain ⟨k, o, rfl, hOF⟩ := hp
  have hk : kof k = 8 := ho (.inr (.inr (8, k))) (by simp)
  have hko : kof o = 8 := ho (.inr (.inr (8, o))) (by simp)
  have hl1 := lnU hk
  have hl2 := lnU hko
  have loop : ∀ (n i : Nat) (M : mM), i + n = 5 → OF M → Q none (mset (mset (cpL M k o n i) k 1 ((cpL M k o n i).1 o 1)) k 2 ((cpL M k o n i).1 o 2)) → G 2 [some (.inr (.inr (8, k))), some (.inr (.inr (8, o))), some (.inl (nI i))] [] M := by
    intro n
    induction n with
    | zero =>
      intro i M hi hF hq
      obtain rfl : i = 5 := by omega
      (apply h2; simp only [BX8_copyFrom_2, s_mth, s_mab, s_at, s_iconst, s_lconst, s_iload, s_lload, s_aload, s_istore, s_lstore, s_astore, s_iinc, s_bin, s_binG, s_un, s_lbin, s_lbinG, s_lsh, s_lcmp, s_i2l, s_l2i, s_dup, s_dup2, s_pop, s_if, s_icmp, s_geti, s_getl, s_getr, s_puti, s_putz, s_putl, s_iald, s_zald, s_iast, s_zast, s_aaldS, s_aaldU, s_gets, s_tald, s_tsw, tsw, s_iret, s_zret, s_lret, s_aret, s_vret, s_callV, s_callS, c1, nl1, keepL, csum, pushR, inL, List.getD_cons_zero, List.getD_cons_succ, List.set_cons_zero, List.set_cons_succ, List.cons_append, List.nil_append, List.append_nil, List.replicate, List.length_cons, List.length_nil, List.take_succ_cons, List.take_zero, List.drop_succ_cons, List.drop_zero, List.reverse_cons, List.reverse_nil, true_and, and_true, forall_const, not_true_eq_false, not_false_eq_true, false_implies, true_implies, implies_true, one0, m10, Nat.reduceAdd, Nat.reduceSub, Nat.reduceLeDiff, Nat.zero_add, Nat.add_zero, fn_X10_copyFrom])
      refine ⟨fun _ => ?_, fun h => absurd (nI_le (Nat.le_refl 5) (by decide)) h⟩
      (apply h28; simp only [BX8_copyFrom_28, s_mth, s_mab, s_at, s_iconst, s_lconst, s_iload, s_lload, s_aload, s_istore, s_lstore, s_astore, s_iinc, s_bin, s_binG, s_un, s_lbin, s_lbinG, s_lsh, s_lcmp, s_i2l, s_l2i, s_dup, s_dup2, s_pop, s_if, s_icmp, s_geti, s_getl, s_getr, s_puti, s_putz, s_putl, s_iald, s_zald, s_iast, s_zast, s_aaldS, s_aaldU, s_gets, s_tald, s_tsw, tsw, s_iret, s_zret, s_lret, s_aret, s_vret, s_callV, s_callS, c1, nl1, keepL, csum, pushR, inL, List.getD_cons_zero, List.getD_cons_succ, List.set_cons_zero, List.set_cons_succ, List.cons_append, List.nil_append, List.append_nil, List.replicate, List.length_cons, List.length_nil, List.take_succ_cons, List.take_zero, List.drop_succ_cons, List.drop_zero, List.reverse_cons, List.reverse_nil, true_and, and_true, forall_const, not_true_eq_false, not_false_eq_true, false_implies, true_implies, implies_true, one0, m10, Nat.reduceAdd, Nat.reduceSub, Nat.reduceLeDiff, Nat.zero_add, Nat.add_zero, fn_X10_copyFrom])
      simp [mset_get]
      exact hq
    | succ n ih =>
      intro i M hi hF hq
      (apply h2; simp only [BX8_copyFrom_2, s_mth, s_mab, s_at, s_iconst, s_lconst, s_iload, s_lload, s_aload, s_istore, s_lstore, s_astore, s_iinc, s_bin, s_binG, s_un, s_lbin, s_lbinG, s_lsh, s_lcmp, s_i2l, s_l2i, s_dup, s_dup2, s_pop, s_if, s_icmp, s_geti, s_getl, s_getr, s_puti, s_putz, s_putl, s_iald, s_zald, s_iast, s_zast, s_aaldS, s_aaldU, s_gets, s_tald, s_tsw, tsw, s_iret, s_zret, s_lret, s_aret, s_vret, s_callV, s_callS, c1, nl1, keepL, csum, pushR, inL, List.getD_cons_zero, List.getD_cons_succ, List.set_cons_zero, List.set_cons_succ, List.cons_append, List.nil_append, List.append_nil, List.replicate, List.length_cons, List.length_nil, List.take_succ_cons, List.take_zero, List.drop_succ_cons, List.drop_zero, List.reverse_cons, List.reverse_nil, true_and, and_true, forall_const, not_true_eq_false, not_false_eq_true, false_implies, true_implies, implies_true, one0, m10, Nat.reduceAdd, Nat.reduceSub, Nat.reduceLeDiff, Nat.zero_add, Nat.add_zero, fn_X10_copyFrom])
      refine ⟨fun h => absurd h (nI_ge (b := 5) (by omega) (by decide)), fun _ => ?_⟩
      rw [nI_clamp (by omega : i < 2 ^ 31), nI_1, hl1, hl2]
      refine ⟨vp_in_nI (by omega) (by decide), vp_in_nI (by omega) (by decide), ⟨_, _, rfl, hF _ (kU hko (by omega))⟩, ?_⟩
      exact ih (i + 1) _ (by omega) (OF_cpU hF (kU hko (by omega))) hq
  (apply h0; simp only [BX8_copyFrom_0, s_mth, s_mab, s_at, s_iconst, s_lconst, s_iload, s_lload, s_aload, s_istore, s_lstore, s_astore, s_iinc, s_bin, s_binG, s_un, s_lbin, s_lbinG, s_lsh, s_lcmp, s_i2l, s_l2i, s_dup, s_dup2, s_pop, s_if, s_icmp, s_geti, s_getl, s_getr, s_puti, s_putz, s_putl, s_iald, s_zald, s_iast, s_zast, s_aaldS, s_aaldU, s_gets, s_tald, s_tsw, tsw, s_iret, s_zret, s_lret, s_aret, s_vret, s_callV, s_callS, c1, nl1, keepL, csum, pushR, inL, List.getD_cons_zero, List.getD_cons_succ, List.set_cons_zero, List.set_cons_succ, List.cons_append, List.nil_append, List.append_nil, List.replicate, List.length_cons, List.length_nil, List.take_succ_cons, List.take_zero, List.drop_succ_cons, List.drop_zero, List.reverse_cons, List.reverse_nil, true_and, and_true, forall_const, not_true_eq_false, not_false_eq_true, false_implies, true_implies, implies_true, one0, m10, Nat.reduceAdd, Nat.reduceSub, Nat.reduceLeDiff, Nat.zero_add, Nat.add_zero, fn_X10_copyFrom])
  exact loop 5 0 M rfl hOF hQ
theorem ct_X8_copyFrom (l : Launch) : Con l yX8_copyFrom cX8_copyFrom 3 (Option.none : Option FieldType) 1 pre_X8_copyFrom fn_X8_copyFrom := con_of (by decide +kernel) ok_X8_copyFrom len_X8_copyFrom (fun p e s m args below meth c D ca ad A as M hX hr hp ho => pf_X8_copyFrom _ _ (bsX8_copyFrom_0 hX hr) (bsX8_copyFrom_2 hX hr) (bsX8_copyFrom_28 hX hr) as M ho hp ⟨rfl, rfl⟩)
def offS (M : mM) (k i : Nat) (b : Int32) : Int32 := b ||| (if M.1 (k + 1 + 1 + i) 3 = 0 then (0 : Int32) else (1 : Int32) <<< (nI i &&& 31))
def pre_X8_offBits (as : List mV) (M : mM) : Prop := ∃ k x, as = [.inr (.inr (8, k)), .inl x] ∧ ∃ n, n ≤ 5 ∧ x = nI n
def fn_X8_offBits : List mV → mM → Option mV × mM
  | [.inr (.inr (_, k)), .inl x], M => (some (.inl (itr (offS M k) 0 x.toNatClampNeg 0)), M)
  | _, M => (none, M)
theorem ok_X8_offBits (as : List mV) (M : mM) (h : pre_X8_offBits as M) (_ : ∀ v ∈ as, okV v) : okR (fn_X8_offBits as M).1 := by
  obtain ⟨k, x, rfl, -⟩ := h
  first | trivial | exact (by decide +kernel : kof 14 = 8)
theorem len_X8_offBits (as : List mV) (M : mM) (h : pre_X8_offBits as M) : (inL as).length ≤ 4 := by
  obtain ⟨k, x, rfl, -⟩ := h
  exact Nat.le_of_ble_eq_true rfl

theorem fl_101 : FLk "FairBlocks$Standing" 29 10 3 1 := ⟨RX10, TX10, 10, rfl, inX10, by decide, w_101, by decide, rfl⟩
theorem dX8_offBits_0 : decode cX8_offBits 0 = .ok (.iconst 0, 1) := by decide +kernel
theorem dX8_offBits_1 : decode cX8_offBits 1 = .ok (.istore_n 2, 1) := by decide +kernel
theorem dX8_offBits_2 : decode cX8_offBits 2 = .ok (.iconst 0, 1) := by decide +kernel
theorem dX8_offBits_3 : decode cX8_offBits 3 = .ok (.istore_n 3, 1) := by decide +kernel
theorem dX8_offBits_4 : decode cX8_offBits 4 = .ok (.iload_n 3, 1) := by decide +kernel
theorem dX8_offBits_5 : decode cX8_offBits 5 = .ok (.iload_n 1, 1) := by decide +kernel
theorem dX8_offBits_6 : decode cX8_offBits 6 = .ok (.if_icmp .ge 36, 3) := by decide +kernel
theorem dX8_offBits_9 : decode cX8_offBits 9 = .ok (.iload_n 3, 1) := by decide +kernel
theorem dX8_offBits_10 : decode cX8_offBits 10 = .ok (.iconst 5, 1) := by decide +kernel
theorem dX8_offBits_11 : decode cX8_offBits 11 = .ok (.if_icmp .ge 31, 3) := by decide +kernel
theorem dX8_offBits_14 : decode cX8_offBits 14 = .ok (.iload_n 2, 1) := by decide +kernel
theorem dX8_offBits_15 : decode cX8_offBits 15 = .ok (.aload_n 0, 1) := by decide +kernel
theorem dX8_offBits_16 : decode cX8_offBits 16 = .ok (.getfield 11, 3) := by decide +kernel
theorem dX8_offBits_19 : decode cX8_offBits 19 = .ok (.iload_n 3, 1) := by decide +kernel
theorem dX8_offBits_20 : decode cX8_offBits 20 = .ok (.aaload, 1) := by decide +kernel
theorem dX8_offBits_21 : decode cX8_offBits 21 = .ok (.getfield 29, 3) := by decide +kernel
theorem dX8_offBits_24 : decode cX8_offBits 24 = .ok (.ifCond .eq 9, 3) := by decide +kernel
theorem dX8_offBits_27 : decode cX8_offBits 27 = .ok (.iconst 1, 1) := by decide +kernel
theorem dX8_offBits_28 : decode cX8_offBits 28 = .ok (.iload_n 3, 1) := by decide +kernel
theorem dX8_offBits_29 : decode cX8_offBits 29 = .ok (.ishl, 1) := by decide +kernel
theorem dX8_offBits_30 : decode cX8_offBits 30 = .ok (.goto 4, 3) := by decide +kernel
theorem dX8_offBits_33 : decode cX8_offBits 33 = .ok (.iconst 0, 1) := by decide +kernel
theorem dX8_offBits_34 : decode cX8_offBits 34 = .ok (.ior, 1) := by decide +kernel
theorem dX8_offBits_35 : decode cX8_offBits 35 = .ok (.istore_n 2, 1) := by decide +kernel
theorem dX8_offBits_36 : decode cX8_offBits 36 = .ok (.iinc 3 1, 3) := by decide +kernel
theorem dX8_offBits_39 : decode cX8_offBits 39 = .ok (.goto (-35), 3) := by decide +kernel
theorem dX8_offBits_42 : decode cX8_offBits 42 = .ok (.iload_n 2, 1) := by decide +kernel
theorem dX8_offBits_43 : decode cX8_offBits 43 = .ok (.ireturn, 1) := by decide +kernel
theorem mk_X8_offBits : MVk yX8_offBits "FairBlocks$Standing" cX8_offBits 4 (Option.some FieldType.int) 1 := ⟨w_642, w_640, w_641, w_5, rfl, by decide +kernel, by decide +kernel, by decide +kernel⟩
def BX8_offBits_0 (G : Nat → KT) (Q : Option mV → mM → Prop) : KT := (s_iconst (0) (s_istore 2 (s_iconst (0) (s_istore 3 (s_at G 4 [true, true, true, true])))))
set_option maxRecDepth 4000 in
theorem bsX8_offBits_0 {p : Program} {l : Launch} {e : Env} {s : State} {m : MethodId} {args : Array Value} {below : List Frame} {meth : Method} {c : Code} {D : va_G} {ca : Nat → ClassId} {ad : Nat → Nat} {A : Nat → Prop} {Q : Option mV → mM → Prop} (hX : CX p s m args meth c 4 cX8_offBits "FairBlocks$Standing" D ca ad A) (hr : meth.sig.returnType = (Option.some FieldType.int)) : ∀ lv st M, BX8_offBits_0 (Gd p l e (rmD 0) s m args below meth c 4 D ca ad A 0 0 (MQ below (QC D ca ad A Q) args s 0 0 A)) Q lv st M → Gd p l e (rmD 0) s m args below meth c 4 D ca ad A 0 0 (MQ below (QC D ca ad A Q) args s 0 0 A) 0 lv st M :=
  (sd_iconst hX dX8_offBits_0 rfl (sd_istore_n hX (by decide) dX8_offBits_1 rfl (sd_iconst hX dX8_offBits_2 rfl (sd_istore_n hX (by decide) dX8_offBits_3 rfl sd_at))))
def BX8_offBits_4 (G : Nat → KT) (Q : Option mV → mM → Prop) : KT := (s_iload 3 (s_iload 1 (s_icmp (fun x y => y ≤ x) (s_at G 42 [false, false, true, false]) (s_iload 3 (s_iconst (5) (s_icmp (fun x y => y ≤ x) (s_at G 42 [false, false, true, false]) (s_iload 2 (s_aload 0 (s_getr 8 16 (fun k => k + 1) (s_iload 3 (s_aaldU (s_geti 10 3 (s_if (fun x => x = 0) (s_at G 33 [true, true, false, true]) (s_iconst (1) (s_iload 3 (s_bin (fun x y => x <<< (y &&& 31)) (s_at G 34 [true, true, false, true])))))))))))))))))
set_option maxRecDepth 4000 in
theorem bsX8_offBits_4 {p : Program} {l : Launch} {e : Env} {s : State} {m : MethodId} {args : Array Value} {below : List Frame} {meth : Method} {c : Code} {D : va_G} {ca : Nat → ClassId} {ad : Nat → Nat} {A : Nat → Prop} {Q : Option mV → mM → Prop} (hX : CX p s m args meth c 4 cX8_offBits "FairBlocks$Standing" D ca ad A) (hr : meth.sig.returnType = (Option.some FieldType.int)) : ∀ lv st M, BX8_offBits_4 (Gd p l e (rmD 0) s m args below meth c 4 D ca ad A 0 0 (MQ below (QC D ca ad A Q) args s 0 0 A)) Q lv st M → Gd p l e (rmD 0) s m args below meth c 4 D ca ad A 0 0 (MQ below (QC D ca ad A Q) args s 0 0 A) 4 lv st M :=
  (sd_iload_n hX dX8_offBits_4 rfl (sd_iload_n hX dX8_offBits_5 rfl (sd_icmp_ge hX dX8_offBits_6 (by decide) sd_at (sd_iload_n hX dX8_offBits_9 rfl (sd_iconst hX dX8_offBits_10 rfl (sd_icmp_ge hX dX8_offBits_11 (by decide) sd_at (sd_iload_n hX dX8_offBits_14 rfl (sd_aload_n hX dX8_offBits_15 rfl (sd_getr hX fl_142 (fun _ => rfl) okA dX8_offBits_16 (sd_iload_n hX dX8_offBits_19 rfl (sd_aaldU hX dX8_offBits_20 (sd_geti hX fl_101 (by decide) dX8_offBits_21 (sd_if_eq hX dX8_offBits_24 (by decide) sd_at (sd_iconst hX dX8_offBits_27 rfl (sd_iload_n hX dX8_offBits_28 rfl (sd_ishl hX dX8_offBits_29 (sd_goto hX dX8_offBits_30 (by decide) sd_at)))))))))))))))))
def BX8_offBits_33 (G : Nat → KT) (Q : Option mV → mM → Prop) : KT := (s_iconst (0) (s_at G 34 [true, true, false, true]))
set_option maxRecDepth 4000 in
theorem bsX8_offBits_33 {p : Program} {l : Launch} {e : Env} {s : State} {m : MethodId} {args : Array Value} {below : List Frame} {meth : Method} {c : Code} {D : va_G} {ca : Nat → ClassId} {ad : Nat → Nat} {A : Nat → Prop} {Q : Option mV → mM → Prop} (hX : CX p s m args meth c 4 cX8_offBits "FairBlocks$Standing" D ca ad A) (hr : meth.sig.returnType = (Option.some FieldType.int)) : ∀ lv st M, BX8_offBits_33 (Gd p l e (rmD 0) s m args below meth c 4 D ca ad A 0 0 (MQ below (QC D ca ad A Q) args s 0 0 A)) Q lv st M → Gd p l e (rmD 0) s m args below meth c 4 D ca ad A 0 0 (MQ below (QC D ca ad A Q) args s 0 0 A) 33 lv st M :=
  (sd_iconst hX dX8_offBits_33 rfl sd_at)
def BX8_offBits_34 (G : Nat → KT) (Q : Option mV → mM → Prop) : KT := (s_bin (fun x y => x ||| y) (s_istore 2 (s_iinc 3 (1) (s_at G 4 [true, true, true, true]))))
set_option maxRecDepth 4000 in
theorem bsX8_offBits_34 {p : Program} {l : Launch} {e : Env} {s : State} {m : MethodId} {args : Array Value} {below : List Frame} {meth : Method} {c : Code} {D : va_G} {ca : Nat → ClassId} {ad : Nat → Nat} {A : Nat → Prop} {Q : Option mV → mM → Prop} (hX : CX p s m args meth c 4 cX8_offBits "FairBlocks$Standing" D ca ad A) (hr : meth.sig.returnType = (Option.some FieldType.int)) : ∀ lv st M, BX8_offBits_34 (Gd p l e (rmD 0) s m args below meth c 4 D ca ad A 0 0 (MQ below (QC D ca ad A Q) args s 0 0 A)) Q lv st M → Gd p l e (rmD 0) s m args below meth c 4 D ca ad A 0 0 (MQ below (QC D ca ad A Q) args s 0 0 A) 34 lv st M :=
  (sd_ior hX dX8_offBits_34 (sd_istore_n hX (by decide) dX8_offBits_35 rfl (sd_iinc hX (by decide) dX8_offBits_36 rfl (sd_goto hX dX8_offBits_39 (by decide) sd_at))))
def BX8_offBits_42 (G : Nat → KT) (Q : Option mV → mM → Prop) : KT := (s_iload 2 (s_iret Q))
set_option maxRecDepth 4000 in
theorem bsX8_offBits_42 {p : Program} {l : Launch} {e : Env} {s : State} {m : MethodId} {args : Array Value} {below : List Frame} {meth : Method} {c : Code} {D : va_G} {ca : Nat → ClassId} {ad : Nat → Nat} {A : Nat → Prop} {Q : Option mV → mM → Prop} (hX : CX p s m args meth c 4 cX8_offBits "FairBlocks$Standing" D ca ad A) (hr : meth.sig.returnType = (Option.some FieldType.int)) : ∀ lv st M, BX8_offBits_42 (Gd p l e (rmD 0) s m args below meth c 4 D ca ad A 0 0 (MQ below (QC D ca ad A Q) args s 0 0 A)) Q lv st M → Gd p l e (rmD 0) s m args below meth c 4 D ca ad A 0 0 (MQ below (QC D ca ad A Q) args s 0 0 A) 42 lv st M :=
  (sd_iload_n hX dX8_offBits_42 rfl (sd_iret hX hr dX8_offBits_43))
set_option maxHeartbeats 400000 in
theorem pf_X8_offBits (G : Nat → KT) (Q : Option mV → mM → Prop) (h0 : ∀ lv st M, BX8_offBits_0 G Q lv st M → G 0 lv st M) (h4 : ∀ lv st M, BX8_offBits_4 G Q lv st M → G 4 lv st M) (h33 : ∀ lv st M, BX8_offBits_33 G Q lv st M → G 33 lv st M) (h34 : ∀ lv st M, BX8_offBits_34 G Q lv st M → G 34 lv st M) (h42 : ∀ lv st M, BX8_offBits_42 G Q lv st M → G 42 lv st M) (as : List mV) (M : mM) (ho : ∀ v ∈ as, okV v) (hp : pre_X8_offBits as M) (hQ : Q (fn_X8_offBits as M).1 (fn_X8_offBits as M).2) : G 0 (inL as ++ List.replicate (4 - (inL as).length) none) [] M := by
  obtain ⟨k, x, rfl, N, hN, rfl⟩ := hp
  have hk : kof k = 8 := ho (.inr (.inr (8, k))) (by simp)
  have hl1 := lnU hk
  simp only [fn_X8_offBits, nI_clamp (by omega : N < 2 ^ 31)] at hQ
  have loop : ∀ (n i : Nat) (b : Int32), i + n = N → Q (some (.inl (itr (offS M k) i n b))) M → G 4 [some (.inr (.inr (8, k))), some (.inl (nI N)), some (.inl b), some (.inl (nI i))] [] M := by
    intro n
    induction n with
    | zero =>
      intro i b hi hq
      obtain rfl : i = N := by omega
      (apply h4; simp only [BX8_offBits_4, s_mth, s_mab, s_at, s_iconst, s_lconst, s_iload, s_lload, s_aload, s_istore, s_lstore, s_astore, s_iinc, s_bin, s_binG, s_un, s_lbin, s_lbinG, s_lsh, s_lcmp, s_i2l, s_l2i, s_dup, s_dup2, s_pop, s_if, s_icmp, s_geti, s_getl, s_getr, s_puti, s_putz, s_putl, s_iald, s_zald, s_iast, s_zast, s_aaldS, s_aaldU, s_gets, s_tald, s_tsw, tsw, s_iret, s_zret, s_lret, s_aret, s_vret, s_callV, s_callS, c1, nl1, keepL, csum, pushR, inL, List.getD_cons_zero, List.getD_cons_succ, List.set_cons_zero, List.set_cons_succ, List.cons_append, List.nil_append, List.append_nil, List.replicate, List.length_cons, List.length_nil, List.take_succ_cons, List.take_zero, List.drop_succ_cons, List.drop_zero, List.reverse_cons, List.reverse_nil, true_and, and_true, forall_const, not_true_eq_false, not_false_eq_true, false_implies, true_implies, implies_true, one0, m10, Nat.reduceAdd, Nat.reduceSub, Nat.reduceLeDiff, Nat.zero_add, Nat.add_zero])
      refine ⟨fun _ => ?_, fun h => absurd (nI_le (Nat.le_refl i) (by omega)) h⟩
      (apply h42; simp only [BX8_offBits_42, s_mth, s_mab, s_at, s_iconst, s_lconst, s_iload, s_lload, s_aload, s_istore, s_lstore, s_astore, s_iinc, s_bin, s_binG, s_un, s_lbin, s_lbinG, s_lsh, s_lcmp, s_i2l, s_l2i, s_dup, s_dup2, s_pop, s_if, s_icmp, s_geti, s_getl, s_getr, s_puti, s_putz, s_putl, s_iald, s_zald, s_iast, s_zast, s_aaldS, s_aaldU, s_gets, s_tald, s_tsw, tsw, s_iret, s_zret, s_lret, s_aret, s_vret, s_callV, s_callS, c1, nl1, keepL, csum, pushR, inL, List.getD_cons_zero, List.getD_cons_succ, List.set_cons_zero, List.set_cons_succ, List.cons_append, List.nil_append, List.append_nil, List.replicate, List.length_cons, List.length_nil, List.take_succ_cons, List.take_zero, List.drop_succ_cons, List.drop_zero, List.reverse_cons, List.reverse_nil, true_and, and_true, forall_const, not_true_eq_false, not_false_eq_true, false_implies, true_implies, implies_true, one0, m10, Nat.reduceAdd, Nat.reduceSub, Nat.reduceLeDiff, Nat.zero_add, Nat.add_zero])
      exact hq
    | succ n ih =>
      intro i b hi hq
      (apply h4; simp only [BX8_offBits_4, s_mth, s_mab, s_at, s_iconst, s_lconst, s_iload, s_lload, s_aload, s_istore, s_lstore, s_astore, s_iinc, s_bin, s_binG, s_un, s_lbin, s_lbinG, s_lsh, s_lcmp, s_i2l, s_l2i, s_dup, s_dup2, s_pop, s_if, s_icmp, s_geti, s_getl, s_getr, s_puti, s_putz, s_putl, s_iald, s_zald, s_iast, s_zast, s_aaldS, s_aaldU, s_gets, s_tald, s_tsw, tsw, s_iret, s_zret, s_lret, s_aret, s_vret, s_callV, s_callS, c1, nl1, keepL, csum, pushR, inL, List.getD_cons_zero, List.getD_cons_succ, List.set_cons_zero, List.set_cons_succ, List.cons_append, List.nil_append, List.append_nil, List.replicate, List.length_cons, List.length_nil, List.take_succ_cons, List.take_zero, List.drop_succ_cons, List.drop_zero, List.reverse_cons, List.reverse_nil, true_and, and_true, forall_const, not_true_eq_false, not_false_eq_true, false_implies, true_implies, implies_true, one0, m10, Nat.reduceAdd, Nat.reduceSub, Nat.reduceLeDiff, Nat.zero_add, Nat.add_zero])
      refine ⟨fun h => absurd h (nI_ge (by omega) (by omega)), fun _ => ⟨fun h => absurd h (nI_ge (b := 5) (by omega) (by decide)), fun _ => ?_⟩⟩
      rw [nI_clamp (by omega : i < 2 ^ 31), hl1]
      refine ⟨vp_in_nI (by omega) (by decide), fun h => ?_, fun h => ?_⟩
      · (apply h33; simp only [BX8_offBits_33, s_mth, s_mab, s_at, s_iconst, s_lconst, s_iload, s_lload, s_aload, s_istore, s_lstore, s_astore, s_iinc, s_bin, s_binG, s_un, s_lbin, s_lbinG, s_lsh, s_lcmp, s_i2l, s_l2i, s_dup, s_dup2, s_pop, s_if, s_icmp, s_geti, s_getl, s_getr, s_puti, s_putz, s_putl, s_iald, s_zald, s_iast, s_zast, s_aaldS, s_aaldU, s_gets, s_tald, s_tsw, tsw, s_iret, s_zret, s_lret, s_aret, s_vret, s_callV, s_callS, c1, nl1, keepL, csum, pushR, inL, List.getD_cons_zero, List.getD_cons_succ, List.set_cons_zero, List.set_cons_succ, List.cons_append, List.nil_append, List.append_nil, List.replicate, List.length_cons, List.length_nil, List.take_succ_cons, List.take_zero, List.drop_succ_cons, List.drop_zero, List.reverse_cons, List.reverse_nil, true_and, and_true, forall_const, not_true_eq_false, not_false_eq_true, false_implies, true_implies, implies_true, one0, m10, Nat.reduceAdd, Nat.reduceSub, Nat.reduceLeDiff, Nat.zero_add, Nat.add_zero])
        (apply h34; simp only [BX8_offBits_34, s_mth, s_mab, s_at, s_iconst, s_lconst, s_iload, s_lload, s_aload, s_istore, s_lstore, s_astore, s_iinc, s_bin, s_binG, s_un, s_lbin, s_lbinG, s_lsh, s_lcmp, s_i2l, s_l2i, s_dup, s_dup2, s_pop, s_if, s_icmp, s_geti, s_getl, s_getr, s_puti, s_putz, s_putl, s_iald, s_zald, s_iast, s_zast, s_aaldS, s_aaldU, s_gets, s_tald, s_tsw, tsw, s_iret, s_zret, s_lret, s_aret, s_vret, s_callV, s_callS, c1, nl1, keepL, csum, pushR, inL, List.getD_cons_zero, List.getD_cons_succ, List.set_cons_zero, List.set_cons_succ, List.cons_append, List.nil_append, List.append_nil, List.replicate, List.length_cons, List.length_nil, List.take_succ_cons, List.take_zero, List.drop_succ_cons, List.drop_zero, List.reverse_cons, List.reverse_nil, true_and, and_true, forall_const, not_true_eq_false, not_false_eq_true, false_implies, true_implies, implies_true, one0, m10, Nat.reduceAdd, Nat.reduceSub, Nat.reduceLeDiff, Nat.zero_add, Nat.add_zero])
        rw [nI_1]
        refine ih (i + 1) _ (by omega) ?_
        simpa only [itr, offS, if_pos h] using hq
      · (apply h34; simp only [BX8_offBits_34, s_mth, s_mab, s_at, s_iconst, s_lconst, s_iload, s_lload, s_aload, s_istore, s_lstore, s_astore, s_iinc, s_bin, s_binG, s_un, s_lbin, s_lbinG, s_lsh, s_lcmp, s_i2l, s_l2i, s_dup, s_dup2, s_pop, s_if, s_icmp, s_geti, s_getl, s_getr, s_puti, s_putz, s_putl, s_iald, s_zald, s_iast, s_zast, s_aaldS, s_aaldU, s_gets, s_tald, s_tsw, tsw, s_iret, s_zret, s_lret, s_aret, s_vret, s_callV, s_callS, c1, nl1, keepL, csum, pushR, inL, List.getD_cons_zero, List.getD_cons_succ, List.set_cons_zero, List.set_cons_succ, List.cons_append, List.nil_append, List.append_nil, List.replicate, List.length_cons, List.length_nil, List.take_succ_cons, List.take_zero, List.drop_succ_cons, List.drop_zero, List.reverse_cons, List.reverse_nil, true_and, and_true, forall_const, not_true_eq_false, not_false_eq_true, false_implies, true_implies, implies_true, one0, m10, Nat.reduceAdd, Nat.reduceSub, Nat.reduceLeDiff, Nat.zero_add, Nat.add_zero])
        rw [nI_1]
        refine ih (i + 1) _ (by omega) ?_
        simpa only [itr, offS, if_neg h] using hq
  (apply h0; simp only [BX8_offBits_0, s_mth, s_mab, s_at, s_iconst, s_lconst, s_iload, s_lload, s_aload, s_istore, s_lstore, s_astore, s_iinc, s_bin, s_binG, s_un, s_lbin, s_lbinG, s_lsh, s_lcmp, s_i2l, s_l2i, s_dup, s_dup2, s_pop, s_if, s_icmp, s_geti, s_getl, s_getr, s_puti, s_putz, s_putl, s_iald, s_zald, s_iast, s_zast, s_aaldS, s_aaldU, s_gets, s_tald, s_tsw, tsw, s_iret, s_zret, s_lret, s_aret, s_vret, s_callV, s_callS, c1, nl1, keepL, csum, pushR, inL, List.getD_cons_zero, List.getD_cons_succ, List.set_cons_zero, List.set_cons_succ, List.cons_append, List.nil_append, List.append_nil, List.replicate, List.length_cons, List.length_nil, List.take_succ_cons, List.take_zero, List.drop_succ_cons, List.drop_zero, List.reverse_cons, List.reverse_nil, true_and, and_true, forall_const, not_true_eq_false, not_false_eq_true, false_implies, true_implies, implies_true, one0, m10, Nat.reduceAdd, Nat.reduceSub, Nat.reduceLeDiff, Nat.zero_add, Nat.add_zero])
  exact loop N 0 0 (by omega) hQ
theorem ct_X8_offBits (l : Launch) : Con l yX8_offBits cX8_offBits 4 (Option.some FieldType.int) 0 pre_X8_offBits fn_X8_offBits := con_of (by decide +kernel) ok_X8_offBits len_X8_offBits (fun p e s m args below meth c D ca ad A as M hX hr hp ho => pf_X8_offBits _ _ (bsX8_offBits_0 hX hr) (bsX8_offBits_4 hX hr) (bsX8_offBits_33 hX hr) (bsX8_offBits_34 hX hr) (bsX8_offBits_42 hX hr) as M ho hp ⟨rfl, rfl⟩)
def waiS (M : mM) (k i : Nat) (b : Int32) : Int32 := b ||| (if M.1 (k + 1 + 1 + i) 4 + M.1 (k + 1 + 1 + i) 5 ≤ 0 then (0 : Int32) else (1 : Int32) <<< (nI i &&& 31))
def pre_X8_waitingBits (as : List mV) (M : mM) : Prop := ∃ k x, as = [.inr (.inr (8, k)), .inl x] ∧ ∃ n, n ≤ 5 ∧ x = nI n
def fn_X8_waitingBits : List mV → mM → Option mV × mM
  | [.inr (.inr (_, k)), .inl x], M => (some (.inl (itr (waiS M k) 0 x.toNatClampNeg 0)), M)
  | _, M => (none, M)
theorem ok_X8_waitingBits (as : List mV) (M : mM) (h : pre_X8_waitingBits as M) (_ : ∀ v ∈ as, okV v) : okR (fn_X8_waitingBits as M).1 := by
  obtain ⟨k, x, rfl, -⟩ := h
  first | trivial | exact (by decide +kernel : kof 14 = 8)
theorem len_X8_waitingBits (as : List mV) (M : mM) (h : pre_X8_waitingBits as M) : (inL as).length ≤ 4 := by
  obtain ⟨k, x, rfl, -⟩ := h
  exact Nat.le_of_ble_eq_true rfl


theorem dX8_waitingBits_0 : decode cX8_waitingBits 0 = .ok (.iconst 0, 1) := by decide +kernel
theorem dX8_waitingBits_1 : decode cX8_waitingBits 1 = .ok (.istore_n 2, 1) := by decide +kernel
theorem dX8_waitingBits_2 : decode cX8_waitingBits 2 = .ok (.iconst 0, 1) := by decide +kernel
theorem dX8_waitingBits_3 : decode cX8_waitingBits 3 = .ok (.istore_n 3, 1) := by decide +kernel
theorem dX8_waitingBits_4 : decode cX8_waitingBits 4 = .ok (.iload_n 3, 1) := by decide +kernel
theorem dX8_waitingBits_5 : decode cX8_waitingBits 5 = .ok (.iload_n 1, 1) := by decide +kernel
theorem dX8_waitingBits_6 : decode cX8_waitingBits 6 = .ok (.if_icmp .ge 36, 3) := by decide +kernel
theorem dX8_waitingBits_9 : decode cX8_waitingBits 9 = .ok (.iload_n 3, 1) := by decide +kernel
theorem dX8_waitingBits_10 : decode cX8_waitingBits 10 = .ok (.iconst 5, 1) := by decide +kernel
theorem dX8_waitingBits_11 : decode cX8_waitingBits 11 = .ok (.if_icmp .ge 31, 3) := by decide +kernel
theorem dX8_waitingBits_14 : decode cX8_waitingBits 14 = .ok (.iload_n 2, 1) := by decide +kernel
theorem dX8_waitingBits_15 : decode cX8_waitingBits 15 = .ok (.aload_n 0, 1) := by decide +kernel
theorem dX8_waitingBits_16 : decode cX8_waitingBits 16 = .ok (.getfield 11, 3) := by decide +kernel
theorem dX8_waitingBits_19 : decode cX8_waitingBits 19 = .ok (.iload_n 3, 1) := by decide +kernel
theorem dX8_waitingBits_20 : decode cX8_waitingBits 20 = .ok (.aaload, 1) := by decide +kernel
theorem dX8_waitingBits_21 : decode cX8_waitingBits 21 = .ok (.invokevirtual 33, 3) := by decide +kernel
theorem dX8_waitingBits_24 : decode cX8_waitingBits 24 = .ok (.ifCond .le 9, 3) := by decide +kernel
theorem dX8_waitingBits_27 : decode cX8_waitingBits 27 = .ok (.iconst 1, 1) := by decide +kernel
theorem dX8_waitingBits_28 : decode cX8_waitingBits 28 = .ok (.iload_n 3, 1) := by decide +kernel
theorem dX8_waitingBits_29 : decode cX8_waitingBits 29 = .ok (.ishl, 1) := by decide +kernel
theorem dX8_waitingBits_30 : decode cX8_waitingBits 30 = .ok (.goto 4, 3) := by decide +kernel
theorem dX8_waitingBits_33 : decode cX8_waitingBits 33 = .ok (.iconst 0, 1) := by decide +kernel
theorem dX8_waitingBits_34 : decode cX8_waitingBits 34 = .ok (.ior, 1) := by decide +kernel
theorem dX8_waitingBits_35 : decode cX8_waitingBits 35 = .ok (.istore_n 2, 1) := by decide +kernel
theorem dX8_waitingBits_36 : decode cX8_waitingBits 36 = .ok (.iinc 3 1, 3) := by decide +kernel
theorem dX8_waitingBits_39 : decode cX8_waitingBits 39 = .ok (.goto (-35), 3) := by decide +kernel
theorem dX8_waitingBits_42 : decode cX8_waitingBits 42 = .ok (.iload_n 2, 1) := by decide +kernel
theorem dX8_waitingBits_43 : decode cX8_waitingBits 43 = .ok (.ireturn, 1) := by decide +kernel
theorem mk_X8_waitingBits : MVk yX8_waitingBits "FairBlocks$Standing" cX8_waitingBits 4 (Option.some FieldType.int) 1 := ⟨w_715, w_713, w_714, w_5, rfl, by decide +kernel, by decide +kernel, by decide +kernel⟩
def BX8_waitingBits_0 (G : Nat → KT) (Q : Option mV → mM → Prop) : KT := (s_iconst (0) (s_istore 2 (s_iconst (0) (s_istore 3 (s_at G 4 [true, true, true, true])))))
set_option maxRecDepth 4000 in
theorem bsX8_waitingBits_0 {p : Program} {l : Launch} {e : Env} {s : State} {m : MethodId} {args : Array Value} {below : List Frame} {meth : Method} {c : Code} {D : va_G} {ca : Nat → ClassId} {ad : Nat → Nat} {A : Nat → Prop} {Q : Option mV → mM → Prop} (hX : CX p s m args meth c 4 cX8_waitingBits "FairBlocks$Standing" D ca ad A) (hr : meth.sig.returnType = (Option.some FieldType.int)) : ∀ lv st M, BX8_waitingBits_0 (Gd p l e (rmD 1) s m args below meth c 4 D ca ad A 0 0 (MQ below (QC D ca ad A Q) args s 0 0 A)) Q lv st M → Gd p l e (rmD 1) s m args below meth c 4 D ca ad A 0 0 (MQ below (QC D ca ad A Q) args s 0 0 A) 0 lv st M :=
  (sd_iconst hX dX8_waitingBits_0 rfl (sd_istore_n hX (by decide) dX8_waitingBits_1 rfl (sd_iconst hX dX8_waitingBits_2 rfl (sd_istore_n hX (by decide) dX8_waitingBits_3 rfl sd_at))))
def BX8_waitingBits_4 (G : Nat → KT) (Q : Option mV → mM → Prop) : KT := (s_iload 3 (s_iload 1 (s_icmp (fun x y => y ≤ x) (s_at G 42 [false, false, true, false]) (s_iload 3 (s_iconst (5) (s_icmp (fun x y => y ≤ x) (s_at G 42 [false, false, true, false]) (s_iload 2 (s_aload 0 (s_getr 8 16 (fun k => k + 1) (s_iload 3 (s_aaldU (s_callV 10 0 pre_X10_waiting fn_X10_waiting (s_if (fun x => x ≤ 0) (s_at G 33 [true, true, false, true]) (s_iconst (1) (s_iload 3 (s_bin (fun x y => x <<< (y &&& 31)) (s_at G 34 [true, true, false, true])))))))))))))))))
set_option maxRecDepth 4000 in
theorem bsX8_waitingBits_4 {p : Program} {l : Launch} {e : Env} {s : State} {m : MethodId} {args : Array Value} {below : List Frame} {meth : Method} {c : Code} {D : va_G} {ca : Nat → ClassId} {ad : Nat → Nat} {A : Nat → Prop} {Q : Option mV → mM → Prop} (hX : CX p s m args meth c 4 cX8_waitingBits "FairBlocks$Standing" D ca ad A) (hr : meth.sig.returnType = (Option.some FieldType.int)) : ∀ lv st M, BX8_waitingBits_4 (Gd p l e (rmD 1) s m args below meth c 4 D ca ad A 0 0 (MQ below (QC D ca ad A Q) args s 0 0 A)) Q lv st M → Gd p l e (rmD 1) s m args below meth c 4 D ca ad A 0 0 (MQ below (QC D ca ad A Q) args s 0 0 A) 4 lv st M :=
  (sd_iload_n hX dX8_waitingBits_4 rfl (sd_iload_n hX dX8_waitingBits_5 rfl (sd_icmp_ge hX dX8_waitingBits_6 (by decide) sd_at (sd_iload_n hX dX8_waitingBits_9 rfl (sd_iconst hX dX8_waitingBits_10 rfl (sd_icmp_ge hX dX8_waitingBits_11 (by decide) sd_at (sd_iload_n hX dX8_waitingBits_14 rfl (sd_aload_n hX dX8_waitingBits_15 rfl (sd_getr hX fl_142 (fun _ => rfl) okA dX8_waitingBits_16 (sd_iload_n hX dX8_waitingBits_19 rfl (sd_aaldU hX dX8_waitingBits_20 (sd_callV hX (kd := 10) rfl (by decide) (ct_X10_waiting l) mk_X10_waiting w_716 ⟨⟨by decide, by decide⟩, by decide, by decide⟩ dX8_waitingBits_21 (sd_if_le hX dX8_waitingBits_24 (by decide) sd_at (sd_iconst hX dX8_waitingBits_27 rfl (sd_iload_n hX dX8_waitingBits_28 rfl (sd_ishl hX dX8_waitingBits_29 (sd_goto hX dX8_waitingBits_30 (by decide) sd_at)))))))))))))))))
def BX8_waitingBits_33 (G : Nat → KT) (Q : Option mV → mM → Prop) : KT := (s_iconst (0) (s_at G 34 [true, true, false, true]))
set_option maxRecDepth 4000 in
theorem bsX8_waitingBits_33 {p : Program} {l : Launch} {e : Env} {s : State} {m : MethodId} {args : Array Value} {below : List Frame} {meth : Method} {c : Code} {D : va_G} {ca : Nat → ClassId} {ad : Nat → Nat} {A : Nat → Prop} {Q : Option mV → mM → Prop} (hX : CX p s m args meth c 4 cX8_waitingBits "FairBlocks$Standing" D ca ad A) (hr : meth.sig.returnType = (Option.some FieldType.int)) : ∀ lv st M, BX8_waitingBits_33 (Gd p l e (rmD 1) s m args below meth c 4 D ca ad A 0 0 (MQ below (QC D ca ad A Q) args s 0 0 A)) Q lv st M → Gd p l e (rmD 1) s m args below meth c 4 D ca ad A 0 0 (MQ below (QC D ca ad A Q) args s 0 0 A) 33 lv st M :=
  (sd_iconst hX dX8_waitingBits_33 rfl sd_at)
def BX8_waitingBits_34 (G : Nat → KT) (Q : Option mV → mM → Prop) : KT := (s_bin (fun x y => x ||| y) (s_istore 2 (s_iinc 3 (1) (s_at G 4 [true, true, true, true]))))
set_option maxRecDepth 4000 in
theorem bsX8_waitingBits_34 {p : Program} {l : Launch} {e : Env} {s : State} {m : MethodId} {args : Array Value} {below : List Frame} {meth : Method} {c : Code} {D : va_G} {ca : Nat → ClassId} {ad : Nat → Nat} {A : Nat → Prop} {Q : Option mV → mM → Prop} (hX : CX p s m args meth c 4 cX8_waitingBits "FairBlocks$Standing" D ca ad A) (hr : meth.sig.returnType = (Option.some FieldType.int)) : ∀ lv st M, BX8_waitingBits_34 (Gd p l e (rmD 1) s m args below meth c 4 D ca ad A 0 0 (MQ below (QC D ca ad A Q) args s 0 0 A)) Q lv st M → Gd p l e (rmD 1) s m args below meth c 4 D ca ad A 0 0 (MQ below (QC D ca ad A Q) args s 0 0 A) 34 lv st M :=
  (sd_ior hX dX8_waitingBits_34 (sd_istore_n hX (by decide) dX8_waitingBits_35 rfl (sd_iinc hX (by decide) dX8_waitingBits_36 rfl (sd_goto hX dX8_waitingBits_39 (by decide) sd_at))))
def BX8_waitingBits_42 (G : Nat → KT) (Q : Option mV → mM → Prop) : KT := (s_iload 2 (s_iret Q))
set_option maxRecDepth 4000 in
theorem bsX8_waitingBits_42 {p : Program} {l : Launch} {e : Env} {s : State} {m : MethodId} {args : Array Value} {below : List Frame} {meth : Method} {c : Code} {D : va_G} {ca : Nat → ClassId} {ad : Nat → Nat} {A : Nat → Prop} {Q : Option mV → mM → Prop} (hX : CX p s m args meth c 4 cX8_waitingBits "FairBlocks$Standing" D ca ad A) (hr : meth.sig.returnType = (Option.some FieldType.int)) : ∀ lv st M, BX8_waitingBits_42 (Gd p l e (rmD 1) s m args below meth c 4 D ca ad A 0 0 (MQ below (QC D ca ad A Q) args s 0 0 A)) Q lv st M → Gd p l e (rmD 1) s m args below meth c 4 D ca ad A 0 0 (MQ below (QC D ca ad A Q) args s 0 0 A) 42 lv st M :=
  (sd_iload_n hX dX8_waitingBits_42 rfl (sd_iret hX hr dX8_waitingBits_43))
set_option maxHeartbeats 400000 in
theorem pf_X8_waitingBits (G : Nat → KT) (Q : Option mV → mM → Prop) (h0 : ∀ lv st M, BX8_waitingBits_0 G Q lv st M → G 0 lv st M) (h4 : ∀ lv st M, BX8_waitingBits_4 G Q lv st M → G 4 lv st M) (h33 : ∀ lv st M, BX8_waitingBits_33 G Q lv st M → G 33 lv st M) (h34 : ∀ lv st M, BX8_waitingBits_34 G Q lv st M → G 34 lv st M) (h42 : ∀ lv st M, BX8_waitingBits_42 G Q lv st M → G 42 lv st M) (as : List mV) (M : mM) (ho : ∀ v ∈ as, okV v) (hp : pre_X8_waitingBits as M) (hQ : Q (fn_X8_waitingBits as M).1 (fn_X8_waitingBits as M).2) : G 0 (inL as ++ List.replicate (4 - (inL as).length) none) [] M := by
  obtain ⟨k, x, rfl, N, hN, rfl⟩ := hp
  have hk : kof k = 8 := ho (.inr (.inr (8, k))) (by simp)
  have hl1 := lnU hk
  simp only [fn_X8_waitingBits, nI_clamp (by omega : N < 2 ^ 31)] at hQ
  have loop : ∀ (n i : Nat) (b : Int32), i + n = N → Q (some (.inl (itr (waiS M k) i n b))) M → G 4 [some (.inr (.inr (8, k))), some (.inl (nI N)), some (.inl b), some (.inl (nI i))] [] M := by
    intro n
    induction n with
    | zero =>
      intro i b hi hq
      obtain rfl : i = N := by omega
      (apply h4; simp only [BX8_waitingBits_4, s_mth, s_mab, s_at, s_iconst, s_lconst, s_iload, s_lload, s_aload, s_istore, s_lstore, s_astore, s_iinc, s_bin, s_binG, s_un, s_lbin, s_lbinG, s_lsh, s_lcmp, s_i2l, s_l2i, s_dup, s_dup2, s_pop, s_if, s_icmp, s_geti, s_getl, s_getr, s_puti, s_putz, s_putl, s_iald, s_zald, s_iast, s_zast, s_aaldS, s_aaldU, s_gets, s_tald, s_tsw, tsw, s_iret, s_zret, s_lret, s_aret, s_vret, s_callV, s_callS, c1, nl1, keepL, csum, pushR, inL, List.getD_cons_zero, List.getD_cons_succ, List.set_cons_zero, List.set_cons_succ, List.cons_append, List.nil_append, List.append_nil, List.replicate, List.length_cons, List.length_nil, List.take_succ_cons, List.take_zero, List.drop_succ_cons, List.drop_zero, List.reverse_cons, List.reverse_nil, true_and, and_true, forall_const, not_true_eq_false, not_false_eq_true, false_implies, true_implies, implies_true, one0, m10, Nat.reduceAdd, Nat.reduceSub, Nat.reduceLeDiff, Nat.zero_add, Nat.add_zero, fn_X10_waiting])
      refine ⟨fun _ => ?_, fun h => absurd (nI_le (Nat.le_refl i) (by omega)) h⟩
      (apply h42; simp only [BX8_waitingBits_42, s_mth, s_mab, s_at, s_iconst, s_lconst, s_iload, s_lload, s_aload, s_istore, s_lstore, s_astore, s_iinc, s_bin, s_binG, s_un, s_lbin, s_lbinG, s_lsh, s_lcmp, s_i2l, s_l2i, s_dup, s_dup2, s_pop, s_if, s_icmp, s_geti, s_getl, s_getr, s_puti, s_putz, s_putl, s_iald, s_zald, s_iast, s_zast, s_aaldS, s_aaldU, s_gets, s_tald, s_tsw, tsw, s_iret, s_zret, s_lret, s_aret, s_vret, s_callV, s_callS, c1, nl1, keepL, csum, pushR, inL, List.getD_cons_zero, List.getD_cons_succ, List.set_cons_zero, List.set_cons_succ, List.cons_append, List.nil_append, List.append_nil, List.replicate, List.length_cons, List.length_nil, List.take_succ_cons, List.take_zero, List.drop_succ_cons, List.drop_zero, List.reverse_cons, List.reverse_nil, true_and, and_true, forall_const, not_true_eq_false, not_false_eq_true, false_implies, true_implies, implies_true, one0, m10, Nat.reduceAdd, Nat.reduceSub, Nat.reduceLeDiff, Nat.zero_add, Nat.add_zero, fn_X10_waiting])
      exact hq
    | succ n ih =>
      intro i b hi hq
      (apply h4; simp only [BX8_waitingBits_4, s_mth, s_mab, s_at, s_iconst, s_lconst, s_iload, s_lload, s_aload, s_istore, s_lstore, s_astore, s_iinc, s_bin, s_binG, s_un, s_lbin, s_lbinG, s_lsh, s_lcmp, s_i2l, s_l2i, s_dup, s_dup2, s_pop, s_if, s_icmp, s_geti, s_getl, s_getr, s_puti, s_putz, s_putl, s_iald, s_zald, s_iast, s_zast, s_aaldS, s_aaldU, s_gets, s_tald, s_tsw, tsw, s_iret, s_zret, s_lret, s_aret, s_vret, s_callV, s_callS, c1, nl1, keepL, csum, pushR, inL, List.getD_cons_zero, List.getD_cons_succ, List.set_cons_zero, List.set_cons_succ, List.cons_append, List.nil_append, List.append_nil, List.replicate, List.length_cons, List.length_nil, List.take_succ_cons, List.take_zero, List.drop_succ_cons, List.drop_zero, List.reverse_cons, List.reverse_nil, true_and, and_true, forall_const, not_true_eq_false, not_false_eq_true, false_implies, true_implies, implies_true, one0, m10, Nat.reduceAdd, Nat.reduceSub, Nat.reduceLeDiff, Nat.zero_add, Nat.add_zero, fn_X10_waiting])
      refine ⟨fun h => absurd h (nI_ge (by omega) (by omega)), fun _ => ⟨fun h => absurd h (nI_ge (b := 5) (by omega) (by decide)), fun _ => ?_⟩⟩
      rw [nI_clamp (by omega : i < 2 ^ 31), hl1]
      refine ⟨vp_in_nI (by omega) (by decide), ⟨_, rfl⟩, ?_⟩
      refine ⟨fun h => ?_, fun h => ?_⟩
      · (apply h33; simp only [BX8_waitingBits_33, s_mth, s_mab, s_at, s_iconst, s_lconst, s_iload, s_lload, s_aload, s_istore, s_lstore, s_astore, s_iinc, s_bin, s_binG, s_un, s_lbin, s_lbinG, s_lsh, s_lcmp, s_i2l, s_l2i, s_dup, s_dup2, s_pop, s_if, s_icmp, s_geti, s_getl, s_getr, s_puti, s_putz, s_putl, s_iald, s_zald, s_iast, s_zast, s_aaldS, s_aaldU, s_gets, s_tald, s_tsw, tsw, s_iret, s_zret, s_lret, s_aret, s_vret, s_callV, s_callS, c1, nl1, keepL, csum, pushR, inL, List.getD_cons_zero, List.getD_cons_succ, List.set_cons_zero, List.set_cons_succ, List.cons_append, List.nil_append, List.append_nil, List.replicate, List.length_cons, List.length_nil, List.take_succ_cons, List.take_zero, List.drop_succ_cons, List.drop_zero, List.reverse_cons, List.reverse_nil, true_and, and_true, forall_const, not_true_eq_false, not_false_eq_true, false_implies, true_implies, implies_true, one0, m10, Nat.reduceAdd, Nat.reduceSub, Nat.reduceLeDiff, Nat.zero_add, Nat.add_zero, fn_X10_waiting])
        (apply h34; simp only [BX8_waitingBits_34, s_mth, s_mab, s_at, s_iconst, s_lconst, s_iload, s_lload, s_aload, s_istore, s_lstore, s_astore, s_iinc, s_bin, s_binG, s_un, s_lbin, s_lbinG, s_lsh, s_lcmp, s_i2l, s_l2i, s_dup, s_dup2, s_pop, s_if, s_icmp, s_geti, s_getl, s_getr, s_puti, s_putz, s_putl, s_iald, s_zald, s_iast, s_zast, s_aaldS, s_aaldU, s_gets, s_tald, s_tsw, tsw, s_iret, s_zret, s_lret, s_aret, s_vret, s_callV, s_callS, c1, nl1, keepL, csum, pushR, inL, List.getD_cons_zero, List.getD_cons_succ, List.set_cons_zero, List.set_cons_succ, List.cons_append, List.nil_append, List.append_nil, List.replicate, List.length_cons, List.length_nil, List.take_succ_cons, List.take_zero, List.drop_succ_cons, List.drop_zero, List.reverse_cons, List.reverse_nil, true_and, and_true, forall_const, not_true_eq_false, not_false_eq_true, false_implies, true_implies, implies_true, one0, m10, Nat.reduceAdd, Nat.reduceSub, Nat.reduceLeDiff, Nat.zero_add, Nat.add_zero, fn_X10_waiting])
        rw [nI_1]
        refine ih (i + 1) _ (by omega) ?_
        simpa only [itr, waiS, if_pos h] using hq
      · (apply h34; simp only [BX8_waitingBits_34, s_mth, s_mab, s_at, s_iconst, s_lconst, s_iload, s_lload, s_aload, s_istore, s_lstore, s_astore, s_iinc, s_bin, s_binG, s_un, s_lbin, s_lbinG, s_lsh, s_lcmp, s_i2l, s_l2i, s_dup, s_dup2, s_pop, s_if, s_icmp, s_geti, s_getl, s_getr, s_puti, s_putz, s_putl, s_iald, s_zald, s_iast, s_zast, s_aaldS, s_aaldU, s_gets, s_tald, s_tsw, tsw, s_iret, s_zret, s_lret, s_aret, s_vret, s_callV, s_callS, c1, nl1, keepL, csum, pushR, inL, List.getD_cons_zero, List.getD_cons_succ, List.set_cons_zero, List.set_cons_succ, List.cons_append, List.nil_append, List.append_nil, List.replicate, List.length_cons, List.length_nil, List.take_succ_cons, List.take_zero, List.drop_succ_cons, List.drop_zero, List.reverse_cons, List.reverse_nil, true_and, and_true, forall_const, not_true_eq_false, not_false_eq_true, false_implies, true_implies, implies_true, one0, m10, Nat.reduceAdd, Nat.reduceSub, Nat.reduceLeDiff, Nat.zero_add, Nat.add_zero, fn_X10_waiting])
        rw [nI_1]
        refine ih (i + 1) _ (by omega) ?_
        simpa only [itr, waiS, if_neg h] using hq
  (apply h0; simp only [BX8_waitingBits_0, s_mth, s_mab, s_at, s_iconst, s_lconst, s_iload, s_lload, s_aload, s_istore, s_lstore, s_astore, s_iinc, s_bin, s_binG, s_un, s_lbin, s_lbinG, s_lsh, s_lcmp, s_i2l, s_l2i, s_dup, s_dup2, s_pop, s_if, s_icmp, s_geti, s_getl, s_getr, s_puti, s_putz, s_putl, s_iald, s_zald, s_iast, s_zast, s_aaldS, s_aaldU, s_gets, s_tald, s_tsw, tsw, s_iret, s_zret, s_lret, s_aret, s_vret, s_callV, s_callS, c1, nl1, keepL, csum, pushR, inL, List.getD_cons_zero, List.getD_cons_succ, List.set_cons_zero, List.set_cons_succ, List.cons_append, List.nil_append, List.append_nil, List.replicate, List.length_cons, List.length_nil, List.take_succ_cons, List.take_zero, List.drop_succ_cons, List.drop_zero, List.reverse_cons, List.reverse_nil, true_and, and_true, forall_const, not_true_eq_false, not_false_eq_true, false_implies, true_implies, implies_true, one0, m10, Nat.reduceAdd, Nat.reduceSub, Nat.reduceLeDiff, Nat.zero_add, Nat.add_zero, fn_X10_waiting])
  exact loop N 0 0 (by omega) hQ
theorem ct_X8_waitingBits (l : Launch) : Con l yX8_waitingBits cX8_waitingBits 4 (Option.some FieldType.int) 1 pre_X8_waitingBits fn_X8_waitingBits := con_of (by decide +kernel) ok_X8_waitingBits len_X8_waitingBits (fun p e s m args below meth c D ca ad A as M hX hr hp ho => pf_X8_waitingBits _ _ (bsX8_waitingBits_0 hX hr) (bsX8_waitingBits_4 hX hr) (bsX8_waitingBits_33 hX hr) (bsX8_waitingBits_34 hX hr) (bsX8_waitingBits_42 hX hr) as M ho hp ⟨rfl, rfl⟩)
/-! Plan -/
def hasI (M : mM) (x : Int32) : Int32 := if x < 0 then 0 else if M.1 4 2 ≤ x then 0 else 1
def pre_X5_has (as : List mV) (M : mM) : Prop := ∃ k x, as = [.inr (.inr (5, k)), .inl x]
def fn_X5_has : List mV → mM → Option mV × mM
  | [.inr (.inr (_, k)), .inl x], M => (some (.inl (hasI M x)), M)
  | _, M => (none, M)
theorem ok_X5_has (as : List mV) (M : mM) (h : pre_X5_has as M) (_ : ∀ v ∈ as, okV v) : okR (fn_X5_has as M).1 := by
  obtain ⟨k, x, rfl⟩ := h
  first | trivial | exact (by decide +kernel : kof 14 = 8)
theorem len_X5_has (as : List mV) (M : mM) (h : pre_X5_has as M) : (inL as).length ≤ 2 := by
  obtain ⟨k, x, rfl⟩ := h
  exact Nat.le_of_ble_eq_true rfl

theorem fl_60 : FLk "FairBlocks$Plan" 18 5 2 0 := ⟨RX5, TX5, 5, rfl, inX5, by decide, w_60, by decide, rfl⟩
theorem dX5_has_0 : decode cX5_has 0 = .ok (.iload_n 1, 1) := by decide +kernel
theorem dX5_has_1 : decode cX5_has 1 = .ok (.ifCond .lt 15, 3) := by decide +kernel
theorem dX5_has_4 : decode cX5_has 4 = .ok (.iload_n 1, 1) := by decide +kernel
theorem dX5_has_5 : decode cX5_has 5 = .ok (.aload_n 0, 1) := by decide +kernel
theorem dX5_has_6 : decode cX5_has 6 = .ok (.getfield 18, 3) := by decide +kernel
theorem dX5_has_9 : decode cX5_has 9 = .ok (.if_icmp .ge 7, 3) := by decide +kernel
theorem dX5_has_12 : decode cX5_has 12 = .ok (.iconst 1, 1) := by decide +kernel
theorem dX5_has_13 : decode cX5_has 13 = .ok (.goto 4, 3) := by decide +kernel
theorem dX5_has_16 : decode cX5_has 16 = .ok (.iconst 0, 1) := by decide +kernel
theorem dX5_has_17 : decode cX5_has 17 = .ok (.ireturn, 1) := by decide +kernel
theorem mk_X5_has : MVk yX5_has "FairBlocks$Plan" cX5_has 2 (Option.some FieldType.boolean) 1 := ⟨w_400, w_398, w_399, w_4, rfl, by decide +kernel, by decide +kernel, by decide +kernel⟩
def BX5_has_0 (G : Nat → KT) (Q : Option mV → mM → Prop) : KT := (s_iload 1 (s_if (fun x => x < 0) (s_at G 16 [false, false]) (s_iload 1 (s_aload 0 (s_geti 5 2 (s_icmp (fun x y => y ≤ x) (s_at G 16 [false, false]) (s_iconst (1) (s_at G 17 [false, false]))))))))
set_option maxRecDepth 4000 in
theorem bsX5_has_0 {p : Program} {l : Launch} {e : Env} {s : State} {m : MethodId} {args : Array Value} {below : List Frame} {meth : Method} {c : Code} {D : va_G} {ca : Nat → ClassId} {ad : Nat → Nat} {A : Nat → Prop} {Q : Option mV → mM → Prop} (hX : CX p s m args meth c 2 cX5_has "FairBlocks$Plan" D ca ad A) (hr : meth.sig.returnType = (Option.some FieldType.boolean)) : ∀ lv st M, BX5_has_0 (Gd p l e (rmD 0) s m args below meth c 2 D ca ad A 0 0 (MQ below (QC D ca ad A Q) args s 0 0 A)) Q lv st M → Gd p l e (rmD 0) s m args below meth c 2 D ca ad A 0 0 (MQ below (QC D ca ad A Q) args s 0 0 A) 0 lv st M :=
  (sd_iload_n hX dX5_has_0 rfl (sd_if_lt hX dX5_has_1 (by decide) sd_at (sd_iload_n hX dX5_has_4 rfl (sd_aload_n hX dX5_has_5 rfl (sd_geti hX fl_60 (by decide) dX5_has_6 (sd_icmp_ge hX dX5_has_9 (by decide) sd_at (sd_iconst hX dX5_has_12 rfl (sd_goto hX dX5_has_13 (by decide) sd_at))))))))
def BX5_has_16 (G : Nat → KT) (Q : Option mV → mM → Prop) : KT := (s_iconst (0) (s_at G 17 [false, false]))
set_option maxRecDepth 4000 in
theorem bsX5_has_16 {p : Program} {l : Launch} {e : Env} {s : State} {m : MethodId} {args : Array Value} {below : List Frame} {meth : Method} {c : Code} {D : va_G} {ca : Nat → ClassId} {ad : Nat → Nat} {A : Nat → Prop} {Q : Option mV → mM → Prop} (hX : CX p s m args meth c 2 cX5_has "FairBlocks$Plan" D ca ad A) (hr : meth.sig.returnType = (Option.some FieldType.boolean)) : ∀ lv st M, BX5_has_16 (Gd p l e (rmD 0) s m args below meth c 2 D ca ad A 0 0 (MQ below (QC D ca ad A Q) args s 0 0 A)) Q lv st M → Gd p l e (rmD 0) s m args below meth c 2 D ca ad A 0 0 (MQ below (QC D ca ad A Q) args s 0 0 A) 16 lv st M :=
  (sd_iconst hX dX5_has_16 rfl sd_at)
def BX5_has_17 (G : Nat → KT) (Q : Option mV → mM → Prop) : KT := (s_zret Q)
set_option maxRecDepth 4000 in
theorem bsX5_has_17 {p : Program} {l : Launch} {e : Env} {s : State} {m : MethodId} {args : Array Value} {below : List Frame} {meth : Method} {c : Code} {D : va_G} {ca : Nat → ClassId} {ad : Nat → Nat} {A : Nat → Prop} {Q : Option mV → mM → Prop} (hX : CX p s m args meth c 2 cX5_has "FairBlocks$Plan" D ca ad A) (hr : meth.sig.returnType = (Option.some FieldType.boolean)) : ∀ lv st M, BX5_has_17 (Gd p l e (rmD 0) s m args below meth c 2 D ca ad A 0 0 (MQ below (QC D ca ad A Q) args s 0 0 A)) Q lv st M → Gd p l e (rmD 0) s m args below meth c 2 D ca ad A 0 0 (MQ below (QC D ca ad A Q) args s 0 0 A) 17 lv st M :=
  sd_zret hX hr dX5_has_17
set_option maxHeartbeats 400000 in
theorem pf_X5_has (G : Nat → KT) (Q : Option mV → mM → Prop) (h0 : ∀ lv st M, BX5_has_0 G Q lv st M → G 0 lv st M) (h16 : ∀ lv st M, BX5_has_16 G Q lv st M → G 16 lv st M) (h17 : ∀ lv st M, BX5_has_17 G Q lv st M → G 17 lv st M) (as : List mV) (M : mM) (ho : ∀ v ∈ as, okV v) (hp : pre_X5_has as M) (hQ : Q (fn_X5_has as M).1 (fn_X5_has as M).2) : G 0 (inL as ++ List.replicate (2 - (inL as).length) none) [] M := by
  obtain ⟨k, x, rfl⟩ := hp
  obtain rfl : k = 4 := k5 (ho (.inr (.inr (5, k))) (by simp))
  simp only [fn_X5_has, hasI] at hQ
  repeat' (first | (first | (apply h0; simp only [BX5_has_0, s_mth, s_mab, s_at, s_iconst, s_lconst, s_iload, s_lload, s_aload, s_istore, s_lstore, s_astore, s_iinc, s_bin, s_binG, s_un, s_lbin, s_lbinG, s_lsh, s_lcmp, s_i2l, s_l2i, s_dup, s_dup2, s_pop, s_if, s_icmp, s_geti, s_getl, s_getr, s_puti, s_putz, s_putl, s_iald, s_zald, s_iast, s_zast, s_aaldS, s_aaldU, s_gets, s_tald, s_tsw, tsw, s_iret, s_zret, s_lret, s_aret, s_vret, s_callV, s_callS, c1, nl1, keepL, csum, pushR, inL, List.getD_cons_zero, List.getD_cons_succ, List.set_cons_zero, List.set_cons_succ, List.cons_append, List.nil_append, List.append_nil, List.replicate, List.length_cons, List.length_nil, List.take_succ_cons, List.take_zero, List.drop_succ_cons, List.drop_zero, List.reverse_cons, List.reverse_nil, true_and, and_true, forall_const, not_true_eq_false, not_false_eq_true, false_implies, true_implies, implies_true, one0, m10, Nat.reduceAdd, Nat.reduceSub, Nat.reduceLeDiff, Nat.zero_add, Nat.add_zero]) | (apply h16; simp only [BX5_has_16, s_mth, s_mab, s_at, s_iconst, s_lconst, s_iload, s_lload, s_aload, s_istore, s_lstore, s_astore, s_iinc, s_bin, s_binG, s_un, s_lbin, s_lbinG, s_lsh, s_lcmp, s_i2l, s_l2i, s_dup, s_dup2, s_pop, s_if, s_icmp, s_geti, s_getl, s_getr, s_puti, s_putz, s_putl, s_iald, s_zald, s_iast, s_zast, s_aaldS, s_aaldU, s_gets, s_tald, s_tsw, tsw, s_iret, s_zret, s_lret, s_aret, s_vret, s_callV, s_callS, c1, nl1, keepL, csum, pushR, inL, List.getD_cons_zero, List.getD_cons_succ, List.set_cons_zero, List.set_cons_succ, List.cons_append, List.nil_append, List.append_nil, List.replicate, List.length_cons, List.length_nil, List.take_succ_cons, List.take_zero, List.drop_succ_cons, List.drop_zero, List.reverse_cons, List.reverse_nil, true_and, and_true, forall_const, not_true_eq_false, not_false_eq_true, false_implies, true_implies, implies_true, one0, m10, Nat.reduceAdd, Nat.reduceSub, Nat.reduceLeDiff, Nat.zero_add, Nat.add_zero]) | (apply h17; simp only [BX5_has_17, s_mth, s_mab, s_at, s_iconst, s_lconst, s_iload, s_lload, s_aload, s_istore, s_lstore, s_astore, s_iinc, s_bin, s_binG, s_un, s_lbin, s_lbinG, s_lsh, s_lcmp, s_i2l, s_l2i, s_dup, s_dup2, s_pop, s_if, s_icmp, s_geti, s_getl, s_getr, s_puti, s_putz, s_putl, s_iald, s_zald, s_iast, s_zast, s_aaldS, s_aaldU, s_gets, s_tald, s_tsw, tsw, s_iret, s_zret, s_lret, s_aret, s_vret, s_callV, s_callS, c1, nl1, keepL, csum, pushR, inL, List.getD_cons_zero, List.getD_cons_succ, List.set_cons_zero, List.set_cons_succ, List.cons_append, List.nil_append, List.append_nil, List.replicate, List.length_cons, List.length_nil, List.take_succ_cons, List.take_zero, List.drop_succ_cons, List.drop_zero, List.reverse_cons, List.reverse_nil, true_and, and_true, forall_const, not_true_eq_false, not_false_eq_true, false_implies, true_implies, implies_true, one0, m10, Nat.reduceAdd, Nat.reduceSub, Nat.reduceLeDiff, Nat.zero_add, Nat.add_zero])) | refine ⟨?_, ?_⟩ | intro hc)
  all_goals clear h0 h16 h17
  all_goals (first | exact hQ | (simp only [*, if_true, if_false] at hQ; exact hQ) | (simp [*] at hQ; simpa using hQ) | (exfalso; simp_all; done) | (simp_all; done))
theorem ct_X5_has (l : Launch) : Con l yX5_has cX5_has 2 (Option.some FieldType.boolean) 0 pre_X5_has fn_X5_has := con_of (by decide +kernel) ok_X5_has len_X5_has (fun p e s m args below meth c D ca ad A as M hX hr hp ho => pf_X5_has _ _ (bsX5_has_0 hX hr) (bsX5_has_16 hX hr) (bsX5_has_17 hX hr) as M ho hp ⟨rfl, rfl⟩)
theorem wi_1 {x y z : Int32} (h : ¬ wi x y z = 0) : ¬ x < y ∧ ¬ z < x := by
  unfold wi at h
  split at h
  · exact absurd rfl h
  · split at h
    · exact absurd rfl h
    · exact ⟨‹_›, ‹_›⟩
theorem wi_n {x z : Int32} {c : Nat} (hz : z = nI c) (hc : c < 2 ^ 31) (h : ¬ wi x 0 z = 0) : ∃ j, j ≤ c ∧ x = nI j := by
  obtain ⟨h1, h2⟩ := wi_1 h
  obtain ⟨j, hj, rfl⟩ := nI_of h1
  subst hz
  refine ⟨j, ?_, rfl⟩
  rcases Nat.lt_or_ge c j with g | g
  · exact absurd (nI_lt g hj) h2
  · exact g
def setR (M : mM) (u p r : Int32) : mM := if wi u 0 4 = 0 then M else if wi p 0 5 = 0 then M else mset (mset M 5 (u * 6 + p).toNatClampNeg r) 6 u.toNatClampNeg (p + 1)
def pre_X5_setRate (as : List mV) (M : mM) : Prop := ∃ k u p r, as = [.inr (.inr (5, k)), .inl u, .inl p, .inl r]
def fn_X5_setRate : List mV → mM → Option mV × mM
  | [.inr (.inr (_, k)), .inl u, .inl p, .inl r], M => (none, setR M u p r)
  | _, M => (none, M)
theorem ok_X5_setRate (as : List mV) (M : mM) (h : pre_X5_setRate as M) (_ : ∀ v ∈ as, okV v) : okR (fn_X5_setRate as M).1 := by
  obtain ⟨k, u, p, r, rfl⟩ := h
  first | trivial | exact (by decide +kernel : kof 14 = 8)
theorem len_X5_setRate (as : List mV) (M : mM) (h : pre_X5_setRate as M) : (inL as).length ≤ 4 := by
  obtain ⟨k, u, p, r, rfl⟩ := h
  exact Nat.le_of_ble_eq_true rfl

theorem fl_67 : FLk "FairBlocks$Plan" 21 5 3 16 := ⟨RX5, TX5, 5, rfl, inX5, by decide, w_67, by decide, rfl⟩
theorem fl_68 : FLk "FairBlocks$Plan" 25 5 4 16 := ⟨RX5, TX5, 5, rfl, inX5, by decide, w_68, by decide, rfl⟩
theorem dX5_setRate_0 : decode cX5_setRate 0 = .ok (.iload_n 1, 1) := by decide +kernel
theorem dX5_setRate_1 : decode cX5_setRate 1 = .ok (.iconst 0, 1) := by decide +kernel
theorem dX5_setRate_2 : decode cX5_setRate 2 = .ok (.iconst 4, 1) := by decide +kernel
theorem dX5_setRate_3 : decode cX5_setRate 3 = .ok (.invokestatic 28, 3) := by decide +kernel
theorem dX5_setRate_6 : decode cX5_setRate 6 = .ok (.ifCond .eq 33, 3) := by decide +kernel
theorem dX5_setRate_9 : decode cX5_setRate 9 = .ok (.iload_n 2, 1) := by decide +kernel
theorem dX5_setRate_10 : decode cX5_setRate 10 = .ok (.iconst 0, 1) := by decide +kernel
theorem dX5_setRate_11 : decode cX5_setRate 11 = .ok (.iconst 5, 1) := by decide +kernel
theorem dX5_setRate_12 : decode cX5_setRate 12 = .ok (.invokestatic 28, 3) := by decide +kernel
theorem dX5_setRate_15 : decode cX5_setRate 15 = .ok (.ifCond .eq 24, 3) := by decide +kernel
theorem dX5_setRate_18 : decode cX5_setRate 18 = .ok (.aload_n 0, 1) := by decide +kernel
theorem dX5_setRate_19 : decode cX5_setRate 19 = .ok (.getfield 21, 3) := by decide +kernel
theorem dX5_setRate_22 : decode cX5_setRate 22 = .ok (.iload_n 1, 1) := by decide +kernel
theorem dX5_setRate_23 : decode cX5_setRate 23 = .ok (.bipush 6, 2) := by decide +kernel
theorem dX5_setRate_25 : decode cX5_setRate 25 = .ok (.imul, 1) := by decide +kernel
theorem dX5_setRate_26 : decode cX5_setRate 26 = .ok (.iload_n 2, 1) := by decide +kernel
theorem dX5_setRate_27 : decode cX5_setRate 27 = .ok (.iadd, 1) := by decide +kernel
theorem dX5_setRate_28 : decode cX5_setRate 28 = .ok (.iload_n 3, 1) := by decide +kernel
theorem dX5_setRate_29 : decode cX5_setRate 29 = .ok (.iastore, 1) := by decide +kernel
theorem dX5_setRate_30 : decode cX5_setRate 30 = .ok (.aload_n 0, 1) := by decide +kernel
theorem dX5_setRate_31 : decode cX5_setRate 31 = .ok (.getfield 25, 3) := by decide +kernel
theorem dX5_setRate_34 : decode cX5_setRate 34 = .ok (.iload_n 1, 1) := by decide +kernel
theorem dX5_setRate_35 : decode cX5_setRate 35 = .ok (.iload_n 2, 1) := by decide +kernel
theorem dX5_setRate_36 : decode cX5_setRate 36 = .ok (.iconst 1, 1) := by decide +kernel
theorem dX5_setRate_37 : decode cX5_setRate 37 = .ok (.iadd, 1) := by decide +kernel
theorem dX5_setRate_38 : decode cX5_setRate 38 = .ok (.iastore, 1) := by decide +kernel
theorem dX5_setRate_39 : decode cX5_setRate 39 = .ok (.return_, 1) := by decide +kernel
theorem mk_X5_setRate : MVk yX5_setRate "FairBlocks$Plan" cX5_setRate 4 (Option.none : Option FieldType) 3 := ⟨w_387, w_385, w_386, w_4, rfl, by decide +kernel, by decide +kernel, by decide +kernel⟩
def BX5_setRate_0 (G : Nat → KT) (Q : Option mV → mM → Prop) : KT := (s_iload 1 (s_iconst (0) (s_iconst (4) (s_callS 3 pre_X11_within fn_X11_within (s_if (fun x => x = 0) (s_at G 39 [false, false, false, false]) (s_iload 2 (s_iconst (0) (s_iconst (5) (s_callS 3 pre_X11_within fn_X11_within (s_if (fun x => x = 0) (s_at G 39 [false, false, false, false]) (s_aload 0 (s_getr 5 13 (fun _ => 5) (s_iload 1 (s_iconst (6) (s_bin (fun x y => x * y) (s_iload 2 (s_bin (fun x y => x + y) (s_iload 3 (s_iast (s_aload 0 (s_getr 5 13 (fun _ => 6) (s_iload 1 (s_iload 2 (s_iconst (1) (s_bin (fun x y => x + y) (s_iast (s_at G 39 [false, false, false, false])))))))))))))))))))))))))))
set_option maxRecDepth 4000 in
theorem bsX5_setRate_0 {p : Program} {l : Launch} {e : Env} {s : State} {m : MethodId} {args : Array Value} {below : List Frame} {meth : Method} {c : Code} {D : va_G} {ca : Nat → ClassId} {ad : Nat → Nat} {A : Nat → Prop} {Q : Option mV → mM → Prop} (hX : CX p s m args meth c 4 cX5_setRate "FairBlocks$Plan" D ca ad A) (hr : meth.sig.returnType = (Option.none : Option FieldType)) : ∀ lv st M, BX5_setRate_0 (Gd p l e (rmD 1) s m args below meth c 4 D ca ad A 0 0 (MQ below (QC D ca ad A Q) args s 0 0 A)) Q lv st M → Gd p l e (rmD 1) s m args below meth c 4 D ca ad A 0 0 (MQ below (QC D ca ad A Q) args s 0 0 A) 0 lv st M :=
  (sd_iload_n hX dX5_setRate_0 rfl (sd_iconst hX dX5_setRate_1 rfl (sd_iconst hX dX5_setRate_2 rfl (sd_callSN hX (ct_X11_within l) mk_X11_within nw_5 ⟨⟨by decide, by decide⟩, by decide, by decide⟩ dX5_setRate_3 (sd_if_eq hX dX5_setRate_6 (by decide) sd_at (sd_iload_n hX dX5_setRate_9 rfl (sd_iconst hX dX5_setRate_10 rfl (sd_iconst hX dX5_setRate_11 rfl (sd_callSN hX (ct_X11_within l) mk_X11_within nw_5 ⟨⟨by decide, by decide⟩, by decide, by decide⟩ dX5_setRate_12 (sd_if_eq hX dX5_setRate_15 (by decide) sd_at (sd_aload_n hX dX5_setRate_18 rfl (sd_getr hX fl_67 (fun _ => rfl) (fun _ _ _ => by decide +kernel) dX5_setRate_19 (sd_iload_n hX dX5_setRate_22 rfl (sd_bipush hX dX5_setRate_23 rfl (sd_imul hX dX5_setRate_25 (sd_iload_n hX dX5_setRate_26 rfl (sd_iadd hX dX5_setRate_27 (sd_iload_n hX dX5_setRate_28 rfl (sd_iast hX dX5_setRate_29 (sd_aload_n hX dX5_setRate_30 rfl (sd_getr hX fl_68 (fun _ => rfl) (fun _ _ _ => by decide +kernel) dX5_setRate_31 (sd_iload_n hX dX5_setRate_34 rfl (sd_iload_n hX dX5_setRate_35 rfl (sd_iconst hX dX5_setRate_36 rfl (sd_iadd hX dX5_setRate_37 (sd_iast hX dX5_setRate_38 sd_at))))))))))))))))))))))))))
def BX5_setRate_39 (G : Nat → KT) (Q : Option mV → mM → Prop) : KT := (s_vret Q)
set_option maxRecDepth 4000 in
theorem bsX5_setRate_39 {p : Program} {l : Launch} {e : Env} {s : State} {m : MethodId} {args : Array Value} {below : List Frame} {meth : Method} {c : Code} {D : va_G} {ca : Nat → ClassId} {ad : Nat → Nat} {A : Nat → Prop} {Q : Option mV → mM → Prop} (hX : CX p s m args meth c 4 cX5_setRate "FairBlocks$Plan" D ca ad A) (hr : meth.sig.returnType = (Option.none : Option FieldType)) : ∀ lv st M, BX5_setRate_39 (Gd p l e (rmD 1) s m args below meth c 4 D ca ad A 0 0 (MQ below (QC D ca ad A Q) args s 0 0 A)) Q lv st M → Gd p l e (rmD 1) s m args below meth c 4 D ca ad A 0 0 (MQ below (QC D ca ad A Q) args s 0 0 A) 39 lv st M :=
  sd_vret hX hr dX5_setRate_39
set_option maxHeartbeats 400000 in
theorem pf_X5_setRate (G : Nat → KT) (Q : Option mV → mM → Prop) (h0 : ∀ lv st M, BX5_setRate_0 G Q lv st M → G 0 lv st M) (h39 : ∀ lv st M, BX5_setRate_39 G Q lv st M → G 39 lv st M) (as : List mV) (M : mM) (ho : ∀ v ∈ as, okV v) (hp : pre_X5_setRate as M) (hQ : Q (fn_X5_setRate as M).1 (fn_X5_setRate as M).2) : G 0 (inL as ++ List.replicate (4 - (inL as).length) none) [] M := by
  obtain ⟨k, u, p, r, rfl⟩ := hp
  obtain rfl : k = 4 := k5 (ho (.inr (.inr (5, k))) (by simp))
  simp only [fn_X5_setRate, setR] at hQ
  have h5 : ln 5 = 30 := by decide +kernel
  have h6 : ln 6 = 5 := by decide +kernel
  (apply h0; simp only [BX5_setRate_0, s_mth, s_mab, s_at, s_iconst, s_lconst, s_iload, s_lload, s_aload, s_istore, s_lstore, s_astore, s_iinc, s_bin, s_binG, s_un, s_lbin, s_lbinG, s_lsh, s_lcmp, s_i2l, s_l2i, s_dup, s_dup2, s_pop, s_if, s_icmp, s_geti, s_getl, s_getr, s_puti, s_putz, s_putl, s_iald, s_zald, s_iast, s_zast, s_aaldS, s_aaldU, s_gets, s_tald, s_tsw, tsw, s_iret, s_zret, s_lret, s_aret, s_vret, s_callV, s_callS, c1, nl1, keepL, csum, pushR, inL, List.getD_cons_zero, List.getD_cons_succ, List.set_cons_zero, List.set_cons_succ, List.cons_append, List.nil_append, List.append_nil, List.replicate, List.length_cons, List.length_nil, List.take_succ_cons, List.take_zero, List.drop_succ_cons, List.drop_zero, List.reverse_cons, List.reverse_nil, true_and, and_true, forall_const, not_true_eq_false, not_false_eq_true, false_implies, true_implies, implies_true, one0, m10, Nat.reduceAdd, Nat.reduceSub, Nat.reduceLeDiff, Nat.zero_add, Nat.add_zero, fn_X11_within])
  refine ⟨⟨_, _, _, rfl⟩, ?_⟩
  refine ⟨fun h => ?_, fun h => ⟨⟨_, _, _, rfl⟩, fun h2 => ?_, fun h2 => ?_⟩⟩
  · (apply h39; simp only [BX5_setRate_39, s_mth, s_mab, s_at, s_iconst, s_lconst, s_iload, s_lload, s_aload, s_istore, s_lstore, s_astore, s_iinc, s_bin, s_binG, s_un, s_lbin, s_lbinG, s_lsh, s_lcmp, s_i2l, s_l2i, s_dup, s_dup2, s_pop, s_if, s_icmp, s_geti, s_getl, s_getr, s_puti, s_putz, s_putl, s_iald, s_zald, s_iast, s_zast, s_aaldS, s_aaldU, s_gets, s_tald, s_tsw, tsw, s_iret, s_zret, s_lret, s_aret, s_vret, s_callV, s_callS, c1, nl1, keepL, csum, pushR, inL, List.getD_cons_zero, List.getD_cons_succ, List.set_cons_zero, List.set_cons_succ, List.cons_append, List.nil_append, List.append_nil, List.replicate, List.length_cons, List.length_nil, List.take_succ_cons, List.take_zero, List.drop_succ_cons, List.drop_zero, List.reverse_cons, List.reverse_nil, true_and, and_true, forall_const, not_true_eq_false, not_false_eq_true, false_implies, true_implies, implies_true, one0, m10, Nat.reduceAdd, Nat.reduceSub, Nat.reduceLeDiff, Nat.zero_add, Nat.add_zero, fn_X11_within])
    rw [if_pos h] at hQ
    exact hQ
  · (apply h39; simp only [BX5_setRate_39, s_mth, s_mab, s_at, s_iconst, s_lconst, s_iload, s_lload, s_aload, s_istore, s_lstore, s_astore, s_iinc, s_bin, s_binG, s_un, s_lbin, s_lbinG, s_lsh, s_lcmp, s_i2l, s_l2i, s_dup, s_dup2, s_pop, s_if, s_icmp, s_geti, s_getl, s_getr, s_puti, s_putz, s_putl, s_iald, s_zald, s_iast, s_zast, s_aaldS, s_aaldU, s_gets, s_tald, s_tsw, tsw, s_iret, s_zret, s_lret, s_aret, s_vret, s_callV, s_callS, c1, nl1, keepL, csum, pushR, inL, List.getD_cons_zero, List.getD_cons_succ, List.set_cons_zero, List.set_cons_succ, List.cons_append, List.nil_append, List.append_nil, List.replicate, List.length_cons, List.length_nil, List.take_succ_cons, List.take_zero, List.drop_succ_cons, List.drop_zero, List.reverse_cons, List.reverse_nil, true_and, and_true, forall_const, not_true_eq_false, not_false_eq_true, false_implies, true_implies, implies_true, one0, m10, Nat.reduceAdd, Nat.reduceSub, Nat.reduceLeDiff, Nat.zero_add, Nat.add_zero, fn_X11_within])
    rw [if_neg h, if_pos h2] at hQ
    exact hQ
  · rw [if_neg h, if_neg h2] at hQ
    obtain ⟨a, ha, rfl⟩ := wi_n (c := 4) rfl (by decide) h
    obtain ⟨b, hb, rfl⟩ := wi_n (c := 5) rfl (by decide) h2
    have e : nI a * 6 + nI b = nI (a * 6 + b) := by rw [show (6 : Int32) = nI 6 from rfl, pk_mul, nI_add]
    refine ⟨?_, ?_, ?_⟩
    · rw [e, h5]; exact vp_in_nI (by omega) (by decide)
    · rw [h6]; exact vp_in_nI (by omega) (by decide)
    · (apply h39; simp only [BX5_setRate_39, s_mth, s_mab, s_at, s_iconst, s_lconst, s_iload, s_lload, s_aload, s_istore, s_lstore, s_astore, s_iinc, s_bin, s_binG, s_un, s_lbin, s_lbinG, s_lsh, s_lcmp, s_i2l, s_l2i, s_dup, s_dup2, s_pop, s_if, s_icmp, s_geti, s_getl, s_getr, s_puti, s_putz, s_putl, s_iald, s_zald, s_iast, s_zast, s_aaldS, s_aaldU, s_gets, s_tald, s_tsw, tsw, s_iret, s_zret, s_lret, s_aret, s_vret, s_callV, s_callS, c1, nl1, keepL, csum, pushR, inL, List.getD_cons_zero, List.getD_cons_succ, List.set_cons_zero, List.set_cons_succ, List.cons_append, List.nil_append, List.append_nil, List.replicate, List.length_cons, List.length_nil, List.take_succ_cons, List.take_zero, List.drop_succ_cons, List.drop_zero, List.reverse_cons, List.reverse_nil, true_and, and_true, forall_const, not_true_eq_false, not_false_eq_true, false_implies, true_implies, implies_true, one0, m10, Nat.reduceAdd, Nat.reduceSub, Nat.reduceLeDiff, Nat.zero_add, Nat.add_zero, fn_X11_within])
      exact hQ
theorem ct_X5_setRate (l : Launch) : Con l yX5_setRate cX5_setRate 4 (Option.none : Option FieldType) 1 pre_X5_setRate fn_X5_setRate := con_of (by decide +kernel) ok_X5_setRate len_X5_setRate (fun p e s m args below meth c D ca ad A as M hX hr hp ho => pf_X5_setRate _ _ (bsX5_setRate_0 hX hr) (bsX5_setRate_39 hX hr) as M ho hp ⟨rfl, rfl⟩)
def PL (M : mM) : Prop := (∃ n, n ≤ 5 ∧ M.1 4 2 = nI n) ∧ (∀ u, u < 5 → ∃ m, m ≤ 6 ∧ M.1 6 u = nI m) ∧ ∃ B, B ≤ 4 ∧ M.1 4 0 = nI B
theorem PL_mset {M : mM} {k j : Nat} {v : Int32} (h : PL M) (h4 : k ≠ 4) (h6 : k ≠ 6) : PL (mset M k j v) := by
  unfold PL at h ⊢
  rw [mset_n (Ne.symm h4), mset_n (Ne.symm h6)]
  exact h
def rt (M : mM) (u c : Int32) : Int32 := if u < 0 then 0 else if M.1 4 2 ≤ u then 0 else if 0 ≤ c then (if M.1 6 u.toNatClampNeg ≤ 0 then 0 else M.1 5 (u * 6 + rm c (M.1 6 u.toNatClampNeg)).toNatClampNeg) else 0
def pre_X5_rateOf (as : List mV) (M : mM) : Prop := ∃ k u c, as = [.inr (.inr (5, k)), .inl u, .inl c] ∧ PL M
def fn_X5_rateOf : List mV → mM → Option mV × mM
  | [.inr (.inr (_, k)), .inl u, .inl c], M => (some (.inl (rt M u c)), M)
  | _, M => (none, M)
theorem ok_X5_rateOf (as : List mV) (M : mM) (h : pre_X5_rateOf as M) (_ : ∀ v ∈ as, okV v) : okR (fn_X5_rateOf as M).1 := by
  obtain ⟨k, u, c, rfl, -⟩ := h
  first | trivial | exact (by decide +kernel : kof 14 = 8)
theorem len_X5_rateOf (as : List mV) (M : mM) (h : pre_X5_rateOf as M) : (inL as).length ≤ 4 := by
  obtain ⟨k, u, c, rfl, -⟩ := h
  exact Nat.le_of_ble_eq_true rfl


theorem dX5_rateOf_0 : decode cX5_rateOf 0 = .ok (.iload_n 1, 1) := by decide +kernel
theorem dX5_rateOf_1 : decode cX5_rateOf 1 = .ok (.ifCond .lt 15, 3) := by decide +kernel
theorem dX5_rateOf_4 : decode cX5_rateOf 4 = .ok (.iload_n 1, 1) := by decide +kernel
theorem dX5_rateOf_5 : decode cX5_rateOf 5 = .ok (.aload_n 0, 1) := by decide +kernel
theorem dX5_rateOf_6 : decode cX5_rateOf 6 = .ok (.getfield 18, 3) := by decide +kernel
theorem dX5_rateOf_9 : decode cX5_rateOf 9 = .ok (.if_icmp .ge 7, 3) := by decide +kernel
theorem dX5_rateOf_12 : decode cX5_rateOf 12 = .ok (.iload_n 2, 1) := by decide +kernel
theorem dX5_rateOf_13 : decode cX5_rateOf 13 = .ok (.ifCond .ge 5, 3) := by decide +kernel
theorem dX5_rateOf_16 : decode cX5_rateOf 16 = .ok (.iconst 0, 1) := by decide +kernel
theorem dX5_rateOf_17 : decode cX5_rateOf 17 = .ok (.ireturn, 1) := by decide +kernel
theorem dX5_rateOf_18 : decode cX5_rateOf 18 = .ok (.aload_n 0, 1) := by decide +kernel
theorem dX5_rateOf_19 : decode cX5_rateOf 19 = .ok (.getfield 25, 3) := by decide +kernel
theorem dX5_rateOf_22 : decode cX5_rateOf 22 = .ok (.iload_n 1, 1) := by decide +kernel
theorem dX5_rateOf_23 : decode cX5_rateOf 23 = .ok (.iaload, 1) := by decide +kernel
theorem dX5_rateOf_24 : decode cX5_rateOf 24 = .ok (.istore_n 3, 1) := by decide +kernel
theorem dX5_rateOf_25 : decode cX5_rateOf 25 = .ok (.iload_n 3, 1) := by decide +kernel
theorem dX5_rateOf_26 : decode cX5_rateOf 26 = .ok (.ifCond .le 19, 3) := by decide +kernel
theorem dX5_rateOf_29 : decode cX5_rateOf 29 = .ok (.aload_n 0, 1) := by decide +kernel
theorem dX5_rateOf_30 : decode cX5_rateOf 30 = .ok (.getfield 21, 3) := by decide +kernel
theorem dX5_rateOf_33 : decode cX5_rateOf 33 = .ok (.iload_n 1, 1) := by decide +kernel
theorem dX5_rateOf_34 : decode cX5_rateOf 34 = .ok (.bipush 6, 2) := by decide +kernel
theorem dX5_rateOf_36 : decode cX5_rateOf 36 = .ok (.imul, 1) := by decide +kernel
theorem dX5_rateOf_37 : decode cX5_rateOf 37 = .ok (.iload_n 2, 1) := by decide +kernel
theorem dX5_rateOf_38 : decode cX5_rateOf 38 = .ok (.iload_n 3, 1) := by decide +kernel
theorem dX5_rateOf_39 : decode cX5_rateOf 39 = .ok (.irem, 1) := by decide +kernel
theorem dX5_rateOf_40 : decode cX5_rateOf 40 = .ok (.iadd, 1) := by decide +kernel
theorem dX5_rateOf_41 : decode cX5_rateOf 41 = .ok (.iaload, 1) := by decide +kernel
theorem dX5_rateOf_42 : decode cX5_rateOf 42 = .ok (.goto 4, 3) := by decide +kernel
theorem dX5_rateOf_45 : decode cX5_rateOf 45 = .ok (.iconst 0, 1) := by decide +kernel
theorem dX5_rateOf_46 : decode cX5_rateOf 46 = .ok (.ireturn, 1) := by decide +kernel
theorem mk_X5_rateOf : MVk yX5_rateOf "FairBlocks$Plan" cX5_rateOf 4 (Option.some FieldType.int) 2 := ⟨w_404, w_402, w_403, w_4, rfl, by decide +kernel, by decide +kernel, by decide +kernel⟩
def BX5_rateOf_0 (G : Nat → KT) (Q : Option mV → mM → Prop) : KT := (s_iload 1 (s_if (fun x => x < 0) (s_at G 16 [false, false, false, false]) (s_iload 1 (s_aload 0 (s_geti 5 2 (s_icmp (fun x y => y ≤ x) (s_at G 16 [false, false, false, false]) (s_iload 2 (s_if (fun x => 0 ≤ x) (s_at G 18 [true, true, true, false]) (s_at G 16 [false, false, false, false])))))))))
set_option maxRecDepth 4000 in
theorem bsX5_rateOf_0 {p : Program} {l : Launch} {e : Env} {s : State} {m : MethodId} {args : Array Value} {below : List Frame} {meth : Method} {c : Code} {D : va_G} {ca : Nat → ClassId} {ad : Nat → Nat} {A : Nat → Prop} {Q : Option mV → mM → Prop} (hX : CX p s m args meth c 4 cX5_rateOf "FairBlocks$Plan" D ca ad A) (hr : meth.sig.returnType = (Option.some FieldType.int)) : ∀ lv st M, BX5_rateOf_0 (Gd p l e (rmD 0) s m args below meth c 4 D ca ad A 0 0 (MQ below (QC D ca ad A Q) args s 0 0 A)) Q lv st M → Gd p l e (rmD 0) s m args below meth c 4 D ca ad A 0 0 (MQ below (QC D ca ad A Q) args s 0 0 A) 0 lv st M :=
  (sd_iload_n hX dX5_rateOf_0 rfl (sd_if_lt hX dX5_rateOf_1 (by decide) sd_at (sd_iload_n hX dX5_rateOf_4 rfl (sd_aload_n hX dX5_rateOf_5 rfl (sd_geti hX fl_60 (by decide) dX5_rateOf_6 (sd_icmp_ge hX dX5_rateOf_9 (by decide) sd_at (sd_iload_n hX dX5_rateOf_12 rfl (sd_if_ge hX dX5_rateOf_13 (by decide) sd_at sd_at))))))))
def BX5_rateOf_16 (G : Nat → KT) (Q : Option mV → mM → Prop) : KT := (s_iconst (0) (s_iret Q))
set_option maxRecDepth 4000 in
theorem bsX5_rateOf_16 {p : Program} {l : Launch} {e : Env} {s : State} {m : MethodId} {args : Array Value} {below : List Frame} {meth : Method} {c : Code} {D : va_G} {ca : Nat → ClassId} {ad : Nat → Nat} {A : Nat → Prop} {Q : Option mV → mM → Prop} (hX : CX p s m args meth c 4 cX5_rateOf "FairBlocks$Plan" D ca ad A) (hr : meth.sig.returnType = (Option.some FieldType.int)) : ∀ lv st M, BX5_rateOf_16 (Gd p l e (rmD 0) s m args below meth c 4 D ca ad A 0 0 (MQ below (QC D ca ad A Q) args s 0 0 A)) Q lv st M → Gd p l e (rmD 0) s m args below meth c 4 D ca ad A 0 0 (MQ below (QC D ca ad A Q) args s 0 0 A) 16 lv st M :=
  (sd_iconst hX dX5_rateOf_16 rfl (sd_iret hX hr dX5_rateOf_17))
def BX5_rateOf_18 (G : Nat → KT) (Q : Option mV → mM → Prop) : KT := (s_aload 0 (s_getr 5 13 (fun _ => 6) (s_iload 1 (s_iald (s_istore 3 (s_iload 3 (s_if (fun x => x ≤ 0) (s_at G 45 [false, false, false, false]) (s_aload 0 (s_getr 5 13 (fun _ => 5) (s_iload 1 (s_iconst (6) (s_bin (fun x y => x * y) (s_iload 2 (s_iload 3 (s_binG (fun x y => x - x / y * y) (s_bin (fun x y => x + y) (s_iald (s_at G 46 [false, false, false, false]))))))))))))))))))
set_option maxRecDepth 4000 in
theorem bsX5_rateOf_18 {p : Program} {l : Launch} {e : Env} {s : State} {m : MethodId} {args : Array Value} {below : List Frame} {meth : Method} {c : Code} {D : va_G} {ca : Nat → ClassId} {ad : Nat → Nat} {A : Nat → Prop} {Q : Option mV → mM → Prop} (hX : CX p s m args meth c 4 cX5_rateOf "FairBlocks$Plan" D ca ad A) (hr : meth.sig.returnType = (Option.some FieldType.int)) : ∀ lv st M, BX5_rateOf_18 (Gd p l e (rmD 0) s m args below meth c 4 D ca ad A 0 0 (MQ below (QC D ca ad A Q) args s 0 0 A)) Q lv st M → Gd p l e (rmD 0) s m args below meth c 4 D ca ad A 0 0 (MQ below (QC D ca ad A Q) args s 0 0 A) 18 lv st M :=
  (sd_aload_n hX dX5_rateOf_18 rfl (sd_getr hX fl_68 (fun _ => rfl) (fun _ _ _ => by decide +kernel) dX5_rateOf_19 (sd_iload_n hX dX5_rateOf_22 rfl (sd_iald hX dX5_rateOf_23 (sd_istore_n hX (by decide) dX5_rateOf_24 rfl (sd_iload_n hX dX5_rateOf_25 rfl (sd_if_le hX dX5_rateOf_26 (by decide) sd_at (sd_aload_n hX dX5_rateOf_29 rfl (sd_getr hX fl_67 (fun _ => rfl) (fun _ _ _ => by decide +kernel) dX5_rateOf_30 (sd_iload_n hX dX5_rateOf_33 rfl (sd_bipush hX dX5_rateOf_34 rfl (sd_imul hX dX5_rateOf_36 (sd_iload_n hX dX5_rateOf_37 rfl (sd_iload_n hX dX5_rateOf_38 rfl (sd_irem hX dX5_rateOf_39 (sd_iadd hX dX5_rateOf_40 (sd_iald hX dX5_rateOf_41 (sd_goto hX dX5_rateOf_42 (by decide) sd_at))))))))))))))))))
def BX5_rateOf_45 (G : Nat → KT) (Q : Option mV → mM → Prop) : KT := (s_iconst (0) (s_at G 46 [false, false, false, false]))
set_option maxRecDepth 4000 in
theorem bsX5_rateOf_45 {p : Program} {l : Launch} {e : Env} {s : State} {m : MethodId} {args : Array Value} {below : List Frame} {meth : Method} {c : Code} {D : va_G} {ca : Nat → ClassId} {ad : Nat → Nat} {A : Nat → Prop} {Q : Option mV → mM → Prop} (hX : CX p s m args meth c 4 cX5_rateOf "FairBlocks$Plan" D ca ad A) (hr : meth.sig.returnType = (Option.some FieldType.int)) : ∀ lv st M, BX5_rateOf_45 (Gd p l e (rmD 0) s m args below meth c 4 D ca ad A 0 0 (MQ below (QC D ca ad A Q) args s 0 0 A)) Q lv st M → Gd p l e (rmD 0) s m args below meth c 4 D ca ad A 0 0 (MQ below (QC D ca ad A Q) args s 0 0 A) 45 lv st M :=
  (sd_iconst hX dX5_rateOf_45 rfl sd_at)
def BX5_rateOf_46 (G : Nat → KT) (Q : Option mV → mM → Prop) : KT := (s_iret Q)
set_option maxRecDepth 4000 in
theorem bsX5_rateOf_46 {p : Program} {l : Launch} {e : Env} {s : State} {m : MethodId} {args : Array Value} {below : List Frame} {meth : Method} {c : Code} {D : va_G} {ca : Nat → ClassId} {ad : Nat → Nat} {A : Nat → Prop} {Q : Option mV → mM → Prop} (hX : CX p s m args meth c 4 cX5_rateOf "FairBlocks$Plan" D ca ad A) (hr : meth.sig.returnType = (Option.some FieldType.int)) : ∀ lv st M, BX5_rateOf_46 (Gd p l e (rmD 0) s m args below meth c 4 D ca ad A 0 0 (MQ below (QC D ca ad A Q) args s 0 0 A)) Q lv st M → Gd p l e (rmD 0) s m args below meth c 4 D ca ad A 0 0 (MQ below (QC D ca ad A Q) args s 0 0 A) 46 lv st M :=
  sd_iret hX hr dX5_rateOf_46
set_option maxHeartbeats 400000 in
theorem pf_X5_rateOf (G : Nat → KT) (Q : Option mV → mM → Prop) (h0 : ∀ lv st M, BX5_rateOf_0 G Q lv st M → G 0 lv st M) (h16 : ∀ lv st M, BX5_rateOf_16 G Q lv st M → G 16 lv st M) (h18 : ∀ lv st M, BX5_rateOf_18 G Q lv st M → G 18 lv st M) (h45 : ∀ lv st M, BX5_rateOf_45 G Q lv st M → G 45 lv st M) (h46 : ∀ lv st M, BX5_rateOf_46 G Q lv st M → G 46 lv st M) (as : List mV) (M : mM) (ho : ∀ v ∈ as, okV v) (hp : pre_X5_rateOf as M) (hQ : Q (fn_X5_rateOf as M).1 (fn_X5_rateOf as M).2) : G 0 (inL as ++ List.replicate (4 - (inL as).length) none) [] M := by
  obtain ⟨k, u, c, rfl, hPL⟩ := hp
  obtain rfl : k = 4 := k5 (ho (.inr (.inr (5, k))) (by simp))
  obtain ⟨⟨n, hn, en⟩, hm, -⟩ := hPL
  simp only [fn_X5_rateOf, rt] at hQ
  have h5 : ln 5 = 30 := by decide +kernel
  have h6 : ln 6 = 5 := by decide +kernel
  have z : Q (some (.inl 0)) M → G 16 [none, none, none, none] [] M := by
    intro hq
    (apply h16; simp only [BX5_rateOf_16, s_mth, s_mab, s_at, s_iconst, s_lconst, s_iload, s_lload, s_aload, s_istore, s_lstore, s_astore, s_iinc, s_bin, s_binG, s_un, s_lbin, s_lbinG, s_lsh, s_lcmp, s_i2l, s_l2i, s_dup, s_dup2, s_pop, s_if, s_icmp, s_geti, s_getl, s_getr, s_puti, s_putz, s_putl, s_iald, s_zald, s_iast, s_zast, s_aaldS, s_aaldU, s_gets, s_tald, s_tsw, tsw, s_iret, s_zret, s_lret, s_aret, s_vret, s_callV, s_callS, c1, nl1, keepL, csum, pushR, inL, List.getD_cons_zero, List.getD_cons_succ, List.set_cons_zero, List.set_cons_succ, List.cons_append, List.nil_append, List.append_nil, List.replicate, List.length_cons, List.length_nil, List.take_succ_cons, List.take_zero, List.drop_succ_cons, List.drop_zero, List.reverse_cons, List.reverse_nil, true_and, and_true, forall_const, not_true_eq_false, not_false_eq_true, false_implies, true_implies, implies_true, one0, m10, Nat.reduceAdd, Nat.reduceSub, Nat.reduceLeDiff, Nat.zero_add, Nat.add_zero])
    exact hq
  (apply h0; simp only [BX5_rateOf_0, s_mth, s_mab, s_at, s_iconst, s_lconst, s_iload, s_lload, s_aload, s_istore, s_lstore, s_astore, s_iinc, s_bin, s_binG, s_un, s_lbin, s_lbinG, s_lsh, s_lcmp, s_i2l, s_l2i, s_dup, s_dup2, s_pop, s_if, s_icmp, s_geti, s_getl, s_getr, s_puti, s_putz, s_putl, s_iald, s_zald, s_iast, s_zast, s_aaldS, s_aaldU, s_gets, s_tald, s_tsw, tsw, s_iret, s_zret, s_lret, s_aret, s_vret, s_callV, s_callS, c1, nl1, keepL, csum, pushR, inL, List.getD_cons_zero, List.getD_cons_succ, List.set_cons_zero, List.set_cons_succ, List.cons_append, List.nil_append, List.append_nil, List.replicate, List.length_cons, List.length_nil, List.take_succ_cons, List.take_zero, List.drop_succ_cons, List.drop_zero, List.reverse_cons, List.reverse_nil, true_and, and_true, forall_const, not_true_eq_false, not_false_eq_true, false_implies, true_implies, implies_true, one0, m10, Nat.reduceAdd, Nat.reduceSub, Nat.reduceLeDiff, Nat.zero_add, Nat.add_zero])
  refine ⟨fun h => ?_, fun h => ⟨fun h2 => ?_, fun h2 => ⟨fun h3 => ?_, fun h3 => ?_⟩⟩⟩
  · rw [if_pos h] at hQ; exact z hQ
  · rw [if_neg h, if_pos h2] at hQ; exact z hQ
  · rw [if_neg h, if_neg h2, if_pos h3] at hQ
    obtain ⟨j, hj, rfl⟩ := nI_of h
    rw [en] at h2
    have hjn : j < n := by
      rcases Nat.lt_or_ge j n with g | g
      · exact g
      · exact absurd (nI_le g hj) h2
    rw [nI_clamp hj] at hQ
    obtain ⟨m, hm6, em⟩ := hm j (by omega)
    (apply h18; simp only [BX5_rateOf_18, s_mth, s_mab, s_at, s_iconst, s_lconst, s_iload, s_lload, s_aload, s_istore, s_lstore, s_astore, s_iinc, s_bin, s_binG, s_un, s_lbin, s_lbinG, s_lsh, s_lcmp, s_i2l, s_l2i, s_dup, s_dup2, s_pop, s_if, s_icmp, s_geti, s_getl, s_getr, s_puti, s_putz, s_putl, s_iald, s_zald, s_iast, s_zast, s_aaldS, s_aaldU, s_gets, s_tald, s_tsw, tsw, s_iret, s_zret, s_lret, s_aret, s_vret, s_callV, s_callS, c1, nl1, keepL, csum, pushR, inL, List.getD_cons_zero, List.getD_cons_succ, List.set_cons_zero, List.set_cons_succ, List.cons_append, List.nil_append, List.append_nil, List.replicate, List.length_cons, List.length_nil, List.take_succ_cons, List.take_zero, List.drop_succ_cons, List.drop_zero, List.reverse_cons, List.reverse_nil, true_and, and_true, forall_const, not_true_eq_false, not_false_eq_true, false_implies, true_implies, implies_true, one0, m10, Nat.reduceAdd, Nat.reduceSub, Nat.reduceLeDiff, Nat.zero_add, Nat.add_zero])
    rw [nI_clamp hj, h6]
    refine ⟨vp_in_nI (by omega) (by decide), fun h4 => ?_, fun h4 => ?_⟩
    · (apply h45; simp only [BX5_rateOf_45, s_mth, s_mab, s_at, s_iconst, s_lconst, s_iload, s_lload, s_aload, s_istore, s_lstore, s_astore, s_iinc, s_bin, s_binG, s_un, s_lbin, s_lbinG, s_lsh, s_lcmp, s_i2l, s_l2i, s_dup, s_dup2, s_pop, s_if, s_icmp, s_geti, s_getl, s_getr, s_puti, s_putz, s_putl, s_iald, s_zald, s_iast, s_zast, s_aaldS, s_aaldU, s_gets, s_tald, s_tsw, tsw, s_iret, s_zret, s_lret, s_aret, s_vret, s_callV, s_callS, c1, nl1, keepL, csum, pushR, inL, List.getD_cons_zero, List.getD_cons_succ, List.set_cons_zero, List.set_cons_succ, List.cons_append, List.nil_append, List.append_nil, List.replicate, List.length_cons, List.length_nil, List.take_succ_cons, List.take_zero, List.drop_succ_cons, List.drop_zero, List.reverse_cons, List.reverse_nil, true_and, and_true, forall_const, not_true_eq_false, not_false_eq_true, false_implies, true_implies, implies_true, one0, m10, Nat.reduceAdd, Nat.reduceSub, Nat.reduceLeDiff, Nat.zero_add, Nat.add_zero])
      (apply h46; simp only [BX5_rateOf_46, s_mth, s_mab, s_at, s_iconst, s_lconst, s_iload, s_lload, s_aload, s_istore, s_lstore, s_astore, s_iinc, s_bin, s_binG, s_un, s_lbin, s_lbinG, s_lsh, s_lcmp, s_i2l, s_l2i, s_dup, s_dup2, s_pop, s_if, s_icmp, s_geti, s_getl, s_getr, s_puti, s_putz, s_putl, s_iald, s_zald, s_iast, s_zast, s_aaldS, s_aaldU, s_gets, s_tald, s_tsw, tsw, s_iret, s_zret, s_lret, s_aret, s_vret, s_callV, s_callS, c1, nl1, keepL, csum, pushR, inL, List.getD_cons_zero, List.getD_cons_succ, List.set_cons_zero, List.set_cons_succ, List.cons_append, List.nil_append, List.append_nil, List.replicate, List.length_cons, List.length_nil, List.take_succ_cons, List.take_zero, List.drop_succ_cons, List.drop_zero, List.reverse_cons, List.reverse_nil, true_and, and_true, forall_const, not_true_eq_false, not_false_eq_true, false_implies, true_implies, implies_true, one0, m10, Nat.reduceAdd, Nat.reduceSub, Nat.reduceLeDiff, Nat.zero_add, Nat.add_zero])
      rw [if_pos h4] at hQ
      exact hQ
    · rw [if_neg h4] at hQ
      have hm0 : 0 < m := by
        rcases Nat.eq_zero_or_pos m with g | g
        · subst g; rw [em] at h4; exact absurd (by decide) h4
        · exact g
      obtain ⟨cc, hcc, rfl⟩ := nI_of (x := c) (by
        intro h
        exact absurd h3 (by rw [Int32.le_iff_toInt_le]; rw [Int32.lt_iff_toInt_lt] at h; omega))
      have er : nI cc - nI cc / M.1 6 j * M.1 6 j = nI (cc % m) := by rw [em]; exact pk_rem hcc hm0 (by omega)
      have hml := Nat.mod_lt cc hm0
      have e : nI j * 6 + (nI cc - nI cc / M.1 6 j * M.1 6 j) = nI (j * 6 + cc % m) := by rw [er, show (6 : Int32) = nI 6 from rfl, pk_mul, nI_add]
      refine ⟨?_, ?_, ?_⟩
      · rw [em]
        exact nI_ne0 hm0 (by omega)
      · rw [e, h5]
        exact vp_in_nI (by omega) (by decide)
      · (apply h46; simp only [BX5_rateOf_46, s_mth, s_mab, s_at, s_iconst, s_lconst, s_iload, s_lload, s_aload, s_istore, s_lstore, s_astore, s_iinc, s_bin, s_binG, s_un, s_lbin, s_lbinG, s_lsh, s_lcmp, s_i2l, s_l2i, s_dup, s_dup2, s_pop, s_if, s_icmp, s_geti, s_getl, s_getr, s_puti, s_putz, s_putl, s_iald, s_zald, s_iast, s_zast, s_aaldS, s_aaldU, s_gets, s_tald, s_tsw, tsw, s_iret, s_zret, s_lret, s_aret, s_vret, s_callV, s_callS, c1, nl1, keepL, csum, pushR, inL, List.getD_cons_zero, List.getD_cons_succ, List.set_cons_zero, List.set_cons_succ, List.cons_append, List.nil_append, List.append_nil, List.replicate, List.length_cons, List.length_nil, List.take_succ_cons, List.take_zero, List.drop_succ_cons, List.drop_zero, List.reverse_cons, List.reverse_nil, true_and, and_true, forall_const, not_true_eq_false, not_false_eq_true, false_implies, true_implies, implies_true, one0, m10, Nat.reduceAdd, Nat.reduceSub, Nat.reduceLeDiff, Nat.zero_add, Nat.add_zero])
        exact hQ
  · rw [if_neg h, if_neg h2, if_neg h3] at hQ; exact z hQ
theorem ct_X5_rateOf (l : Launch) : Con l yX5_rateOf cX5_rateOf 4 (Option.some FieldType.int) 0 pre_X5_rateOf fn_X5_rateOf := con_of (by decide +kernel) ok_X5_rateOf len_X5_rateOf (fun p e s m args below meth c D ca ad A as M hX hr hp ho => pf_X5_rateOf _ _ (bsX5_rateOf_0 hX hr) (bsX5_rateOf_16 hX hr) (bsX5_rateOf_18 hX hr) (bsX5_rateOf_45 hX hr) (bsX5_rateOf_46 hX hr) as M ho hp ⟨rfl, rfl⟩)
/-! Acts, Bench -/
def AC (M : mM) : Prop := ∃ f z, f < 14 ∧ z ≤ 14 ∧ M.1 26 1 = nI f ∧ M.1 26 2 = nI z
def remA (M : mM) : mM := if M.1 26 2 = 14 then mset (mset M 26 1 (rm (M.1 26 1 + 1) 14)) 26 2 (M.1 26 2 - 1) else M
def remB (M : mM) (o : Nat) : mM := stc M (28 + 7 * (rm (M.1 26 1 + M.1 26 2) 14).toNatClampNeg) o
def remC (M : mM) : mM := mset M 26 2 (M.1 26 2 + 1)
theorem rm14 {a : Nat} (ha : a < 2 ^ 31) : rm (nI a) 14 = nI (a % 14) := pk_rem ha (by decide) (by decide)
theorem remA_ac {M : mM} (h : AC M) : ∃ f z, f < 14 ∧ z ≤ 13 ∧ (remA M).1 26 1 = nI f ∧ (remA M).1 26 2 = nI z := by
  obtain ⟨f, z, hf, hz, e1, e2⟩ := h
  unfold remA
  split
  · next h =>
    refine ⟨(f + 1) % 14, 13, Nat.mod_lt _ (by decide), by decide, ?_, ?_⟩
    · rw [mset_get, if_neg (by decide), mset_get, if_pos ⟨rfl, rfl⟩, e1, nI_1, rm14 (by omega)]
    · rw [mset_get, if_pos ⟨rfl, rfl⟩, h]; rfl
  · next h =>
    refine ⟨f, z, hf, ?_, e1, e2⟩
    rcases Nat.lt_or_ge z 14 with g | g
    · omega
    · obtain rfl : z = 14 := by omega
      exact absurd e2 h
theorem OF_mset {M : mM} {k j : Nat} {v : Int32} (h : OF M) (hk : kof k ≠ 10) : OF (mset M k j v) := by
  intro a ha
  rw [mset_get, if_neg (fun g => hk (by rw [← g.1]; exact ha))]
  exact h a ha
theorem OF_remA {M : mM} (h : OF M) : OF (remA M) := by
  unfold remA
  split
  · exact OF_mset (OF_mset h (by decide +kernel)) (by decide +kernel)
  · exact h
def pre_X0_remember (as : List mV) (M : mM) : Prop := ∃ k o, as = [.inr (.inr (0, k)), .inr (.inr (8, o))] ∧ OF M ∧ AC M
def fn_X0_remember : List mV → mM → Option mV × mM
  | [.inr (.inr (_, k)), .inr (.inr (_, o))], M => (none, remC (remB (remA M) o))
  | _, M => (none, M)
theorem ok_X0_remember (as : List mV) (M : mM) (h : pre_X0_remember as M) (_ : ∀ v ∈ as, okV v) : okR (fn_X0_remember as M).1 := by
  obtain ⟨k, o, rfl, -⟩ := h
  first | trivial | exact (by decide +kernel : kof 14 = 8)
theorem len_X0_remember (as : List mV) (M : mM) (h : pre_X0_remember as M) : (inL as).length ≤ 2 := by
  obtain ⟨k, o, rfl, -⟩ := h
  exact Nat.le_of_ble_eq_true rfl

theorem fl_223 : FLk "FairBlocks$Acts" 11 0 0 18 := ⟨RX0, TX0, 3, rfl, inX0, by decide, w_223, by decide, rfl⟩
theorem fl_224 : FLk "FairBlocks$Acts" 17 0 1 0 := ⟨RX0, TX0, 3, rfl, inX0, by decide, w_224, by decide, rfl⟩
theorem fl_225 : FLk "FairBlocks$Acts" 21 0 2 0 := ⟨RX0, TX0, 3, rfl, inX0, by decide, w_225, by decide, rfl⟩
theorem fp_224 : FPk "FairBlocks$Acts" 17 0 1 0 .int := ⟨RX0, TX0, 3, tyX0, rfl, inX0, by decide, w_224, by decide, rfl, tyX0_ok, nmX0, rfl, rfl⟩
theorem fp_225 : FPk "FairBlocks$Acts" 21 0 2 0 .int := ⟨RX0, TX0, 3, tyX0, rfl, inX0, by decide, w_225, by decide, rfl, tyX0_ok, nmX0, rfl, rfl⟩
theorem dX0_remember_0 : decode cX0_remember 0 = .ok (.aload_n 0, 1) := by decide +kernel
theorem dX0_remember_1 : decode cX0_remember 1 = .ok (.getfield 21, 3) := by decide +kernel
theorem dX0_remember_4 : decode cX0_remember 4 = .ok (.bipush 14, 2) := by decide +kernel
theorem dX0_remember_6 : decode cX0_remember 6 = .ok (.if_icmp .ne 26, 3) := by decide +kernel
theorem dX0_remember_9 : decode cX0_remember 9 = .ok (.aload_n 0, 1) := by decide +kernel
theorem dX0_remember_10 : decode cX0_remember 10 = .ok (.aload_n 0, 1) := by decide +kernel
theorem dX0_remember_11 : decode cX0_remember 11 = .ok (.getfield 17, 3) := by decide +kernel
theorem dX0_remember_14 : decode cX0_remember 14 = .ok (.iconst 1, 1) := by decide +kernel
theorem dX0_remember_15 : decode cX0_remember 15 = .ok (.iadd, 1) := by decide +kernel
theorem dX0_remember_16 : decode cX0_remember 16 = .ok (.bipush 14, 2) := by decide +kernel
theorem dX0_remember_18 : decode cX0_remember 18 = .ok (.irem, 1) := by decide +kernel
theorem dX0_remember_19 : decode cX0_remember 19 = .ok (.putfield 17, 3) := by decide +kernel
theorem dX0_remember_22 : decode cX0_remember 22 = .ok (.aload_n 0, 1) := by decide +kernel
theorem dX0_remember_23 : decode cX0_remember 23 = .ok (.dup, 1) := by decide +kernel
theorem dX0_remember_24 : decode cX0_remember 24 = .ok (.getfield 21, 3) := by decide +kernel
theorem dX0_remember_27 : decode cX0_remember 27 = .ok (.iconst 1, 1) := by decide +kernel
theorem dX0_remember_28 : decode cX0_remember 28 = .ok (.isub, 1) := by decide +kernel
theorem dX0_remember_29 : decode cX0_remember 29 = .ok (.putfield 21, 3) := by decide +kernel
theorem dX0_remember_32 : decode cX0_remember 32 = .ok (.aload_n 0, 1) := by decide +kernel
theorem dX0_remember_33 : decode cX0_remember 33 = .ok (.getfield 11, 3) := by decide +kernel
theorem dX0_remember_36 : decode cX0_remember 36 = .ok (.aload_n 0, 1) := by decide +kernel
theorem dX0_remember_37 : decode cX0_remember 37 = .ok (.getfield 17, 3) := by decide +kernel
theorem dX0_remember_40 : decode cX0_remember 40 = .ok (.aload_n 0, 1) := by decide +kernel
theorem dX0_remember_41 : decode cX0_remember 41 = .ok (.getfield 21, 3) := by decide +kernel
theorem dX0_remember_44 : decode cX0_remember 44 = .ok (.iadd, 1) := by decide +kernel
theorem dX0_remember_45 : decode cX0_remember 45 = .ok (.bipush 14, 2) := by decide +kernel
theorem dX0_remember_47 : decode cX0_remember 47 = .ok (.irem, 1) := by decide +kernel
theorem dX0_remember_48 : decode cX0_remember 48 = .ok (.aaload, 1) := by decide +kernel
theorem dX0_remember_49 : decode cX0_remember 49 = .ok (.aload_n 1, 1) := by decide +kernel
theorem dX0_remember_50 : decode cX0_remember 50 = .ok (.invokevirtual 25, 3) := by decide +kernel
theorem dX0_remember_53 : decode cX0_remember 53 = .ok (.aload_n 0, 1) := by decide +kernel
theorem dX0_remember_54 : decode cX0_remember 54 = .ok (.dup, 1) := by decide +kernel
theorem dX0_remember_55 : decode cX0_remember 55 = .ok (.getfield 21, 3) := by decide +kernel
theorem dX0_remember_58 : decode cX0_remember 58 = .ok (.iconst 1, 1) := by decide +kernel
theorem dX0_remember_59 : decode cX0_remember 59 = .ok (.iadd, 1) := by decide +kernel
theorem dX0_remember_60 : decode cX0_remember 60 = .ok (.putfield 21, 3) := by decide +kernel
theorem dX0_remember_63 : decode cX0_remember 63 = .ok (.return_, 1) := by decide +kernel
theorem mk_X0_remember : MVk yX0_remember "FairBlocks$Acts" cX0_remember 2 (Option.none : Option FieldType) 1 := ⟨w_416, w_414, w_415, w_8, rfl, by decide +kernel, by decide +kernel, by decide +kernel⟩
def BX0_remember_0 (G : Nat → KT) (Q : Option mV → mM → Prop) : KT := (s_aload 0 (s_geti 0 2 (s_iconst (14) (s_icmp (fun x y => x = y) ((s_aload 0 (s_aload 0 (s_geti 0 1 (s_iconst (1) (s_bin (fun x y => x + y) (s_iconst (14) (s_binG (fun x y => x - x / y * y) (s_puti 0 1 (s_aload 0 (s_dup (s_geti 0 2 (s_iconst (1) (s_bin (fun x y => x - y) (s_puti 0 2 (s_at G 32 [true, true])))))))))))))))) (s_at G 32 [true, true])))))
set_option maxRecDepth 4000 in
theorem bsX0_remember_0 {p : Program} {l : Launch} {e : Env} {s : State} {m : MethodId} {args : Array Value} {below : List Frame} {meth : Method} {c : Code} {D : va_G} {ca : Nat → ClassId} {ad : Nat → Nat} {A : Nat → Prop} {Q : Option mV → mM → Prop} (hX : CX p s m args meth c 2 cX0_remember "FairBlocks$Acts" D ca ad A) (hr : meth.sig.returnType = (Option.none : Option FieldType)) : ∀ lv st M, BX0_remember_0 (Gd p l e (rmD 2) s m args below meth c 2 D ca ad A 0 0 (MQ below (QC D ca ad A Q) args s 0 0 A)) Q lv st M → Gd p l e (rmD 2) s m args below meth c 2 D ca ad A 0 0 (MQ below (QC D ca ad A Q) args s 0 0 A) 0 lv st M :=
  (sd_aload_n hX dX0_remember_0 rfl (sd_geti hX fl_225 (by decide) dX0_remember_1 (sd_bipush hX dX0_remember_4 rfl (sd_icmp_ne hX dX0_remember_6 (by decide) sd_at (sd_aload_n hX dX0_remember_9 rfl (sd_aload_n hX dX0_remember_10 rfl (sd_geti hX fl_224 (by decide) dX0_remember_11 (sd_iconst hX dX0_remember_14 rfl (sd_iadd hX dX0_remember_15 (sd_bipush hX dX0_remember_16 rfl (sd_irem hX dX0_remember_18 (sd_puti hX fp_224 dX0_remember_19 (sd_aload_n hX dX0_remember_22 rfl (sd_dup hX dX0_remember_23 (sd_geti hX fl_225 (by decide) dX0_remember_24 (sd_iconst hX dX0_remember_27 rfl (sd_isub hX dX0_remember_28 (sd_puti hX fp_225 dX0_remember_29 sd_at))))))))))))))))))
def BX0_remember_32 (G : Nat → KT) (Q : Option mV → mM → Prop) : KT := (s_aload 0 (s_getr 0 15 (fun _ => 27) (s_aload 0 (s_geti 0 1 (s_aload 0 (s_geti 0 2 (s_bin (fun x y => x + y) (s_iconst (14) (s_binG (fun x y => x - x / y * y) (s_aaldS (s_aload 1 (s_callV 8 1 pre_X8_copyFrom fn_X8_copyFrom (s_aload 0 (s_dup (s_geti 0 2 (s_iconst (1) (s_bin (fun x y => x + y) (s_puti 0 2 (s_vret Q)))))))))))))))))))
set_option maxRecDepth 4000 in
theorem bsX0_remember_32 {p : Program} {l : Launch} {e : Env} {s : State} {m : MethodId} {args : Array Value} {below : List Frame} {meth : Method} {c : Code} {D : va_G} {ca : Nat → ClassId} {ad : Nat → Nat} {A : Nat → Prop} {Q : Option mV → mM → Prop} (hX : CX p s m args meth c 2 cX0_remember "FairBlocks$Acts" D ca ad A) (hr : meth.sig.returnType = (Option.none : Option FieldType)) : ∀ lv st M, BX0_remember_32 (Gd p l e (rmD 2) s m args below meth c 2 D ca ad A 0 0 (MQ below (QC D ca ad A Q) args s 0 0 A)) Q lv st M → Gd p l e (rmD 2) s m args below meth c 2 D ca ad A 0 0 (MQ below (QC D ca ad A Q) args s 0 0 A) 32 lv st M :=
  (sd_aload_n hX dX0_remember_32 rfl (sd_getr hX fl_223 (fun _ => rfl) (fun _ _ _ => by decide +kernel) dX0_remember_33 (sd_aload_n hX dX0_remember_36 rfl (sd_geti hX fl_224 (by decide) dX0_remember_37 (sd_aload_n hX dX0_remember_40 rfl (sd_geti hX fl_225 (by decide) dX0_remember_41 (sd_iadd hX dX0_remember_44 (sd_bipush hX dX0_remember_45 rfl (sd_irem hX dX0_remember_47 (sd_aaldS hX dX0_remember_48 (sd_aload_n hX dX0_remember_49 rfl (sd_callV hX (kd := 8) rfl (by decide) (ct_X8_copyFrom l) mk_X8_copyFrom w_417 ⟨⟨by decide, by decide⟩, by decide, by decide⟩ dX0_remember_50 (sd_aload_n hX dX0_remember_53 rfl (sd_dup hX dX0_remember_54 (sd_geti hX fl_225 (by decide) dX0_remember_55 (sd_iconst hX dX0_remember_58 rfl (sd_iadd hX dX0_remember_59 (sd_puti hX fp_225 dX0_remember_60 (sd_vret hX hr dX0_remember_63)))))))))))))))))))
set_option maxHeartbeats 400000 in
theorem pf_X0_remember (G : Nat → KT) (Q : Option mV → mM → Prop) (h0 : ∀ lv st M, BX0_remember_0 G Q lv st M → G 0 lv st M) (h32 : ∀ lv st M, BX0_remember_32 G Q lv st M → G 32 lv st M) (as : List mV) (M : mM) (ho : ∀ v ∈ as, okV v) (hp : pre_X0_remember as M) (hQ : Q (fn_X0_remember as M).1 (fn_X0_remember as M).2) : G 0 (inL as ++ List.replicate (2 - (inL as).length) none) [] M := by
  obtain ⟨k, o, rfl, hF, hA⟩ := hp
  obtain rfl : k = 26 := k0 (ho (.inr (.inr (0, k))) (by simp))
  have h27 : ln 27 = 14 := by decide +kernel
  have L : ∀ M : mM, OF M → (∃ f z, f < 14 ∧ z ≤ 13 ∧ M.1 26 1 = nI f ∧ M.1 26 2 = nI z) → Q none (remC (remB M o)) → G 32 [some (.inr (.inr (0, 26))), some (.inr (.inr (8, o)))] [] M := by
    intro M hF ⟨f, z, hf, hz, e1, e2⟩ hq
    (apply h32; simp only [BX0_remember_32, s_mth, s_mab, s_at, s_iconst, s_lconst, s_iload, s_lload, s_aload, s_istore, s_lstore, s_astore, s_iinc, s_bin, s_binG, s_un, s_lbin, s_lbinG, s_lsh, s_lcmp, s_i2l, s_l2i, s_dup, s_dup2, s_pop, s_if, s_icmp, s_geti, s_getl, s_getr, s_puti, s_putz, s_putl, s_iald, s_zald, s_iast, s_zast, s_aaldS, s_aaldU, s_gets, s_tald, s_tsw, tsw, s_iret, s_zret, s_lret, s_aret, s_vret, s_callV, s_callS, c1, nl1, keepL, csum, pushR, inL, List.getD_cons_zero, List.getD_cons_succ, List.set_cons_zero, List.set_cons_succ, List.cons_append, List.nil_append, List.append_nil, List.replicate, List.length_cons, List.length_nil, List.take_succ_cons, List.take_zero, List.drop_succ_cons, List.drop_zero, List.reverse_cons, List.reverse_nil, true_and, and_true, forall_const, not_true_eq_false, not_false_eq_true, false_implies, true_implies, implies_true, one0, m10, Nat.reduceAdd, Nat.reduceSub, Nat.reduceLeDiff, Nat.zero_add, Nat.add_zero, fn_X8_copyFrom])
    have e : M.1 26 1 + M.1 26 2 - (M.1 26 1 + M.1 26 2) / 14 * 14 = nI ((f + z) % 14) := by rw [e1, e2, nI_add]; exact rm14 (by omega)
    refine ⟨by decide, ?_, ⟨_, _, rfl, hF⟩, ?_⟩
    · rw [e, h27]; exact vp_in_nI (Nat.mod_lt _ (by decide)) (by decide)
    · simp only [remC, remB, rm] at hq
      exact hq
  have ha := remA_ac hA
  have hf := OF_remA hF
  simp only [fn_X0_remember] at hQ
  by_cases h : M.1 26 2 = 14
  · (apply h0; simp only [BX0_remember_0, s_mth, s_mab, s_at, s_iconst, s_lconst, s_iload, s_lload, s_aload, s_istore, s_lstore, s_astore, s_iinc, s_bin, s_binG, s_un, s_lbin, s_lbinG, s_lsh, s_lcmp, s_i2l, s_l2i, s_dup, s_dup2, s_pop, s_if, s_icmp, s_geti, s_getl, s_getr, s_puti, s_putz, s_putl, s_iald, s_zald, s_iast, s_zast, s_aaldS, s_aaldU, s_gets, s_tald, s_tsw, tsw, s_iret, s_zret, s_lret, s_aret, s_vret, s_callV, s_callS, c1, nl1, keepL, csum, pushR, inL, List.getD_cons_zero, List.getD_cons_succ, List.set_cons_zero, List.set_cons_succ, List.cons_append, List.nil_append, List.append_nil, List.replicate, List.length_cons, List.length_nil, List.take_succ_cons, List.take_zero, List.drop_succ_cons, List.drop_zero, List.reverse_cons, List.reverse_nil, true_and, and_true, forall_const, not_true_eq_false, not_false_eq_true, false_implies, true_implies, implies_true, one0, m10, Nat.reduceAdd, Nat.reduceSub, Nat.reduceLeDiff, Nat.zero_add, Nat.add_zero, fn_X8_copyFrom])
    refine ⟨fun _ => ⟨by decide, ?_⟩, fun g => absurd h g⟩
    refine L _ ?_ ?_ ?_
    · simpa [remA, h, mset_get, rm] using hf
    · simpa [remA, h, mset_get, rm] using ha
    · simpa [remA, h, mset_get, rm] using hQ
  · (apply h0; simp only [BX0_remember_0, s_mth, s_mab, s_at, s_iconst, s_lconst, s_iload, s_lload, s_aload, s_istore, s_lstore, s_astore, s_iinc, s_bin, s_binG, s_un, s_lbin, s_lbinG, s_lsh, s_lcmp, s_i2l, s_l2i, s_dup, s_dup2, s_pop, s_if, s_icmp, s_geti, s_getl, s_getr, s_puti, s_putz, s_putl, s_iald, s_zald, s_iast, s_zast, s_aaldS, s_aaldU, s_gets, s_tald, s_tsw, tsw, s_iret, s_zret, s_lret, s_aret, s_vret, s_callV, s_callS, c1, nl1, keepL, csum, pushR, inL, List.getD_cons_zero, List.getD_cons_succ, List.set_cons_zero, List.set_cons_succ, List.cons_append, List.nil_append, List.append_nil, List.replicate, List.length_cons, List.length_nil, List.take_succ_cons, List.take_zero, List.drop_succ_cons, List.drop_zero, List.reverse_cons, List.reverse_nil, true_and, and_true, forall_const, not_true_eq_false, not_false_eq_true, false_implies, true_implies, implies_true, one0, m10, Nat.reduceAdd, Nat.reduceSub, Nat.reduceLeDiff, Nat.zero_add, Nat.add_zero, fn_X8_copyFrom])
    refine ⟨fun g => absurd g h, fun _ => ?_⟩
    simp only [remA, if_neg h] at hf ha hQ
    exact L _ hf ha hQ
theorem ct_X0_remember (l : Launch) : Con l yX0_remember cX0_remember 2 (Option.none : Option FieldType) 2 pre_X0_remember fn_X0_remember := con_of (by decide +kernel) ok_X0_remember len_X0_remember (fun p e s m args below meth c D ca ad A as M hX hr hp ho => pf_X0_remember _ _ (bsX0_remember_0 hX hr) (bsX0_remember_32 hX hr) as M ho hp ⟨rfl, rfl⟩)
def tkA (M : mM) : mM := mset M 26 2 (M.1 26 2 - 1)
def tkB (M : mM) (o : Nat) : mM := if M.1 26 2 ≤ 0 then M else stc (tkA M) o (28 + 7 * (rm ((tkA M).1 26 1 + (tkA M).1 26 2) 14).toNatClampNeg)
def pre_X0_takeBack (as : List mV) (M : mM) : Prop := ∃ k o, as = [.inr (.inr (0, k)), .inr (.inr (8, o))] ∧ OF M ∧ AC M
def fn_X0_takeBack : List mV → mM → Option mV × mM
  | [.inr (.inr (_, k)), .inr (.inr (_, o))], M => (none, tkB M o)
  | _, M => (none, M)
theorem ok_X0_takeBack (as : List mV) (M : mM) (h : pre_X0_takeBack as M) (_ : ∀ v ∈ as, okV v) : okR (fn_X0_takeBack as M).1 := by
  obtain ⟨k, o, rfl, -⟩ := h
  first | trivial | exact (by decide +kernel : kof 14 = 8)
theorem len_X0_takeBack (as : List mV) (M : mM) (h : pre_X0_takeBack as M) : (inL as).length ≤ 2 := by
  obtain ⟨k, o, rfl, -⟩ := h
  exact Nat.le_of_ble_eq_true rfl


theorem dX0_takeBack_0 : decode cX0_takeBack 0 = .ok (.aload_n 0, 1) := by decide +kernel
theorem dX0_takeBack_1 : decode cX0_takeBack 1 = .ok (.getfield 21, 3) := by decide +kernel
theorem dX0_takeBack_4 : decode cX0_takeBack 4 = .ok (.ifCond .le 34, 3) := by decide +kernel
theorem dX0_takeBack_7 : decode cX0_takeBack 7 = .ok (.aload_n 0, 1) := by decide +kernel
theorem dX0_takeBack_8 : decode cX0_takeBack 8 = .ok (.dup, 1) := by decide +kernel
theorem dX0_takeBack_9 : decode cX0_takeBack 9 = .ok (.getfield 21, 3) := by decide +kernel
theorem dX0_takeBack_12 : decode cX0_takeBack 12 = .ok (.iconst 1, 1) := by decide +kernel
theorem dX0_takeBack_13 : decode cX0_takeBack 13 = .ok (.isub, 1) := by decide +kernel
theorem dX0_takeBack_14 : decode cX0_takeBack 14 = .ok (.putfield 21, 3) := by decide +kernel
theorem dX0_takeBack_17 : decode cX0_takeBack 17 = .ok (.aload_n 1, 1) := by decide +kernel
theorem dX0_takeBack_18 : decode cX0_takeBack 18 = .ok (.aload_n 0, 1) := by decide +kernel
theorem dX0_takeBack_19 : decode cX0_takeBack 19 = .ok (.getfield 11, 3) := by decide +kernel
theorem dX0_takeBack_22 : decode cX0_takeBack 22 = .ok (.aload_n 0, 1) := by decide +kernel
theorem dX0_takeBack_23 : decode cX0_takeBack 23 = .ok (.getfield 17, 3) := by decide +kernel
theorem dX0_takeBack_26 : decode cX0_takeBack 26 = .ok (.aload_n 0, 1) := by decide +kernel
theorem dX0_takeBack_27 : decode cX0_takeBack 27 = .ok (.getfield 21, 3) := by decide +kernel
theorem dX0_takeBack_30 : decode cX0_takeBack 30 = .ok (.iadd, 1) := by decide +kernel
theorem dX0_takeBack_31 : decode cX0_takeBack 31 = .ok (.bipush 14, 2) := by decide +kernel
theorem dX0_takeBack_33 : decode cX0_takeBack 33 = .ok (.irem, 1) := by decide +kernel
theorem dX0_takeBack_34 : decode cX0_takeBack 34 = .ok (.aaload, 1) := by decide +kernel
theorem dX0_takeBack_35 : decode cX0_takeBack 35 = .ok (.invokevirtual 25, 3) := by decide +kernel
theorem dX0_takeBack_38 : decode cX0_takeBack 38 = .ok (.return_, 1) := by decide +kernel
theorem mk_X0_takeBack : MVk yX0_takeBack "FairBlocks$Acts" cX0_takeBack 2 (Option.none : Option FieldType) 1 := ⟨w_501, w_499, w_500, w_8, rfl, by decide +kernel, by decide +kernel, by decide +kernel⟩
def BX0_takeBack_0 (G : Nat → KT) (Q : Option mV → mM → Prop) : KT := (s_aload 0 (s_geti 0 2 (s_if (fun x => x ≤ 0) (s_at G 38 [false, false]) (s_aload 0 (s_dup (s_geti 0 2 (s_iconst (1) (s_bin (fun x y => x - y) (s_puti 0 2 (s_aload 1 (s_aload 0 (s_getr 0 15 (fun _ => 27) (s_aload 0 (s_geti 0 1 (s_aload 0 (s_geti 0 2 (s_bin (fun x y => x + y) (s_iconst (14) (s_binG (fun x y => x - x / y * y) (s_aaldS (s_callV 8 1 pre_X8_copyFrom fn_X8_copyFrom (s_at G 38 [false, false]))))))))))))))))))))))
set_option maxRecDepth 4000 in
theorem bsX0_takeBack_0 {p : Program} {l : Launch} {e : Env} {s : State} {m : MethodId} {args : Array Value} {below : List Frame} {meth : Method} {c : Code} {D : va_G} {ca : Nat → ClassId} {ad : Nat → Nat} {A : Nat → Prop} {Q : Option mV → mM → Prop} (hX : CX p s m args meth c 2 cX0_takeBack "FairBlocks$Acts" D ca ad A) (hr : meth.sig.returnType = (Option.none : Option FieldType)) : ∀ lv st M, BX0_takeBack_0 (Gd p l e (rmD 2) s m args below meth c 2 D ca ad A 0 0 (MQ below (QC D ca ad A Q) args s 0 0 A)) Q lv st M → Gd p l e (rmD 2) s m args below meth c 2 D ca ad A 0 0 (MQ below (QC D ca ad A Q) args s 0 0 A) 0 lv st M :=
  (sd_aload_n hX dX0_takeBack_0 rfl (sd_geti hX fl_225 (by decide) dX0_takeBack_1 (sd_if_le hX dX0_takeBack_4 (by decide) sd_at (sd_aload_n hX dX0_takeBack_7 rfl (sd_dup hX dX0_takeBack_8 (sd_geti hX fl_225 (by decide) dX0_takeBack_9 (sd_iconst hX dX0_takeBack_12 rfl (sd_isub hX dX0_takeBack_13 (sd_puti hX fp_225 dX0_takeBack_14 (sd_aload_n hX dX0_takeBack_17 rfl (sd_aload_n hX dX0_takeBack_18 rfl (sd_getr hX fl_223 (fun _ => rfl) (fun _ _ _ => by decide +kernel) dX0_takeBack_19 (sd_aload_n hX dX0_takeBack_22 rfl (sd_geti hX fl_224 (by decide) dX0_takeBack_23 (sd_aload_n hX dX0_takeBack_26 rfl (sd_geti hX fl_225 (by decide) dX0_takeBack_27 (sd_iadd hX dX0_takeBack_30 (sd_bipush hX dX0_takeBack_31 rfl (sd_irem hX dX0_takeBack_33 (sd_aaldS hX dX0_takeBack_34 (sd_callV hX (kd := 8) rfl (by decide) (ct_X8_copyFrom l) mk_X8_copyFrom w_417 ⟨⟨by decide, by decide⟩, by decide, by decide⟩ dX0_takeBack_35 sd_at)))))))))))))))))))))
def BX0_takeBack_38 (G : Nat → KT) (Q : Option mV → mM → Prop) : KT := (s_vret Q)
set_option maxRecDepth 4000 in
theorem bsX0_takeBack_38 {p : Program} {l : Launch} {e : Env} {s : State} {m : MethodId} {args : Array Value} {below : List Frame} {meth : Method} {c : Code} {D : va_G} {ca : Nat → ClassId} {ad : Nat → Nat} {A : Nat → Prop} {Q : Option mV → mM → Prop} (hX : CX p s m args meth c 2 cX0_takeBack "FairBlocks$Acts" D ca ad A) (hr : meth.sig.returnType = (Option.none : Option FieldType)) : ∀ lv st M, BX0_takeBack_38 (Gd p l e (rmD 2) s m args below meth c 2 D ca ad A 0 0 (MQ below (QC D ca ad A Q) args s 0 0 A)) Q lv st M → Gd p l e (rmD 2) s m args below meth c 2 D ca ad A 0 0 (MQ below (QC D ca ad A Q) args s 0 0 A) 38 lv st M :=
  sd_vret hX hr dX0_takeBack_38
set_option maxHeartbeats 400000 in
theorem pf_X0_takeBack (G : Nat → KT) (Q : Option mV → mM → Prop) (h0 : ∀ lv st M, BX0_takeBack_0 G Q lv st M → G 0 lv st M) (h38 : ∀ lv st M, BX0_takeBack_38 G Q lv st M → G 38 lv st M) (as : List mV) (M : mM) (ho : ∀ v ∈ as, okV v) (hp : pre_X0_takeBack as M) (hQ : Q (fn_X0_takeBack as M).1 (fn_X0_takeBack as M).2) : G 0 (inL as ++ List.replicate (2 - (inL as).length) none) [] M := by
  obtain ⟨k, o, rfl, hF, f, z, hf, hz, e1, e2⟩ := hp
  obtain rfl : k = 26 := k0 (ho (.inr (.inr (0, k))) (by simp))
  have h27 : ln 27 = 14 := by decide +kernel
  simp only [fn_X0_takeBack, tkB] at hQ
  (apply h0; simp only [BX0_takeBack_0, s_mth, s_mab, s_at, s_iconst, s_lconst, s_iload, s_lload, s_aload, s_istore, s_lstore, s_astore, s_iinc, s_bin, s_binG, s_un, s_lbin, s_lbinG, s_lsh, s_lcmp, s_i2l, s_l2i, s_dup, s_dup2, s_pop, s_if, s_icmp, s_geti, s_getl, s_getr, s_puti, s_putz, s_putl, s_iald, s_zald, s_iast, s_zast, s_aaldS, s_aaldU, s_gets, s_tald, s_tsw, tsw, s_iret, s_zret, s_lret, s_aret, s_vret, s_callV, s_callS, c1, nl1, keepL, csum, pushR, inL, List.getD_cons_zero, List.getD_cons_succ, List.set_cons_zero, List.set_cons_succ, List.cons_append, List.nil_append, List.append_nil, List.replicate, List.length_cons, List.length_nil, List.take_succ_cons, List.take_zero, List.drop_succ_cons, List.drop_zero, List.reverse_cons, List.reverse_nil, true_and, and_true, forall_const, not_true_eq_false, not_false_eq_true, false_implies, true_implies, implies_true, one0, m10, Nat.reduceAdd, Nat.reduceSub, Nat.reduceLeDiff, Nat.zero_add, Nat.add_zero, fn_X8_copyFrom])
  refine ⟨fun h => ?_, fun h => ⟨by decide, ?_, ⟨_, _, rfl, OF_mset hF (by decide +kernel)⟩, ?_⟩⟩
  · (apply h38; simp only [BX0_takeBack_38, s_mth, s_mab, s_at, s_iconst, s_lconst, s_iload, s_lload, s_aload, s_istore, s_lstore, s_astore, s_iinc, s_bin, s_binG, s_un, s_lbin, s_lbinG, s_lsh, s_lcmp, s_i2l, s_l2i, s_dup, s_dup2, s_pop, s_if, s_icmp, s_geti, s_getl, s_getr, s_puti, s_putz, s_putl, s_iald, s_zald, s_iast, s_zast, s_aaldS, s_aaldU, s_gets, s_tald, s_tsw, tsw, s_iret, s_zret, s_lret, s_aret, s_vret, s_callV, s_callS, c1, nl1, keepL, csum, pushR, inL, List.getD_cons_zero, List.getD_cons_succ, List.set_cons_zero, List.set_cons_succ, List.cons_append, List.nil_append, List.append_nil, List.replicate, List.length_cons, List.length_nil, List.take_succ_cons, List.take_zero, List.drop_succ_cons, List.drop_zero, List.reverse_cons, List.reverse_nil, true_and, and_true, forall_const, not_true_eq_false, not_false_eq_true, false_implies, true_implies, implies_true, one0, m10, Nat.reduceAdd, Nat.reduceSub, Nat.reduceLeDiff, Nat.zero_add, Nat.add_zero, fn_X8_copyFrom])
    rw [if_pos h] at hQ
    exact hQ
  · have hz0 : 0 < z := by
      rcases Nat.eq_zero_or_pos z with g | g
      · subst g; rw [e2] at h; exact absurd (by decide) h
      · exact g
    obtain ⟨y, rfl⟩ : ∃ y, z = y + 1 := ⟨z - 1, by omega⟩
    have ea : (mset M 26 2 (M.1 26 2 - 1)).1 26 1 = nI f := by rw [mset_get, if_neg (by decide)]; exact e1
    have eb : (mset M 26 2 (M.1 26 2 - 1)).1 26 2 = nI y := by rw [mset_get, if_pos ⟨rfl, rfl⟩, e2, nI_pred]
    rw [ea, eb, nI_add, h27]
    rw [show nI (f + y) - nI (f + y) / 14 * 14 = nI ((f + y) % 14) from rm14 (by omega)]
    exact vp_in_nI (Nat.mod_lt _ (by decide)) (by decide)
  · (apply h38; simp only [BX0_takeBack_38, s_mth, s_mab, s_at, s_iconst, s_lconst, s_iload, s_lload, s_aload, s_istore, s_lstore, s_astore, s_iinc, s_bin, s_binG, s_un, s_lbin, s_lbinG, s_lsh, s_lcmp, s_i2l, s_l2i, s_dup, s_dup2, s_pop, s_if, s_icmp, s_geti, s_getl, s_getr, s_puti, s_putz, s_putl, s_iald, s_zald, s_iast, s_zast, s_aaldS, s_aaldU, s_gets, s_tald, s_tsw, tsw, s_iret, s_zret, s_lret, s_aret, s_vret, s_callV, s_callS, c1, nl1, keepL, csum, pushR, inL, List.getD_cons_zero, List.getD_cons_succ, List.set_cons_zero, List.set_cons_succ, List.cons_append, List.nil_append, List.append_nil, List.replicate, List.length_cons, List.length_nil, List.take_succ_cons, List.take_zero, List.drop_succ_cons, List.drop_zero, List.reverse_cons, List.reverse_nil, true_and, and_true, forall_const, not_true_eq_false, not_false_eq_true, false_implies, true_implies, implies_true, one0, m10, Nat.reduceAdd, Nat.reduceSub, Nat.reduceLeDiff, Nat.zero_add, Nat.add_zero, fn_X8_copyFrom])
    rw [if_neg h] at hQ
    simp only [tkA, rm] at hQ
    exact hQ
theorem ct_X0_takeBack (l : Launch) : Con l yX0_takeBack cX0_takeBack 2 (Option.none : Option FieldType) 2 pre_X0_takeBack fn_X0_takeBack := con_of (by decide +kernel) ok_X0_takeBack len_X0_takeBack (fun p e s m args below meth c D ca ad A as M hX hr hp ho => pf_X0_takeBack _ _ (bsX0_takeBack_0 hX hr) (bsX0_takeBack_38 hX hr) as M ho hp ⟨rfl, rfl⟩)
def pre_X0_forgetAll (as : List mV) (M : mM) : Prop := ∃ k, as = [.inr (.inr (0, k))]
def fn_X0_forgetAll : List mV → mM → Option mV × mM
  | [.inr (.inr (_, k))], M => (none, mset M k 2 0)
  | _, M => (none, M)
theorem ok_X0_forgetAll (as : List mV) (M : mM) (h : pre_X0_forgetAll as M) (_ : ∀ v ∈ as, okV v) : okR (fn_X0_forgetAll as M).1 := by
  obtain ⟨k, rfl⟩ := h
  first | trivial | exact (by decide +kernel : kof 14 = 8)
theorem len_X0_forgetAll (as : List mV) (M : mM) (h : pre_X0_forgetAll as M) : (inL as).length ≤ 1 := by
  obtain ⟨k, rfl⟩ := h
  exact Nat.le_of_ble_eq_true rfl


theorem dX0_forgetAll_0 : decode cX0_forgetAll 0 = .ok (.aload_n 0, 1) := by decide +kernel
theorem dX0_forgetAll_1 : decode cX0_forgetAll 1 = .ok (.iconst 0, 1) := by decide +kernel
theorem dX0_forgetAll_2 : decode cX0_forgetAll 2 = .ok (.putfield 21, 3) := by decide +kernel
theorem dX0_forgetAll_5 : decode cX0_forgetAll 5 = .ok (.return_, 1) := by decide +kernel
theorem mk_X0_forgetAll : MVk yX0_forgetAll "FairBlocks$Acts" cX0_forgetAll 1 (Option.none : Option FieldType) 0 := ⟨w_392, w_390, w_391, w_8, rfl, by decide +kernel, by decide +kernel, by decide +kernel⟩
def BX0_forgetAll_0 (G : Nat → KT) (Q : Option mV → mM → Prop) : KT := (s_aload 0 (s_iconst (0) (s_puti 0 2 (s_vret Q))))
set_option maxRecDepth 4000 in
theorem bsX0_forgetAll_0 {p : Program} {l : Launch} {e : Env} {s : State} {m : MethodId} {args : Array Value} {below : List Frame} {meth : Method} {c : Code} {D : va_G} {ca : Nat → ClassId} {ad : Nat → Nat} {A : Nat → Prop} {Q : Option mV → mM → Prop} (hX : CX p s m args meth c 1 cX0_forgetAll "FairBlocks$Acts" D ca ad A) (hr : meth.sig.returnType = (Option.none : Option FieldType)) : ∀ lv st M, BX0_forgetAll_0 (Gd p l e (rmD 0) s m args below meth c 1 D ca ad A 0 0 (MQ below (QC D ca ad A Q) args s 0 0 A)) Q lv st M → Gd p l e (rmD 0) s m args below meth c 1 D ca ad A 0 0 (MQ below (QC D ca ad A Q) args s 0 0 A) 0 lv st M :=
  (sd_aload_n hX dX0_forgetAll_0 rfl (sd_iconst hX dX0_forgetAll_1 rfl (sd_puti hX fp_225 dX0_forgetAll_2 (sd_vret hX hr dX0_forgetAll_5))))
set_option maxHeartbeats 400000 in
theorem pf_X0_forgetAll (G : Nat → KT) (Q : Option mV → mM → Prop) (h0 : ∀ lv st M, BX0_forgetAll_0 G Q lv st M → G 0 lv st M) (as : List mV) (M : mM) (ho : ∀ v ∈ as, okV v) (hp : pre_X0_forgetAll as M) (hQ : Q (fn_X0_forgetAll as M).1 (fn_X0_forgetAll as M).2) : G 0 (inL as ++ List.replicate (1 - (inL as).length) none) [] M := by
  obtain ⟨k, rfl⟩ := hp
  (apply h0; simp only [BX0_forgetAll_0, s_mth, s_mab, s_at, s_iconst, s_lconst, s_iload, s_lload, s_aload, s_istore, s_lstore, s_astore, s_iinc, s_bin, s_binG, s_un, s_lbin, s_lbinG, s_lsh, s_lcmp, s_i2l, s_l2i, s_dup, s_dup2, s_pop, s_if, s_icmp, s_geti, s_getl, s_getr, s_puti, s_putz, s_putl, s_iald, s_zald, s_iast, s_zast, s_aaldS, s_aaldU, s_gets, s_tald, s_tsw, tsw, s_iret, s_zret, s_lret, s_aret, s_vret, s_callV, s_callS, c1, nl1, keepL, csum, pushR, inL, List.getD_cons_zero, List.getD_cons_succ, List.set_cons_zero, List.set_cons_succ, List.cons_append, List.nil_append, List.append_nil, List.replicate, List.length_cons, List.length_nil, List.take_succ_cons, List.take_zero, List.drop_succ_cons, List.drop_zero, List.reverse_cons, List.reverse_nil, true_and, and_true, forall_const, not_true_eq_false, not_false_eq_true, false_implies, true_implies, implies_true, one0, m10, Nat.reduceAdd, Nat.reduceSub, Nat.reduceLeDiff, Nat.zero_add, Nat.add_zero])
  exact hQ
theorem ct_X0_forgetAll (l : Launch) : Con l yX0_forgetAll cX0_forgetAll 1 (Option.none : Option FieldType) 0 pre_X0_forgetAll fn_X0_forgetAll := con_of (by decide +kernel) ok_X0_forgetAll len_X0_forgetAll (fun p e s m args below meth c D ca ad A as M hX hr hp ho => pf_X0_forgetAll _ _ (bsX0_forgetAll_0 hX hr) as M ho hp ⟨rfl, rfl⟩)
def pre_X1_freshTrial (as : List mV) (M : mM) : Prop := ∃ k, as = [.inr (.inr (1, k))] ∧ OF M
def fn_X1_freshTrial : List mV → mM → Option mV × mM
  | [.inr (.inr (_, k))], M => (some (.inr (.inr (8, 14))), stc M 14 7)
  | _, M => (none, M)
theorem ok_X1_freshTrial (as : List mV) (M : mM) (h : pre_X1_freshTrial as M) (_ : ∀ v ∈ as, okV v) : okR (fn_X1_freshTrial as M).1 := by
  obtain ⟨k, rfl, -⟩ := h
  first | trivial | exact (by decide +kernel : kof 14 = 8)
theorem len_X1_freshTrial (as : List mV) (M : mM) (h : pre_X1_freshTrial as M) : (inL as).length ≤ 1 := by
  obtain ⟨k, rfl, -⟩ := h
  exact Nat.le_of_ble_eq_true rfl

theorem fl_193 : FLk "FairBlocks$Bench" 19 1 1 11 := ⟨RX1, TX1, 4, rfl, inX1, by decide, w_193, by decide, rfl⟩
theorem fl_198 : FLk "FairBlocks$Bench" 23 1 2 11 := ⟨RX1, TX1, 4, rfl, inX1, by decide, w_198, by decide, rfl⟩
theorem dX1_freshTrial_0 : decode cX1_freshTrial 0 = .ok (.aload_n 0, 1) := by decide +kernel
theorem dX1_freshTrial_1 : decode cX1_freshTrial 1 = .ok (.getfield 23, 3) := by decide +kernel
theorem dX1_freshTrial_4 : decode cX1_freshTrial 4 = .ok (.aload_n 0, 1) := by decide +kernel
theorem dX1_freshTrial_5 : decode cX1_freshTrial 5 = .ok (.getfield 19, 3) := by decide +kernel
theorem dX1_freshTrial_8 : decode cX1_freshTrial 8 = .ok (.invokevirtual 35, 3) := by decide +kernel
theorem dX1_freshTrial_11 : decode cX1_freshTrial 11 = .ok (.aload_n 0, 1) := by decide +kernel
theorem dX1_freshTrial_12 : decode cX1_freshTrial 12 = .ok (.getfield 23, 3) := by decide +kernel
theorem dX1_freshTrial_15 : decode cX1_freshTrial 15 = .ok (.areturn, 1) := by decide +kernel
theorem mk_X1_freshTrial : MVk yX1_freshTrial "FairBlocks$Bench" cX1_freshTrial 1 (Option.some (FieldType.object "FairBlocks$Standing")) 0 := ⟨w_509, w_507, w_508, w_3, rfl, by decide +kernel, by decide +kernel, by decide +kernel⟩
def BX1_freshTrial_0 (G : Nat → KT) (Q : Option mV → mM → Prop) : KT := (s_aload 0 (s_getr 1 8 (fun _ => 14) (s_aload 0 (s_getr 1 8 (fun _ => 7) (s_callV 8 1 pre_X8_copyFrom fn_X8_copyFrom (s_aload 0 (s_getr 1 8 (fun _ => 14) (s_aret Q))))))))
set_option maxRecDepth 4000 in
theorem bsX1_freshTrial_0 {p : Program} {l : Launch} {e : Env} {s : State} {m : MethodId} {args : Array Value} {below : List Frame} {meth : Method} {c : Code} {D : va_G} {ca : Nat → ClassId} {ad : Nat → Nat} {A : Nat → Prop} {Q : Option mV → mM → Prop} (hX : CX p s m args meth c 1 cX1_freshTrial "FairBlocks$Bench" D ca ad A) (hr : meth.sig.returnType = (Option.some (FieldType.object "FairBlocks$Standing"))) : ∀ lv st M, BX1_freshTrial_0 (Gd p l e (rmD 2) s m args below meth c 1 D ca ad A 0 0 (MQ below (QC D ca ad A Q) args s 0 0 A)) Q lv st M → Gd p l e (rmD 2) s m args below meth c 1 D ca ad A 0 0 (MQ below (QC D ca ad A Q) args s 0 0 A) 0 lv st M :=
  (sd_aload_n hX dX1_freshTrial_0 rfl (sd_getr hX fl_198 (fun _ => rfl) (fun _ _ _ => by decide +kernel) dX1_freshTrial_1 (sd_aload_n hX dX1_freshTrial_4 rfl (sd_getr hX fl_193 (fun _ => rfl) (fun _ _ _ => by decide +kernel) dX1_freshTrial_5 (sd_callV hX (kd := 8) rfl (by decide) (ct_X8_copyFrom l) mk_X8_copyFrom w_510 ⟨⟨by decide, by decide⟩, by decide, by decide⟩ dX1_freshTrial_8 (sd_aload_n hX dX1_freshTrial_11 rfl (sd_getr hX fl_198 (fun _ => rfl) (fun _ _ _ => by decide +kernel) dX1_freshTrial_12 (sd_aret hX hr dX1_freshTrial_15))))))))
set_option maxHeartbeats 400000 in
theorem pf_X1_freshTrial (G : Nat → KT) (Q : Option mV → mM → Prop) (h0 : ∀ lv st M, BX1_freshTrial_0 G Q lv st M → G 0 lv st M) (as : List mV) (M : mM) (ho : ∀ v ∈ as, okV v) (hp : pre_X1_freshTrial as M) (hQ : Q (fn_X1_freshTrial as M).1 (fn_X1_freshTrial as M).2) : G 0 (inL as ++ List.replicate (1 - (inL as).length) none) [] M := by
  obtain ⟨k, rfl, hF⟩ := hp
  (apply h0; simp only [BX1_freshTrial_0, s_mth, s_mab, s_at, s_iconst, s_lconst, s_iload, s_lload, s_aload, s_istore, s_lstore, s_astore, s_iinc, s_bin, s_binG, s_un, s_lbin, s_lbinG, s_lsh, s_lcmp, s_i2l, s_l2i, s_dup, s_dup2, s_pop, s_if, s_icmp, s_geti, s_getl, s_getr, s_puti, s_putz, s_putl, s_iald, s_zald, s_iast, s_zast, s_aaldS, s_aaldU, s_gets, s_tald, s_tsw, tsw, s_iret, s_zret, s_lret, s_aret, s_vret, s_callV, s_callS, c1, nl1, keepL, csum, pushR, inL, List.getD_cons_zero, List.getD_cons_succ, List.set_cons_zero, List.set_cons_succ, List.cons_append, List.nil_append, List.append_nil, List.replicate, List.length_cons, List.length_nil, List.take_succ_cons, List.take_zero, List.drop_succ_cons, List.drop_zero, List.reverse_cons, List.reverse_nil, true_and, and_true, forall_const, not_true_eq_false, not_false_eq_true, false_implies, true_implies, implies_true, one0, m10, Nat.reduceAdd, Nat.reduceSub, Nat.reduceLeDiff, Nat.zero_add, Nat.add_zero, fn_X8_copyFrom])
  refine ⟨⟨_, _, rfl, hF⟩, ?_⟩
  exact hQ
theorem ct_X1_freshTrial (l : Launch) : Con l yX1_freshTrial cX1_freshTrial 1 (Option.some (FieldType.object "FairBlocks$Standing")) 2 pre_X1_freshTrial fn_X1_freshTrial := con_of (by decide +kernel) ok_X1_freshTrial len_X1_freshTrial (fun p e s m args below meth c D ca ad A as M hX hr hp ho => pf_X1_freshTrial _ _ (bsX1_freshTrial_0 hX hr) as M ho hp ⟨rfl, rfl⟩)
