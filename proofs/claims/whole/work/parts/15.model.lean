/-! the model: its small methods -/
theorem cx {u : Nat} (h : u < 5) (c : Nat) (hc : c < 10) : ((10 : Int32) * nI u + nI c).toNatClampNeg = 10 * u + c := by
  rw [show (10 : Int32) = nI 10 from rfl, pk_mul, nI_add, nI_clamp (by omega)]
theorem vx {u : Nat} (h : u < 5) (c : Nat) (hc : c < 10) : vp_in ((10 : Int32) * nI u + nI c) 52 := by
  rw [show (10 : Int32) = nI 10 from rfl, pk_mul, nI_add]
  exact vp_in_nI (by omega) (by decide)
theorem k12 {k : Nat} (h : kof k = 12) : k = 158 := by
  have g : ∀ k, k < 178 → kof k = 12 → k = 158 := by decide +kernel
  exact g k (kof_lt (by omega)) h
theorem lM : ln 159 = 80 ∧ ln 160 = 30 ∧ ln 161 = 5 ∧ ln 162 = 30 ∧ ln 163 = 5 ∧ ln 164 = 52 ∧ ln 165 = 52 ∧ ln 166 = 52 ∧ ln 167 = 52 ∧ ln 168 = 728 ∧ ln 169 = 104 ∧ ln 170 = 2 ∧ ln 171 = 6 ∧ ln 172 = 6 ∧ ln 173 = 6 ∧ ln 174 = 6 ∧ ln 175 = 6 ∧ ln 176 = 4 ∧ ln 177 = 5 := by decide +kernel
def iL (x y z : Int64) : Int32 := if x < y then 0 else if z < x then 0 else 1
theorem iLw (x y z : Int32) : iL x.toInt64 y.toInt64 z.toInt64 = wi x y z := by
  unfold iL wi
  simp only [Int64.lt_iff_toInt_lt, Int32.lt_iff_toInt_lt, Int32.toInt_toInt64]
theorem cmp0' {x y : Int64} : 0 < lg_cmp x y ↔ y < x := by
  unfold lg_cmp
  split
  · next h => exact ⟨fun _ => h, fun _ => by decide⟩
  · next h =>
    constructor
    · intro g
      split at g
      · exact absurd g (by decide)
      · exact absurd g (by decide)
    · intro g; exact absurd g h
def pre_X12_in (as : List mV) (M : mM) : Prop := ∃ x y z, as = [.inr (.inl x), .inr (.inl y), .inr (.inl z)]
def fn_X12_in : List mV → mM → Option mV × mM
  | [.inr (.inl x), .inr (.inl y), .inr (.inl z)], M => (some (.inl (iL x y z)), M)
  | _, M => (none, M)
theorem ok_X12_in (as : List mV) (M : mM) (h : pre_X12_in as M) (_ : ∀ v ∈ as, okV v) : okR (fn_X12_in as M).1 := by
  obtain ⟨x, y, z, rfl⟩ := h
  first | trivial | exact (by decide +kernel : kof 14 = 8)
theorem len_X12_in (as : List mV) (M : mM) (h : pre_X12_in as M) : (inL as).length ≤ 6 := by
  obtain ⟨x, y, z, rfl⟩ := h
  exact Nat.le_of_ble_eq_true rfl


theorem dX12_in_0 : decode cX12_in 0 = .ok (.lload_n 0, 1) := by decide +kernel
theorem dX12_in_1 : decode cX12_in 1 = .ok (.lload_n 2, 1) := by decide +kernel
theorem dX12_in_2 : decode cX12_in 2 = .ok (.lcmp, 1) := by decide +kernel
theorem dX12_in_3 : decode cX12_in 3 = .ok (.ifCond .lt 14, 3) := by decide +kernel
theorem dX12_in_6 : decode cX12_in 6 = .ok (.lload_n 0, 1) := by decide +kernel
theorem dX12_in_7 : decode cX12_in 7 = .ok (.lload 4, 2) := by decide +kernel
theorem dX12_in_9 : decode cX12_in 9 = .ok (.lcmp, 1) := by decide +kernel
theorem dX12_in_10 : decode cX12_in 10 = .ok (.ifCond .gt 7, 3) := by decide +kernel
theorem dX12_in_13 : decode cX12_in 13 = .ok (.iconst 1, 1) := by decide +kernel
theorem dX12_in_14 : decode cX12_in 14 = .ok (.goto 4, 3) := by decide +kernel
theorem dX12_in_17 : decode cX12_in 17 = .ok (.iconst 0, 1) := by decide +kernel
theorem dX12_in_18 : decode cX12_in 18 = .ok (.ireturn, 1) := by decide +kernel
theorem mk_X12_in : MSk yX12_in cX12_in 6 (Option.some FieldType.boolean) 3 := ⟨w_827, w_826, w_13, by decide +kernel, by decide +kernel, by decide +kernel⟩
def BX12_in_0 (G : Nat → KT) (Q : Option mV → mM → Prop) : KT := (s_lload 0 (s_lload 2 (s_lcmp (s_if (fun x => x < 0) (s_at G 17 [false, false, false, false, false, false]) (s_lload 0 (s_lload 4 (s_lcmp (s_if (fun x => 0 < x) (s_at G 17 [false, false, false, false, false, false]) (s_iconst (1) (s_at G 18 [false, false, false, false, false, false]))))))))))
set_option maxRecDepth 4000 in
theorem bsX12_in_0 {p : Program} {l : Launch} {e : Env} {s : State} {m : MethodId} {args : Array Value} {below : List Frame} {meth : Method} {c : Code} {D : va_G} {ca : Nat → ClassId} {ad : Nat → Nat} {A : Nat → Prop} {Q : Option mV → mM → Prop} (hX : CX p s m args meth c 6 cX12_in "FairBlocksModel" D ca ad A) (hr : meth.sig.returnType = (Option.some FieldType.boolean)) : ∀ lv st M, BX12_in_0 (Gd p l e (rmD 0) s m args below meth c 6 D ca ad A 0 0 (MQ below (QC D ca ad A Q) args s 0 0 A)) Q lv st M → Gd p l e (rmD 0) s m args below meth c 6 D ca ad A 0 0 (MQ below (QC D ca ad A Q) args s 0 0 A) 0 lv st M :=
  (sd_lload_n hX dX12_in_0 rfl (sd_lload_n hX dX12_in_1 rfl (sd_lcmp hX dX12_in_2 (sd_if_lt hX dX12_in_3 (by decide) sd_at (sd_lload_n hX dX12_in_6 rfl (sd_lload hX dX12_in_7 (sd_lcmp hX dX12_in_9 (sd_if_gt hX dX12_in_10 (by decide) sd_at (sd_iconst hX dX12_in_13 rfl (sd_goto hX dX12_in_14 (by decide) sd_at))))))))))
def BX12_in_17 (G : Nat → KT) (Q : Option mV → mM → Prop) : KT := (s_iconst (0) (s_at G 18 [false, false, false, false, false, false]))
set_option maxRecDepth 4000 in
theorem bsX12_in_17 {p : Program} {l : Launch} {e : Env} {s : State} {m : MethodId} {args : Array Value} {below : List Frame} {meth : Method} {c : Code} {D : va_G} {ca : Nat → ClassId} {ad : Nat → Nat} {A : Nat → Prop} {Q : Option mV → mM → Prop} (hX : CX p s m args meth c 6 cX12_in "FairBlocksModel" D ca ad A) (hr : meth.sig.returnType = (Option.some FieldType.boolean)) : ∀ lv st M, BX12_in_17 (Gd p l e (rmD 0) s m args below meth c 6 D ca ad A 0 0 (MQ below (QC D ca ad A Q) args s 0 0 A)) Q lv st M → Gd p l e (rmD 0) s m args below meth c 6 D ca ad A 0 0 (MQ below (QC D ca ad A Q) args s 0 0 A) 17 lv st M :=
  (sd_iconst hX dX12_in_17 rfl sd_at)
def BX12_in_18 (G : Nat → KT) (Q : Option mV → mM → Prop) : KT := (s_zret Q)
set_option maxRecDepth 4000 in
theorem bsX12_in_18 {p : Program} {l : Launch} {e : Env} {s : State} {m : MethodId} {args : Array Value} {below : List Frame} {meth : Method} {c : Code} {D : va_G} {ca : Nat → ClassId} {ad : Nat → Nat} {A : Nat → Prop} {Q : Option mV → mM → Prop} (hX : CX p s m args meth c 6 cX12_in "FairBlocksModel" D ca ad A) (hr : meth.sig.returnType = (Option.some FieldType.boolean)) : ∀ lv st M, BX12_in_18 (Gd p l e (rmD 0) s m args below meth c 6 D ca ad A 0 0 (MQ below (QC D ca ad A Q) args s 0 0 A)) Q lv st M → Gd p l e (rmD 0) s m args below meth c 6 D ca ad A 0 0 (MQ below (QC D ca ad A Q) args s 0 0 A) 18 lv st M :=
  sd_zret hX hr dX12_in_18
set_option maxHeartbeats 400000 in
theorem pf_X12_in (G : Nat → KT) (Q : Option mV → mM → Prop) (h0 : ∀ lv st M, BX12_in_0 G Q lv st M → G 0 lv st M) (h17 : ∀ lv st M, BX12_in_17 G Q lv st M → G 17 lv st M) (h18 : ∀ lv st M, BX12_in_18 G Q lv st M → G 18 lv st M) (as : List mV) (M : mM) (ho : ∀ v ∈ as, okV v) (hp : pre_X12_in as M) (hQ : Q (fn_X12_in as M).1 (fn_X12_in as M).2) : G 0 (inL as ++ List.replicate (6 - (inL as).length) none) [] M := by
  obtain ⟨x, y, z, rfl⟩ := hp
  simp only [fn_X12_in, iL] at hQ
  have F : Q (some (.inl 0)) M → G 17 [none, none, none, none, none, none] [] M := by
    intro hQ
    (apply h17; simp only [BX12_in_17, s_mth, s_mab, s_at, s_iconst, s_lconst, s_iload, s_lload, s_aload, s_istore, s_lstore, s_astore, s_iinc, s_bin, s_binG, s_un, s_lbin, s_lbinG, s_lsh, s_lcmp, s_i2l, s_l2i, s_dup, s_dup2, s_pop, s_if, s_icmp, s_geti, s_getl, s_getr, s_puti, s_putz, s_putl, s_iald, s_zald, s_iast, s_zast, s_aaldS, s_aaldU, s_gets, s_tald, s_tsw, tsw, s_iret, s_zret, s_lret, s_aret, s_vret, s_callV, s_callS, c1, nl1, keepL, csum, pushR, inL, List.getD_cons_zero, List.getD_cons_succ, List.set_cons_zero, List.set_cons_succ, List.cons_append, List.nil_append, List.append_nil, List.replicate, List.length_cons, List.length_nil, List.take_succ_cons, List.take_zero, List.drop_succ_cons, List.drop_zero, List.reverse_cons, List.reverse_nil, true_and, and_true, forall_const, not_true_eq_false, not_false_eq_true, false_implies, true_implies, implies_true, one0, m10, Nat.reduceAdd, Nat.reduceSub, Nat.reduceLeDiff, Nat.zero_add, Nat.add_zero])
    (apply h18; simp only [BX12_in_18, s_mth, s_mab, s_at, s_iconst, s_lconst, s_iload, s_lload, s_aload, s_istore, s_lstore, s_astore, s_iinc, s_bin, s_binG, s_un, s_lbin, s_lbinG, s_lsh, s_lcmp, s_i2l, s_l2i, s_dup, s_dup2, s_pop, s_if, s_icmp, s_geti, s_getl, s_getr, s_puti, s_putz, s_putl, s_iald, s_zald, s_iast, s_zast, s_aaldS, s_aaldU, s_gets, s_tald, s_tsw, tsw, s_iret, s_zret, s_lret, s_aret, s_vret, s_callV, s_callS, c1, nl1, keepL, csum, pushR, inL, List.getD_cons_zero, List.getD_cons_succ, List.set_cons_zero, List.set_cons_succ, List.cons_append, List.nil_append, List.append_nil, List.replicate, List.length_cons, List.length_nil, List.take_succ_cons, List.take_zero, List.drop_succ_cons, List.drop_zero, List.reverse_cons, List.reverse_nil, true_and, and_true, forall_const, not_true_eq_false, not_false_eq_true, false_implies, true_implies, implies_true, one0, m10, Nat.reduceAdd, Nat.reduceSub, Nat.reduceLeDiff, Nat.zero_add, Nat.add_zero])
    exact ⟨by simp, hQ⟩
  (apply h0; simp only [BX12_in_0, s_mth, s_mab, s_at, s_iconst, s_lconst, s_iload, s_lload, s_aload, s_istore, s_lstore, s_astore, s_iinc, s_bin, s_binG, s_un, s_lbin, s_lbinG, s_lsh, s_lcmp, s_i2l, s_l2i, s_dup, s_dup2, s_pop, s_if, s_icmp, s_geti, s_getl, s_getr, s_puti, s_putz, s_putl, s_iald, s_zald, s_iast, s_zast, s_aaldS, s_aaldU, s_gets, s_tald, s_tsw, tsw, s_iret, s_zret, s_lret, s_aret, s_vret, s_callV, s_callS, c1, nl1, keepL, csum, pushR, inL, List.getD_cons_zero, List.getD_cons_succ, List.set_cons_zero, List.set_cons_succ, List.cons_append, List.nil_append, List.append_nil, List.replicate, List.length_cons, List.length_nil, List.take_succ_cons, List.take_zero, List.drop_succ_cons, List.drop_zero, List.reverse_cons, List.reverse_nil, true_and, and_true, forall_const, not_true_eq_false, not_false_eq_true, false_implies, true_implies, implies_true, one0, m10, Nat.reduceAdd, Nat.reduceSub, Nat.reduceLeDiff, Nat.zero_add, Nat.add_zero])
  simp only [cmp0, cmp0']
  refine ⟨fun h => ?_, fun h => ⟨fun h2 => ?_, fun h2 => ?_⟩⟩
  · rw [if_pos h] at hQ; exact F hQ
  · rw [if_neg h, if_pos h2] at hQ; exact F hQ
  · rw [if_neg h, if_neg h2] at hQ
    (apply h18; simp only [BX12_in_18, s_mth, s_mab, s_at, s_iconst, s_lconst, s_iload, s_lload, s_aload, s_istore, s_lstore, s_astore, s_iinc, s_bin, s_binG, s_un, s_lbin, s_lbinG, s_lsh, s_lcmp, s_i2l, s_l2i, s_dup, s_dup2, s_pop, s_if, s_icmp, s_geti, s_getl, s_getr, s_puti, s_putz, s_putl, s_iald, s_zald, s_iast, s_zast, s_aaldS, s_aaldU, s_gets, s_tald, s_tsw, tsw, s_iret, s_zret, s_lret, s_aret, s_vret, s_callV, s_callS, c1, nl1, keepL, csum, pushR, inL, List.getD_cons_zero, List.getD_cons_succ, List.set_cons_zero, List.set_cons_succ, List.cons_append, List.nil_append, List.append_nil, List.replicate, List.length_cons, List.length_nil, List.take_succ_cons, List.take_zero, List.drop_succ_cons, List.drop_zero, List.reverse_cons, List.reverse_nil, true_and, and_true, forall_const, not_true_eq_false, not_false_eq_true, false_implies, true_implies, implies_true, one0, m10, Nat.reduceAdd, Nat.reduceSub, Nat.reduceLeDiff, Nat.zero_add, Nat.add_zero])
    exact ⟨by simp, hQ⟩
theorem ct_X12_in (l : Launch) : Con l yX12_in cX12_in 6 (Option.some FieldType.boolean) 0 pre_X12_in fn_X12_in := con_of (by decide +kernel) ok_X12_in len_X12_in (fun p e s m args below meth c D ca ad A as M hX hr hp ho => pf_X12_in _ _ (bsX12_in_0 hX hr) (bsX12_in_17 hX hr) (bsX12_in_18 hX hr) as M ho hp ⟨rfl, rfl⟩)
def hs1 (s : Int32) (k : Int32) : Int32 := if (s >>> (k &&& 31)) &&& 1 = 1 then 1 else 0
def pre_X12_has (as : List mV) (M : mM) : Prop := ∃ s k, as = [.inl s, .inl k]
def fn_X12_has : List mV → mM → Option mV × mM
  | [.inl s, .inl k], M => (some (.inl (hs1 s k)), M)
  | _, M => (none, M)
theorem ok_X12_has (as : List mV) (M : mM) (h : pre_X12_has as M) (_ : ∀ v ∈ as, okV v) : okR (fn_X12_has as M).1 := by
  obtain ⟨s, k, rfl⟩ := h
  first | trivial | exact (by decide +kernel : kof 14 = 8)
theorem len_X12_has (as : List mV) (M : mM) (h : pre_X12_has as M) : (inL as).length ≤ 2 := by
  obtain ⟨s, k, rfl⟩ := h
  exact Nat.le_of_ble_eq_true rfl


theorem dX12_has_0 : decode cX12_has 0 = .ok (.iload_n 0, 1) := by decide +kernel
theorem dX12_has_1 : decode cX12_has 1 = .ok (.iload_n 1, 1) := by decide +kernel
theorem dX12_has_2 : decode cX12_has 2 = .ok (.ishr, 1) := by decide +kernel
theorem dX12_has_3 : decode cX12_has 3 = .ok (.iconst 1, 1) := by decide +kernel
theorem dX12_has_4 : decode cX12_has 4 = .ok (.iand, 1) := by decide +kernel
theorem dX12_has_5 : decode cX12_has 5 = .ok (.iconst 1, 1) := by decide +kernel
theorem dX12_has_6 : decode cX12_has 6 = .ok (.if_icmp .ne 7, 3) := by decide +kernel
theorem dX12_has_9 : decode cX12_has 9 = .ok (.iconst 1, 1) := by decide +kernel
theorem dX12_has_10 : decode cX12_has 10 = .ok (.goto 4, 3) := by decide +kernel
theorem dX12_has_13 : decode cX12_has 13 = .ok (.iconst 0, 1) := by decide +kernel
theorem dX12_has_14 : decode cX12_has 14 = .ok (.ireturn, 1) := by decide +kernel
theorem mk_X12_has : MSk yX12_has cX12_has 2 (Option.some FieldType.boolean) 2 := ⟨w_1007, w_1006, w_13, by decide +kernel, by decide +kernel, by decide +kernel⟩
def BX12_has_0 (G : Nat → KT) (Q : Option mV → mM → Prop) : KT := (s_iload 0 (s_iload 1 (s_bin (fun x y => x >>> (y &&& 31)) (s_iconst (1) (s_bin (fun x y => x &&& y) (s_iconst (1) (s_icmp (fun x y => x = y) ((s_iconst (1) (s_at G 14 [false, false]))) (s_at G 13 [false, false]))))))))
set_option maxRecDepth 4000 in
theorem bsX12_has_0 {p : Program} {l : Launch} {e : Env} {s : State} {m : MethodId} {args : Array Value} {below : List Frame} {meth : Method} {c : Code} {D : va_G} {ca : Nat → ClassId} {ad : Nat → Nat} {A : Nat → Prop} {Q : Option mV → mM → Prop} (hX : CX p s m args meth c 2 cX12_has "FairBlocksModel" D ca ad A) (hr : meth.sig.returnType = (Option.some FieldType.boolean)) : ∀ lv st M, BX12_has_0 (Gd p l e (rmD 0) s m args below meth c 2 D ca ad A 0 0 (MQ below (QC D ca ad A Q) args s 0 0 A)) Q lv st M → Gd p l e (rmD 0) s m args below meth c 2 D ca ad A 0 0 (MQ below (QC D ca ad A Q) args s 0 0 A) 0 lv st M :=
  (sd_iload_n hX dX12_has_0 rfl (sd_iload_n hX dX12_has_1 rfl (sd_ishr hX dX12_has_2 (sd_iconst hX dX12_has_3 rfl (sd_iand hX dX12_has_4 (sd_iconst hX dX12_has_5 rfl (sd_icmp_ne hX dX12_has_6 (by decide) sd_at (sd_iconst hX dX12_has_9 rfl (sd_goto hX dX12_has_10 (by decide) sd_at)))))))))
def BX12_has_13 (G : Nat → KT) (Q : Option mV → mM → Prop) : KT := (s_iconst (0) (s_at G 14 [false, false]))
set_option maxRecDepth 4000 in
theorem bsX12_has_13 {p : Program} {l : Launch} {e : Env} {s : State} {m : MethodId} {args : Array Value} {below : List Frame} {meth : Method} {c : Code} {D : va_G} {ca : Nat → ClassId} {ad : Nat → Nat} {A : Nat → Prop} {Q : Option mV → mM → Prop} (hX : CX p s m args meth c 2 cX12_has "FairBlocksModel" D ca ad A) (hr : meth.sig.returnType = (Option.some FieldType.boolean)) : ∀ lv st M, BX12_has_13 (Gd p l e (rmD 0) s m args below meth c 2 D ca ad A 0 0 (MQ below (QC D ca ad A Q) args s 0 0 A)) Q lv st M → Gd p l e (rmD 0) s m args below meth c 2 D ca ad A 0 0 (MQ below (QC D ca ad A Q) args s 0 0 A) 13 lv st M :=
  (sd_iconst hX dX12_has_13 rfl sd_at)
def BX12_has_14 (G : Nat → KT) (Q : Option mV → mM → Prop) : KT := (s_zret Q)
set_option maxRecDepth 4000 in
theorem bsX12_has_14 {p : Program} {l : Launch} {e : Env} {s : State} {m : MethodId} {args : Array Value} {below : List Frame} {meth : Method} {c : Code} {D : va_G} {ca : Nat → ClassId} {ad : Nat → Nat} {A : Nat → Prop} {Q : Option mV → mM → Prop} (hX : CX p s m args meth c 2 cX12_has "FairBlocksModel" D ca ad A) (hr : meth.sig.returnType = (Option.some FieldType.boolean)) : ∀ lv st M, BX12_has_14 (Gd p l e (rmD 0) s m args below meth c 2 D ca ad A 0 0 (MQ below (QC D ca ad A Q) args s 0 0 A)) Q lv st M → Gd p l e (rmD 0) s m args below meth c 2 D ca ad A 0 0 (MQ below (QC D ca ad A Q) args s 0 0 A) 14 lv st M :=
  sd_zret hX hr dX12_has_14
set_option maxHeartbeats 400000 in
theorem pf_X12_has (G : Nat → KT) (Q : Option mV → mM → Prop) (h0 : ∀ lv st M, BX12_has_0 G Q lv st M → G 0 lv st M) (h13 : ∀ lv st M, BX12_has_13 G Q lv st M → G 13 lv st M) (h14 : ∀ lv st M, BX12_has_14 G Q lv st M → G 14 lv st M) (as : List mV) (M : mM) (ho : ∀ v ∈ as, okV v) (hp : pre_X12_has as M) (hQ : Q (fn_X12_has as M).1 (fn_X12_has as M).2) : G 0 (inL as ++ List.replicate (2 - (inL as).length) none) [] M := by
  obtain ⟨s, k, rfl⟩ := hp
  simp only [fn_X12_has, hs1] at hQ
  (apply h0; simp only [BX12_has_0, s_mth, s_mab, s_at, s_iconst, s_lconst, s_iload, s_lload, s_aload, s_istore, s_lstore, s_astore, s_iinc, s_bin, s_binG, s_un, s_lbin, s_lbinG, s_lsh, s_lcmp, s_i2l, s_l2i, s_dup, s_dup2, s_pop, s_if, s_icmp, s_geti, s_getl, s_getr, s_puti, s_putz, s_putl, s_iald, s_zald, s_iast, s_zast, s_aaldS, s_aaldU, s_gets, s_tald, s_tsw, tsw, s_iret, s_zret, s_lret, s_aret, s_vret, s_callV, s_callS, c1, nl1, keepL, csum, pushR, inL, List.getD_cons_zero, List.getD_cons_succ, List.set_cons_zero, List.set_cons_succ, List.cons_append, List.nil_append, List.append_nil, List.replicate, List.length_cons, List.length_nil, List.take_succ_cons, List.take_zero, List.drop_succ_cons, List.drop_zero, List.reverse_cons, List.reverse_nil, true_and, and_true, forall_const, not_true_eq_false, not_false_eq_true, false_implies, true_implies, implies_true, one0, m10, Nat.reduceAdd, Nat.reduceSub, Nat.reduceLeDiff, Nat.zero_add, Nat.add_zero])
  refine ⟨fun h => ?_, fun h => ?_⟩
  · rw [if_pos h] at hQ
    (apply h14; simp only [BX12_has_14, s_mth, s_mab, s_at, s_iconst, s_lconst, s_iload, s_lload, s_aload, s_istore, s_lstore, s_astore, s_iinc, s_bin, s_binG, s_un, s_lbin, s_lbinG, s_lsh, s_lcmp, s_i2l, s_l2i, s_dup, s_dup2, s_pop, s_if, s_icmp, s_geti, s_getl, s_getr, s_puti, s_putz, s_putl, s_iald, s_zald, s_iast, s_zast, s_aaldS, s_aaldU, s_gets, s_tald, s_tsw, tsw, s_iret, s_zret, s_lret, s_aret, s_vret, s_callV, s_callS, c1, nl1, keepL, csum, pushR, inL, List.getD_cons_zero, List.getD_cons_succ, List.set_cons_zero, List.set_cons_succ, List.cons_append, List.nil_append, List.append_nil, List.replicate, List.length_cons, List.length_nil, List.take_succ_cons, List.take_zero, List.drop_succ_cons, List.drop_zero, List.reverse_cons, List.reverse_nil, true_and, and_true, forall_const, not_true_eq_false, not_false_eq_true, false_implies, true_implies, implies_true, one0, m10, Nat.reduceAdd, Nat.reduceSub, Nat.reduceLeDiff, Nat.zero_add, Nat.add_zero])
    exact ⟨by simp, hQ⟩
  · rw [if_neg h] at hQ
    (apply h13; simp only [BX12_has_13, s_mth, s_mab, s_at, s_iconst, s_lconst, s_iload, s_lload, s_aload, s_istore, s_lstore, s_astore, s_iinc, s_bin, s_binG, s_un, s_lbin, s_lbinG, s_lsh, s_lcmp, s_i2l, s_l2i, s_dup, s_dup2, s_pop, s_if, s_icmp, s_geti, s_getl, s_getr, s_puti, s_putz, s_putl, s_iald, s_zald, s_iast, s_zast, s_aaldS, s_aaldU, s_gets, s_tald, s_tsw, tsw, s_iret, s_zret, s_lret, s_aret, s_vret, s_callV, s_callS, c1, nl1, keepL, csum, pushR, inL, List.getD_cons_zero, List.getD_cons_succ, List.set_cons_zero, List.set_cons_succ, List.cons_append, List.nil_append, List.append_nil, List.replicate, List.length_cons, List.length_nil, List.take_succ_cons, List.take_zero, List.drop_succ_cons, List.drop_zero, List.reverse_cons, List.reverse_nil, true_and, and_true, forall_const, not_true_eq_false, not_false_eq_true, false_implies, true_implies, implies_true, one0, m10, Nat.reduceAdd, Nat.reduceSub, Nat.reduceLeDiff, Nat.zero_add, Nat.add_zero])
    (apply h14; simp only [BX12_has_14, s_mth, s_mab, s_at, s_iconst, s_lconst, s_iload, s_lload, s_aload, s_istore, s_lstore, s_astore, s_iinc, s_bin, s_binG, s_un, s_lbin, s_lbinG, s_lsh, s_lcmp, s_i2l, s_l2i, s_dup, s_dup2, s_pop, s_if, s_icmp, s_geti, s_getl, s_getr, s_puti, s_putz, s_putl, s_iald, s_zald, s_iast, s_zast, s_aaldS, s_aaldU, s_gets, s_tald, s_tsw, tsw, s_iret, s_zret, s_lret, s_aret, s_vret, s_callV, s_callS, c1, nl1, keepL, csum, pushR, inL, List.getD_cons_zero, List.getD_cons_succ, List.set_cons_zero, List.set_cons_succ, List.cons_append, List.nil_append, List.append_nil, List.replicate, List.length_cons, List.length_nil, List.take_succ_cons, List.take_zero, List.drop_succ_cons, List.drop_zero, List.reverse_cons, List.reverse_nil, true_and, and_true, forall_const, not_true_eq_false, not_false_eq_true, false_implies, true_implies, implies_true, one0, m10, Nat.reduceAdd, Nat.reduceSub, Nat.reduceLeDiff, Nat.zero_add, Nat.add_zero])
    exact ⟨by simp, hQ⟩
theorem ct_X12_has (l : Launch) : Con l yX12_has cX12_has 2 (Option.some FieldType.boolean) 0 pre_X12_has fn_X12_has := con_of (by decide +kernel) ok_X12_has len_X12_has (fun p e s m args below meth c D ca ad A as M hX hr hp ho => pf_X12_has _ _ (bsX12_has_0 hX hr) (bsX12_has_13 hX hr) (bsX12_has_14 hX hr) as M ho hp ⟨rfl, rfl⟩)
def on1 (s : Int32) : Int32 := itr (fun k (n : Int32) => n + ((s >>> (nI k &&& 31)) &&& 1)) 0 8 0
def pre_X12_ones (as : List mV) (M : mM) : Prop := ∃ s, as = [.inl s]
def fn_X12_ones : List mV → mM → Option mV × mM
  | [.inl s], M => (some (.inl (on1 s)), M)
  | _, M => (none, M)
theorem ok_X12_ones (as : List mV) (M : mM) (h : pre_X12_ones as M) (_ : ∀ v ∈ as, okV v) : okR (fn_X12_ones as M).1 := by
  obtain ⟨s, rfl⟩ := h
  first | trivial | exact (by decide +kernel : kof 14 = 8)
theorem len_X12_ones (as : List mV) (M : mM) (h : pre_X12_ones as M) : (inL as).length ≤ 3 := by
  obtain ⟨s, rfl⟩ := h
  exact Nat.le_of_ble_eq_true rfl


theorem dX12_ones_0 : decode cX12_ones 0 = .ok (.iconst 0, 1) := by decide +kernel
theorem dX12_ones_1 : decode cX12_ones 1 = .ok (.istore_n 1, 1) := by decide +kernel
theorem dX12_ones_2 : decode cX12_ones 2 = .ok (.iconst 0, 1) := by decide +kernel
theorem dX12_ones_3 : decode cX12_ones 3 = .ok (.istore_n 2, 1) := by decide +kernel
theorem dX12_ones_4 : decode cX12_ones 4 = .ok (.iload_n 2, 1) := by decide +kernel
theorem dX12_ones_5 : decode cX12_ones 5 = .ok (.bipush 8, 2) := by decide +kernel
theorem dX12_ones_7 : decode cX12_ones 7 = .ok (.if_icmp .ge 17, 3) := by decide +kernel
theorem dX12_ones_10 : decode cX12_ones 10 = .ok (.iload_n 1, 1) := by decide +kernel
theorem dX12_ones_11 : decode cX12_ones 11 = .ok (.iload_n 0, 1) := by decide +kernel
theorem dX12_ones_12 : decode cX12_ones 12 = .ok (.iload_n 2, 1) := by decide +kernel
theorem dX12_ones_13 : decode cX12_ones 13 = .ok (.ishr, 1) := by decide +kernel
theorem dX12_ones_14 : decode cX12_ones 14 = .ok (.iconst 1, 1) := by decide +kernel
theorem dX12_ones_15 : decode cX12_ones 15 = .ok (.iand, 1) := by decide +kernel
theorem dX12_ones_16 : decode cX12_ones 16 = .ok (.iadd, 1) := by decide +kernel
theorem dX12_ones_17 : decode cX12_ones 17 = .ok (.istore_n 1, 1) := by decide +kernel
theorem dX12_ones_18 : decode cX12_ones 18 = .ok (.iinc 2 1, 3) := by decide +kernel
theorem dX12_ones_21 : decode cX12_ones 21 = .ok (.goto (-17), 3) := by decide +kernel
theorem dX12_ones_24 : decode cX12_ones 24 = .ok (.iload_n 1, 1) := by decide +kernel
theorem dX12_ones_25 : decode cX12_ones 25 = .ok (.ireturn, 1) := by decide +kernel
theorem mk_X12_ones : MSk yX12_ones cX12_ones 3 (Option.some FieldType.int) 1 := ⟨w_1010, w_1009, w_13, by decide +kernel, by decide +kernel, by decide +kernel⟩
def BX12_ones_0 (G : Nat → KT) (Q : Option mV → mM → Prop) : KT := (s_iconst (0) (s_istore 1 (s_iconst (0) (s_istore 2 (s_at G 4 [true, true, true])))))
set_option maxRecDepth 4000 in
theorem bsX12_ones_0 {p : Program} {l : Launch} {e : Env} {s : State} {m : MethodId} {args : Array Value} {below : List Frame} {meth : Method} {c : Code} {D : va_G} {ca : Nat → ClassId} {ad : Nat → Nat} {A : Nat → Prop} {Q : Option mV → mM → Prop} (hX : CX p s m args meth c 3 cX12_ones "FairBlocksModel" D ca ad A) (hr : meth.sig.returnType = (Option.some FieldType.int)) : ∀ lv st M, BX12_ones_0 (Gd p l e (rmD 0) s m args below meth c 3 D ca ad A 0 0 (MQ below (QC D ca ad A Q) args s 0 0 A)) Q lv st M → Gd p l e (rmD 0) s m args below meth c 3 D ca ad A 0 0 (MQ below (QC D ca ad A Q) args s 0 0 A) 0 lv st M :=
  (sd_iconst hX dX12_ones_0 rfl (sd_istore_n hX (by decide) dX12_ones_1 rfl (sd_iconst hX dX12_ones_2 rfl (sd_istore_n hX (by decide) dX12_ones_3 rfl sd_at))))
def BX12_ones_4 (G : Nat → KT) (Q : Option mV → mM → Prop) : KT := (s_iload 2 (s_iconst (8) (s_icmp (fun x y => y ≤ x) (s_at G 24 [false, true, false]) (s_iload 1 (s_iload 0 (s_iload 2 (s_bin (fun x y => x >>> (y &&& 31)) (s_iconst (1) (s_bin (fun x y => x &&& y) (s_bin (fun x y => x + y) (s_istore 1 (s_iinc 2 (1) (s_at G 4 [true, true, true])))))))))))))
set_option maxRecDepth 4000 in
theorem bsX12_ones_4 {p : Program} {l : Launch} {e : Env} {s : State} {m : MethodId} {args : Array Value} {below : List Frame} {meth : Method} {c : Code} {D : va_G} {ca : Nat → ClassId} {ad : Nat → Nat} {A : Nat → Prop} {Q : Option mV → mM → Prop} (hX : CX p s m args meth c 3 cX12_ones "FairBlocksModel" D ca ad A) (hr : meth.sig.returnType = (Option.some FieldType.int)) : ∀ lv st M, BX12_ones_4 (Gd p l e (rmD 0) s m args below meth c 3 D ca ad A 0 0 (MQ below (QC D ca ad A Q) args s 0 0 A)) Q lv st M → Gd p l e (rmD 0) s m args below meth c 3 D ca ad A 0 0 (MQ below (QC D ca ad A Q) args s 0 0 A) 4 lv st M :=
  (sd_iload_n hX dX12_ones_4 rfl (sd_bipush hX dX12_ones_5 rfl (sd_icmp_ge hX dX12_ones_7 (by decide) sd_at (sd_iload_n hX dX12_ones_10 rfl (sd_iload_n hX dX12_ones_11 rfl (sd_iload_n hX dX12_ones_12 rfl (sd_ishr hX dX12_ones_13 (sd_iconst hX dX12_ones_14 rfl (sd_iand hX dX12_ones_15 (sd_iadd hX dX12_ones_16 (sd_istore_n hX (by decide) dX12_ones_17 rfl (sd_iinc hX (by decide) dX12_ones_18 rfl (sd_goto hX dX12_ones_21 (by decide) sd_at)))))))))))))
def BX12_ones_24 (G : Nat → KT) (Q : Option mV → mM → Prop) : KT := (s_iload 1 (s_iret Q))
set_option maxRecDepth 4000 in
theorem bsX12_ones_24 {p : Program} {l : Launch} {e : Env} {s : State} {m : MethodId} {args : Array Value} {below : List Frame} {meth : Method} {c : Code} {D : va_G} {ca : Nat → ClassId} {ad : Nat → Nat} {A : Nat → Prop} {Q : Option mV → mM → Prop} (hX : CX p s m args meth c 3 cX12_ones "FairBlocksModel" D ca ad A) (hr : meth.sig.returnType = (Option.some FieldType.int)) : ∀ lv st M, BX12_ones_24 (Gd p l e (rmD 0) s m args below meth c 3 D ca ad A 0 0 (MQ below (QC D ca ad A Q) args s 0 0 A)) Q lv st M → Gd p l e (rmD 0) s m args below meth c 3 D ca ad A 0 0 (MQ below (QC D ca ad A Q) args s 0 0 A) 24 lv st M :=
  (sd_iload_n hX dX12_ones_24 rfl (sd_iret hX hr dX12_ones_25))
set_option maxHeartbeats 400000 in
theorem pf_X12_ones (G : Nat → KT) (Q : Option mV → mM → Prop) (h0 : ∀ lv st M, BX12_ones_0 G Q lv st M → G 0 lv st M) (h4 : ∀ lv st M, BX12_ones_4 G Q lv st M → G 4 lv st M) (h24 : ∀ lv st M, BX12_ones_24 G Q lv st M → G 24 lv st M) (as : List mV) (M : mM) (ho : ∀ v ∈ as, okV v) (hp : pre_X12_ones as M) (hQ : Q (fn_X12_ones as M).1 (fn_X12_ones as M).2) : G 0 (inL as ++ List.replicate (3 - (inL as).length) none) [] M := by
  obtain ⟨s, rfl⟩ := hp
  simp only [fn_X12_ones, on1] at hQ
  have loop : ∀ (n i : Nat) (t : Int32), i + n = 8 → Q (some (.inl (itr (fun k (n : Int32) => n + ((s >>> (nI k &&& 31)) &&& 1)) i n t))) M → G 4 [some (.inl s), some (.inl t), some (.inl (nI i))] [] M := by
    intro n
    induction n with
    | zero =>
      intro i t hi hq
      obtain rfl : i = 8 := by omega
      (apply h4; simp only [BX12_ones_4, s_mth, s_mab, s_at, s_iconst, s_lconst, s_iload, s_lload, s_aload, s_istore, s_lstore, s_astore, s_iinc, s_bin, s_binG, s_un, s_lbin, s_lbinG, s_lsh, s_lcmp, s_i2l, s_l2i, s_dup, s_dup2, s_pop, s_if, s_icmp, s_geti, s_getl, s_getr, s_puti, s_putz, s_putl, s_iald, s_zald, s_iast, s_zast, s_aaldS, s_aaldU, s_gets, s_tald, s_tsw, tsw, s_iret, s_zret, s_lret, s_aret, s_vret, s_callV, s_callS, c1, nl1, keepL, csum, pushR, inL, List.getD_cons_zero, List.getD_cons_succ, List.set_cons_zero, List.set_cons_succ, List.cons_append, List.nil_append, List.append_nil, List.replicate, List.length_cons, List.length_nil, List.take_succ_cons, List.take_zero, List.drop_succ_cons, List.drop_zero, List.reverse_cons, List.reverse_nil, true_and, and_true, forall_const, not_true_eq_false, not_false_eq_true, false_implies, true_implies, implies_true, one0, m10, Nat.reduceAdd, Nat.reduceSub, Nat.reduceLeDiff, Nat.zero_add, Nat.add_zero])
      refine ⟨fun _ => ?_, fun h => absurd (by decide) h⟩
      (apply h24; simp only [BX12_ones_24, s_mth, s_mab, s_at, s_iconst, s_lconst, s_iload, s_lload, s_aload, s_istore, s_lstore, s_astore, s_iinc, s_bin, s_binG, s_un, s_lbin, s_lbinG, s_lsh, s_lcmp, s_i2l, s_l2i, s_dup, s_dup2, s_pop, s_if, s_icmp, s_geti, s_getl, s_getr, s_puti, s_putz, s_putl, s_iald, s_zald, s_iast, s_zast, s_aaldS, s_aaldU, s_gets, s_tald, s_tsw, tsw, s_iret, s_zret, s_lret, s_aret, s_vret, s_callV, s_callS, c1, nl1, keepL, csum, pushR, inL, List.getD_cons_zero, List.getD_cons_succ, List.set_cons_zero, List.set_cons_succ, List.cons_append, List.nil_append, List.append_nil, List.replicate, List.length_cons, List.length_nil, List.take_succ_cons, List.take_zero, List.drop_succ_cons, List.drop_zero, List.reverse_cons, List.reverse_nil, true_and, and_true, forall_const, not_true_eq_false, not_false_eq_true, false_implies, true_implies, implies_true, one0, m10, Nat.reduceAdd, Nat.reduceSub, Nat.reduceLeDiff, Nat.zero_add, Nat.add_zero])
      exact hq
    | succ n ih =>
      intro i t hi hq
      (apply h4; simp only [BX12_ones_4, s_mth, s_mab, s_at, s_iconst, s_lconst, s_iload, s_lload, s_aload, s_istore, s_lstore, s_astore, s_iinc, s_bin, s_binG, s_un, s_lbin, s_lbinG, s_lsh, s_lcmp, s_i2l, s_l2i, s_dup, s_dup2, s_pop, s_if, s_icmp, s_geti, s_getl, s_getr, s_puti, s_putz, s_putl, s_iald, s_zald, s_iast, s_zast, s_aaldS, s_aaldU, s_gets, s_tald, s_tsw, tsw, s_iret, s_zret, s_lret, s_aret, s_vret, s_callV, s_callS, c1, nl1, keepL, csum, pushR, inL, List.getD_cons_zero, List.getD_cons_succ, List.set_cons_zero, List.set_cons_succ, List.cons_append, List.nil_append, List.append_nil, List.replicate, List.length_cons, List.length_nil, List.take_succ_cons, List.take_zero, List.drop_succ_cons, List.drop_zero, List.reverse_cons, List.reverse_nil, true_and, and_true, forall_const, not_true_eq_false, not_false_eq_true, false_implies, true_implies, implies_true, one0, m10, Nat.reduceAdd, Nat.reduceSub, Nat.reduceLeDiff, Nat.zero_add, Nat.add_zero])
      refine ⟨fun h => absurd h (nI_ge (b := 8) (by omega) (by decide)), fun _ => ?_⟩
      rw [nI_1]
      exact ih (i + 1) _ (by omega) hq
  (apply h0; simp only [BX12_ones_0, s_mth, s_mab, s_at, s_iconst, s_lconst, s_iload, s_lload, s_aload, s_istore, s_lstore, s_astore, s_iinc, s_bin, s_binG, s_un, s_lbin, s_lbinG, s_lsh, s_lcmp, s_i2l, s_l2i, s_dup, s_dup2, s_pop, s_if, s_icmp, s_geti, s_getl, s_getr, s_puti, s_putz, s_putl, s_iald, s_zald, s_iast, s_zast, s_aaldS, s_aaldU, s_gets, s_tald, s_tsw, tsw, s_iret, s_zret, s_lret, s_aret, s_vret, s_callV, s_callS, c1, nl1, keepL, csum, pushR, inL, List.getD_cons_zero, List.getD_cons_succ, List.set_cons_zero, List.set_cons_succ, List.cons_append, List.nil_append, List.append_nil, List.replicate, List.length_cons, List.length_nil, List.take_succ_cons, List.take_zero, List.drop_succ_cons, List.drop_zero, List.reverse_cons, List.reverse_nil, true_and, and_true, forall_const, not_true_eq_false, not_false_eq_true, false_implies, true_implies, implies_true, one0, m10, Nat.reduceAdd, Nat.reduceSub, Nat.reduceLeDiff, Nat.zero_add, Nat.add_zero])
  exact loop 8 0 0 rfl hQ
theorem ct_X12_ones (l : Launch) : Con l yX12_ones cX12_ones 3 (Option.some FieldType.int) 0 pre_X12_ones fn_X12_ones := con_of (by decide +kernel) ok_X12_ones len_X12_ones (fun p e s m args below meth c D ca ad A as M hX hr hp ho => pf_X12_ones _ _ (bsX12_ones_0 hX hr) (bsX12_ones_4 hX hr) (bsX12_ones_24 hX hr) as M ho hp ⟨rfl, rfl⟩)
def pre_X12_power (as : List mV) (M : mM) : Prop := ∃ b x, as = [.inl b, .inl x]
def fn_X12_power : List mV → mM → Option mV × mM
  | [.inl b, .inl x], M => (some (.inl (pw b x.toNatClampNeg)), M)
  | _, M => (none, M)
theorem ok_X12_power (as : List mV) (M : mM) (h : pre_X12_power as M) (_ : ∀ v ∈ as, okV v) : okR (fn_X12_power as M).1 := by
  obtain ⟨b, x, rfl⟩ := h
  first | trivial | exact (by decide +kernel : kof 14 = 8)
theorem len_X12_power (as : List mV) (M : mM) (h : pre_X12_power as M) : (inL as).length ≤ 4 := by
  obtain ⟨b, x, rfl⟩ := h
  exact Nat.le_of_ble_eq_true rfl


theorem dX12_power_0 : decode cX12_power 0 = .ok (.iconst 1, 1) := by decide +kernel
theorem dX12_power_1 : decode cX12_power 1 = .ok (.istore_n 2, 1) := by decide +kernel
theorem dX12_power_2 : decode cX12_power 2 = .ok (.iconst 0, 1) := by decide +kernel
theorem dX12_power_3 : decode cX12_power 3 = .ok (.istore_n 3, 1) := by decide +kernel
theorem dX12_power_4 : decode cX12_power 4 = .ok (.iload_n 3, 1) := by decide +kernel
theorem dX12_power_5 : decode cX12_power 5 = .ok (.iload_n 1, 1) := by decide +kernel
theorem dX12_power_6 : decode cX12_power 6 = .ok (.if_icmp .ge 13, 3) := by decide +kernel
theorem dX12_power_9 : decode cX12_power 9 = .ok (.iload_n 2, 1) := by decide +kernel
theorem dX12_power_10 : decode cX12_power 10 = .ok (.iload_n 0, 1) := by decide +kernel
theorem dX12_power_11 : decode cX12_power 11 = .ok (.imul, 1) := by decide +kernel
theorem dX12_power_12 : decode cX12_power 12 = .ok (.istore_n 2, 1) := by decide +kernel
theorem dX12_power_13 : decode cX12_power 13 = .ok (.iinc 3 1, 3) := by decide +kernel
theorem dX12_power_16 : decode cX12_power 16 = .ok (.goto (-12), 3) := by decide +kernel
theorem dX12_power_19 : decode cX12_power 19 = .ok (.iload_n 2, 1) := by decide +kernel
theorem dX12_power_20 : decode cX12_power 20 = .ok (.ireturn, 1) := by decide +kernel
theorem mk_X12_power : MSk yX12_power cX12_power 4 (Option.some FieldType.int) 2 := ⟨w_1031, w_1030, w_13, by decide +kernel, by decide +kernel, by decide +kernel⟩
def BX12_power_0 (G : Nat → KT) (Q : Option mV → mM → Prop) : KT := (s_iconst (1) (s_istore 2 (s_iconst (0) (s_istore 3 (s_at G 4 [true, true, true, true])))))
set_option maxRecDepth 4000 in
theorem bsX12_power_0 {p : Program} {l : Launch} {e : Env} {s : State} {m : MethodId} {args : Array Value} {below : List Frame} {meth : Method} {c : Code} {D : va_G} {ca : Nat → ClassId} {ad : Nat → Nat} {A : Nat → Prop} {Q : Option mV → mM → Prop} (hX : CX p s m args meth c 4 cX12_power "FairBlocksModel" D ca ad A) (hr : meth.sig.returnType = (Option.some FieldType.int)) : ∀ lv st M, BX12_power_0 (Gd p l e (rmD 0) s m args below meth c 4 D ca ad A 0 0 (MQ below (QC D ca ad A Q) args s 0 0 A)) Q lv st M → Gd p l e (rmD 0) s m args below meth c 4 D ca ad A 0 0 (MQ below (QC D ca ad A Q) args s 0 0 A) 0 lv st M :=
  (sd_iconst hX dX12_power_0 rfl (sd_istore_n hX (by decide) dX12_power_1 rfl (sd_iconst hX dX12_power_2 rfl (sd_istore_n hX (by decide) dX12_power_3 rfl sd_at))))
def BX12_power_4 (G : Nat → KT) (Q : Option mV → mM → Prop) : KT := (s_iload 3 (s_iload 1 (s_icmp (fun x y => y ≤ x) (s_at G 19 [false, false, true, false]) (s_iload 2 (s_iload 0 (s_bin (fun x y => x * y) (s_istore 2 (s_iinc 3 (1) (s_at G 4 [true, true, true, true])))))))))
set_option maxRecDepth 4000 in
theorem bsX12_power_4 {p : Program} {l : Launch} {e : Env} {s : State} {m : MethodId} {args : Array Value} {below : List Frame} {meth : Method} {c : Code} {D : va_G} {ca : Nat → ClassId} {ad : Nat → Nat} {A : Nat → Prop} {Q : Option mV → mM → Prop} (hX : CX p s m args meth c 4 cX12_power "FairBlocksModel" D ca ad A) (hr : meth.sig.returnType = (Option.some FieldType.int)) : ∀ lv st M, BX12_power_4 (Gd p l e (rmD 0) s m args below meth c 4 D ca ad A 0 0 (MQ below (QC D ca ad A Q) args s 0 0 A)) Q lv st M → Gd p l e (rmD 0) s m args below meth c 4 D ca ad A 0 0 (MQ below (QC D ca ad A Q) args s 0 0 A) 4 lv st M :=
  (sd_iload_n hX dX12_power_4 rfl (sd_iload_n hX dX12_power_5 rfl (sd_icmp_ge hX dX12_power_6 (by decide) sd_at (sd_iload_n hX dX12_power_9 rfl (sd_iload_n hX dX12_power_10 rfl (sd_imul hX dX12_power_11 (sd_istore_n hX (by decide) dX12_power_12 rfl (sd_iinc hX (by decide) dX12_power_13 rfl (sd_goto hX dX12_power_16 (by decide) sd_at)))))))))
def BX12_power_19 (G : Nat → KT) (Q : Option mV → mM → Prop) : KT := (s_iload 2 (s_iret Q))
set_option maxRecDepth 4000 in
theorem bsX12_power_19 {p : Program} {l : Launch} {e : Env} {s : State} {m : MethodId} {args : Array Value} {below : List Frame} {meth : Method} {c : Code} {D : va_G} {ca : Nat → ClassId} {ad : Nat → Nat} {A : Nat → Prop} {Q : Option mV → mM → Prop} (hX : CX p s m args meth c 4 cX12_power "FairBlocksModel" D ca ad A) (hr : meth.sig.returnType = (Option.some FieldType.int)) : ∀ lv st M, BX12_power_19 (Gd p l e (rmD 0) s m args below meth c 4 D ca ad A 0 0 (MQ below (QC D ca ad A Q) args s 0 0 A)) Q lv st M → Gd p l e (rmD 0) s m args below meth c 4 D ca ad A 0 0 (MQ below (QC D ca ad A Q) args s 0 0 A) 19 lv st M :=
  (sd_iload_n hX dX12_power_19 rfl (sd_iret hX hr dX12_power_20))
set_option maxHeartbeats 400000 in
theorem pf_X12_power (G : Nat → KT) (Q : Option mV → mM → Prop) (h0 : ∀ lv st M, BX12_power_0 G Q lv st M → G 0 lv st M) (h4 : ∀ lv st M, BX12_power_4 G Q lv st M → G 4 lv st M) (h19 : ∀ lv st M, BX12_power_19 G Q lv st M → G 19 lv st M) (as : List mV) (M : mM) (ho : ∀ v ∈ as, okV v) (hp : pre_X12_power as M) (hQ : Q (fn_X12_power as M).1 (fn_X12_power as M).2) : G 0 (inL as ++ List.replicate (4 - (inL as).length) none) [] M := by
  obtain ⟨b, x, rfl⟩ := hp
  simp only [fn_X12_power, pw] at hQ
  by_cases hx : x < 0
  · have e : x.toNatClampNeg = 0 := by
      rw [Int32.lt_iff_toInt_lt] at hx
      simp only [Int32.toInt_zero] at hx
      unfold Int32.toNatClampNeg
      omega
    rw [e] at hQ
    (apply h0; simp only [BX12_power_0, s_mth, s_mab, s_at, s_iconst, s_lconst, s_iload, s_lload, s_aload, s_istore, s_lstore, s_astore, s_iinc, s_bin, s_binG, s_un, s_lbin, s_lbinG, s_lsh, s_lcmp, s_i2l, s_l2i, s_dup, s_dup2, s_pop, s_if, s_icmp, s_geti, s_getl, s_getr, s_puti, s_putz, s_putl, s_iald, s_zald, s_iast, s_zast, s_aaldS, s_aaldU, s_gets, s_tald, s_tsw, tsw, s_iret, s_zret, s_lret, s_aret, s_vret, s_callV, s_callS, c1, nl1, keepL, csum, pushR, inL, List.getD_cons_zero, List.getD_cons_succ, List.set_cons_zero, List.set_cons_succ, List.cons_append, List.nil_append, List.append_nil, List.replicate, List.length_cons, List.length_nil, List.take_succ_cons, List.take_zero, List.drop_succ_cons, List.drop_zero, List.reverse_cons, List.reverse_nil, true_and, and_true, forall_const, not_true_eq_false, not_false_eq_true, false_implies, true_implies, implies_true, one0, m10, Nat.reduceAdd, Nat.reduceSub, Nat.reduceLeDiff, Nat.zero_add, Nat.add_zero])
    (apply h4; simp only [BX12_power_4, s_mth, s_mab, s_at, s_iconst, s_lconst, s_iload, s_lload, s_aload, s_istore, s_lstore, s_astore, s_iinc, s_bin, s_binG, s_un, s_lbin, s_lbinG, s_lsh, s_lcmp, s_i2l, s_l2i, s_dup, s_dup2, s_pop, s_if, s_icmp, s_geti, s_getl, s_getr, s_puti, s_putz, s_putl, s_iald, s_zald, s_iast, s_zast, s_aaldS, s_aaldU, s_gets, s_tald, s_tsw, tsw, s_iret, s_zret, s_lret, s_aret, s_vret, s_callV, s_callS, c1, nl1, keepL, csum, pushR, inL, List.getD_cons_zero, List.getD_cons_succ, List.set_cons_zero, List.set_cons_succ, List.cons_append, List.nil_append, List.append_nil, List.replicate, List.length_cons, List.length_nil, List.take_succ_cons, List.take_zero, List.drop_succ_cons, List.drop_zero, List.reverse_cons, List.reverse_nil, true_and, and_true, forall_const, not_true_eq_false, not_false_eq_true, false_implies, true_implies, implies_true, one0, m10, Nat.reduceAdd, Nat.reduceSub, Nat.reduceLeDiff, Nat.zero_add, Nat.add_zero])
    refine ⟨fun _ => ?_, fun h => absurd (by rw [Int32.lt_iff_toInt_lt] at hx; rw [Int32.le_iff_toInt_le]; omega) h⟩
    (apply h19; simp only [BX12_power_19, s_mth, s_mab, s_at, s_iconst, s_lconst, s_iload, s_lload, s_aload, s_istore, s_lstore, s_astore, s_iinc, s_bin, s_binG, s_un, s_lbin, s_lbinG, s_lsh, s_lcmp, s_i2l, s_l2i, s_dup, s_dup2, s_pop, s_if, s_icmp, s_geti, s_getl, s_getr, s_puti, s_putz, s_putl, s_iald, s_zald, s_iast, s_zast, s_aaldS, s_aaldU, s_gets, s_tald, s_tsw, tsw, s_iret, s_zret, s_lret, s_aret, s_vret, s_callV, s_callS, c1, nl1, keepL, csum, pushR, inL, List.getD_cons_zero, List.getD_cons_succ, List.set_cons_zero, List.set_cons_succ, List.cons_append, List.nil_append, List.append_nil, List.replicate, List.length_cons, List.length_nil, List.take_succ_cons, List.take_zero, List.drop_succ_cons, List.drop_zero, List.reverse_cons, List.reverse_nil, true_and, and_true, forall_const, not_true_eq_false, not_false_eq_true, false_implies, true_implies, implies_true, one0, m10, Nat.reduceAdd, Nat.reduceSub, Nat.reduceLeDiff, Nat.zero_add, Nat.add_zero])
    exact hQ
  · obtain ⟨N, hN, rfl⟩ := nI_of hx
    rw [nI_clamp hN] at hQ
    have loop : ∀ (n i : Nat) (p : Int32), i + n = N → Q (some (.inl (itr (fun _ (p : Int32) => p * b) i n p))) M → G 4 [some (.inl b), some (.inl (nI N)), some (.inl p), some (.inl (nI i))] [] M := by
      intro n
      induction n with
      | zero =>
        intro i p hi hq
        obtain rfl : i = N := by omega
        (apply h4; simp only [BX12_power_4, s_mth, s_mab, s_at, s_iconst, s_lconst, s_iload, s_lload, s_aload, s_istore, s_lstore, s_astore, s_iinc, s_bin, s_binG, s_un, s_lbin, s_lbinG, s_lsh, s_lcmp, s_i2l, s_l2i, s_dup, s_dup2, s_pop, s_if, s_icmp, s_geti, s_getl, s_getr, s_puti, s_putz, s_putl, s_iald, s_zald, s_iast, s_zast, s_aaldS, s_aaldU, s_gets, s_tald, s_tsw, tsw, s_iret, s_zret, s_lret, s_aret, s_vret, s_callV, s_callS, c1, nl1, keepL, csum, pushR, inL, List.getD_cons_zero, List.getD_cons_succ, List.set_cons_zero, List.set_cons_succ, List.cons_append, List.nil_append, List.append_nil, List.replicate, List.length_cons, List.length_nil, List.take_succ_cons, List.take_zero, List.drop_succ_cons, List.drop_zero, List.reverse_cons, List.reverse_nil, true_and, and_true, forall_const, not_true_eq_false, not_false_eq_true, false_implies, true_implies, implies_true, one0, m10, Nat.reduceAdd, Nat.reduceSub, Nat.reduceLeDiff, Nat.zero_add, Nat.add_zero])
        refine ⟨fun _ => ?_, fun h => absurd (nI_le (Nat.le_refl i) (by omega)) h⟩
        (apply h19; simp only [BX12_power_19, s_mth, s_mab, s_at, s_iconst, s_lconst, s_iload, s_lload, s_aload, s_istore, s_lstore, s_astore, s_iinc, s_bin, s_binG, s_un, s_lbin, s_lbinG, s_lsh, s_lcmp, s_i2l, s_l2i, s_dup, s_dup2, s_pop, s_if, s_icmp, s_geti, s_getl, s_getr, s_puti, s_putz, s_putl, s_iald, s_zald, s_iast, s_zast, s_aaldS, s_aaldU, s_gets, s_tald, s_tsw, tsw, s_iret, s_zret, s_lret, s_aret, s_vret, s_callV, s_callS, c1, nl1, keepL, csum, pushR, inL, List.getD_cons_zero, List.getD_cons_succ, List.set_cons_zero, List.set_cons_succ, List.cons_append, List.nil_append, List.append_nil, List.replicate, List.length_cons, List.length_nil, List.take_succ_cons, List.take_zero, List.drop_succ_cons, List.drop_zero, List.reverse_cons, List.reverse_nil, true_and, and_true, forall_const, not_true_eq_false, not_false_eq_true, false_implies, true_implies, implies_true, one0, m10, Nat.reduceAdd, Nat.reduceSub, Nat.reduceLeDiff, Nat.zero_add, Nat.add_zero])
        exact hq
      | succ n ih =>
        intro i p hi hq
        (apply h4; simp only [BX12_power_4, s_mth, s_mab, s_at, s_iconst, s_lconst, s_iload, s_lload, s_aload, s_istore, s_lstore, s_astore, s_iinc, s_bin, s_binG, s_un, s_lbin, s_lbinG, s_lsh, s_lcmp, s_i2l, s_l2i, s_dup, s_dup2, s_pop, s_if, s_icmp, s_geti, s_getl, s_getr, s_puti, s_putz, s_putl, s_iald, s_zald, s_iast, s_zast, s_aaldS, s_aaldU, s_gets, s_tald, s_tsw, tsw, s_iret, s_zret, s_lret, s_aret, s_vret, s_callV, s_callS, c1, nl1, keepL, csum, pushR, inL, List.getD_cons_zero, List.getD_cons_succ, List.set_cons_zero, List.set_cons_succ, List.cons_append, List.nil_append, List.append_nil, List.replicate, List.length_cons, List.length_nil, List.take_succ_cons, List.take_zero, List.drop_succ_cons, List.drop_zero, List.reverse_cons, List.reverse_nil, true_and, and_true, forall_const, not_true_eq_false, not_false_eq_true, false_implies, true_implies, implies_true, one0, m10, Nat.reduceAdd, Nat.reduceSub, Nat.reduceLeDiff, Nat.zero_add, Nat.add_zero])
        refine ⟨fun h => absurd h (nI_ge (by omega) (by omega)), fun _ => ?_⟩
        rw [nI_1]
        exact ih (i + 1) _ (by omega) hq
    (apply h0; simp only [BX12_power_0, s_mth, s_mab, s_at, s_iconst, s_lconst, s_iload, s_lload, s_aload, s_istore, s_lstore, s_astore, s_iinc, s_bin, s_binG, s_un, s_lbin, s_lbinG, s_lsh, s_lcmp, s_i2l, s_l2i, s_dup, s_dup2, s_pop, s_if, s_icmp, s_geti, s_getl, s_getr, s_puti, s_putz, s_putl, s_iald, s_zald, s_iast, s_zast, s_aaldS, s_aaldU, s_gets, s_tald, s_tsw, tsw, s_iret, s_zret, s_lret, s_aret, s_vret, s_callV, s_callS, c1, nl1, keepL, csum, pushR, inL, List.getD_cons_zero, List.getD_cons_succ, List.set_cons_zero, List.set_cons_succ, List.cons_append, List.nil_append, List.append_nil, List.replicate, List.length_cons, List.length_nil, List.take_succ_cons, List.take_zero, List.drop_succ_cons, List.drop_zero, List.reverse_cons, List.reverse_nil, true_and, and_true, forall_const, not_true_eq_false, not_false_eq_true, false_implies, true_implies, implies_true, one0, m10, Nat.reduceAdd, Nat.reduceSub, Nat.reduceLeDiff, Nat.zero_add, Nat.add_zero])
    exact loop N 0 1 (by omega) hQ
theorem ct_X12_power (l : Launch) : Con l yX12_power cX12_power 4 (Option.some FieldType.int) 0 pre_X12_power fn_X12_power := con_of (by decide +kernel) ok_X12_power len_X12_power (fun p e s m args below meth c D ca ad A as M hX hr hp ho => pf_X12_power _ _ (bsX12_power_0 hX hr) (bsX12_power_4 hX hr) (bsX12_power_19 hX hr) as M ho hp ⟨rfl, rfl⟩)
def lpw (b : Int64) (n : Nat) : Int64 := itr (fun _ (p : Int64) => p * b) 0 n 1
def pre_X12_longPower (as : List mV) (M : mM) : Prop := ∃ b x, as = [.inr (.inl b), .inl x] ∧ ∃ n, n < 2 ^ 31 ∧ x = nI n
def fn_X12_longPower : List mV → mM → Option mV × mM
  | [.inr (.inl b), .inl x], M => (some (.inr (.inl (lpw b x.toNatClampNeg))), M)
  | _, M => (none, M)
theorem ok_X12_longPower (as : List mV) (M : mM) (h : pre_X12_longPower as M) (_ : ∀ v ∈ as, okV v) : okR (fn_X12_longPower as M).1 := by
  obtain ⟨b, x, rfl, -⟩ := h
  first | trivial | exact (by decide +kernel : kof 14 = 8)
theorem len_X12_longPower (as : List mV) (M : mM) (h : pre_X12_longPower as M) : (inL as).length ≤ 6 := by
  obtain ⟨b, x, rfl, -⟩ := h
  exact Nat.le_of_ble_eq_true rfl


theorem dX12_longPower_0 : decode cX12_longPower 0 = .ok (.lconst 1, 1) := by decide +kernel
theorem dX12_longPower_1 : decode cX12_longPower 1 = .ok (.lstore_n 3, 1) := by decide +kernel
theorem dX12_longPower_2 : decode cX12_longPower 2 = .ok (.iconst 0, 1) := by decide +kernel
theorem dX12_longPower_3 : decode cX12_longPower 3 = .ok (.istore 5, 2) := by decide +kernel
theorem dX12_longPower_5 : decode cX12_longPower 5 = .ok (.iload 5, 2) := by decide +kernel
theorem dX12_longPower_7 : decode cX12_longPower 7 = .ok (.iload_n 2, 1) := by decide +kernel
theorem dX12_longPower_8 : decode cX12_longPower 8 = .ok (.if_icmp .ge 13, 3) := by decide +kernel
theorem dX12_longPower_11 : decode cX12_longPower 11 = .ok (.lload_n 3, 1) := by decide +kernel
theorem dX12_longPower_12 : decode cX12_longPower 12 = .ok (.lload_n 0, 1) := by decide +kernel
theorem dX12_longPower_13 : decode cX12_longPower 13 = .ok (.lmul, 1) := by decide +kernel
theorem dX12_longPower_14 : decode cX12_longPower 14 = .ok (.lstore_n 3, 1) := by decide +kernel
theorem dX12_longPower_15 : decode cX12_longPower 15 = .ok (.iinc 5 1, 3) := by decide +kernel
theorem dX12_longPower_18 : decode cX12_longPower 18 = .ok (.goto (-13), 3) := by decide +kernel
theorem dX12_longPower_21 : decode cX12_longPower 21 = .ok (.lload_n 3, 1) := by decide +kernel
theorem dX12_longPower_22 : decode cX12_longPower 22 = .ok (.lreturn, 1) := by decide +kernel
theorem mk_X12_longPower : MSk yX12_longPower cX12_longPower 6 (Option.some FieldType.long) 2 := ⟨w_972, w_971, w_13, by decide +kernel, by decide +kernel, by decide +kernel⟩
def BX12_longPower_0 (G : Nat → KT) (Q : Option mV → mM → Prop) : KT := (s_lconst 1 (s_lstore 3 (s_iconst (0) (s_istore 5 (s_at G 5 [true, false, true, true, false, true])))))
set_option maxRecDepth 4000 in
theorem bsX12_longPower_0 {p : Program} {l : Launch} {e : Env} {s : State} {m : MethodId} {args : Array Value} {below : List Frame} {meth : Method} {c : Code} {D : va_G} {ca : Nat → ClassId} {ad : Nat → Nat} {A : Nat → Prop} {Q : Option mV → mM → Prop} (hX : CX p s m args meth c 6 cX12_longPower "FairBlocksModel" D ca ad A) (hr : meth.sig.returnType = (Option.some FieldType.long)) : ∀ lv st M, BX12_longPower_0 (Gd p l e (rmD 0) s m args below meth c 6 D ca ad A 0 0 (MQ below (QC D ca ad A Q) args s 0 0 A)) Q lv st M → Gd p l e (rmD 0) s m args below meth c 6 D ca ad A 0 0 (MQ below (QC D ca ad A Q) args s 0 0 A) 0 lv st M :=
  (sd_lconst hX dX12_longPower_0 rfl (sd_lstore_n hX (by decide) dX12_longPower_1 rfl (sd_iconst hX dX12_longPower_2 rfl (sd_istore hX (by decide) dX12_longPower_3 sd_at))))
def BX12_longPower_5 (G : Nat → KT) (Q : Option mV → mM → Prop) : KT := (s_iload 5 (s_iload 2 (s_icmp (fun x y => y ≤ x) (s_at G 21 [false, false, false, true, false, false]) (s_lload 3 (s_lload 0 (s_lbin (fun x y => x * y) (s_lstore 3 (s_iinc 5 (1) (s_at G 5 [true, false, true, true, false, true])))))))))
set_option maxRecDepth 4000 in
theorem bsX12_longPower_5 {p : Program} {l : Launch} {e : Env} {s : State} {m : MethodId} {args : Array Value} {below : List Frame} {meth : Method} {c : Code} {D : va_G} {ca : Nat → ClassId} {ad : Nat → Nat} {A : Nat → Prop} {Q : Option mV → mM → Prop} (hX : CX p s m args meth c 6 cX12_longPower "FairBlocksModel" D ca ad A) (hr : meth.sig.returnType = (Option.some FieldType.long)) : ∀ lv st M, BX12_longPower_5 (Gd p l e (rmD 0) s m args below meth c 6 D ca ad A 0 0 (MQ below (QC D ca ad A Q) args s 0 0 A)) Q lv st M → Gd p l e (rmD 0) s m args below meth c 6 D ca ad A 0 0 (MQ below (QC D ca ad A Q) args s 0 0 A) 5 lv st M :=
  (sd_iload hX dX12_longPower_5 (sd_iload_n hX dX12_longPower_7 rfl (sd_icmp_ge hX dX12_longPower_8 (by decide) sd_at (sd_lload_n hX dX12_longPower_11 rfl (sd_lload_n hX dX12_longPower_12 rfl (sd_lmul hX dX12_longPower_13 (sd_lstore_n hX (by decide) dX12_longPower_14 rfl (sd_iinc hX (by decide) dX12_longPower_15 rfl (sd_goto hX dX12_longPower_18 (by decide) sd_at)))))))))
def BX12_longPower_21 (G : Nat → KT) (Q : Option mV → mM → Prop) : KT := (s_lload 3 (s_lret Q))
set_option maxRecDepth 4000 in
theorem bsX12_longPower_21 {p : Program} {l : Launch} {e : Env} {s : State} {m : MethodId} {args : Array Value} {below : List Frame} {meth : Method} {c : Code} {D : va_G} {ca : Nat → ClassId} {ad : Nat → Nat} {A : Nat → Prop} {Q : Option mV → mM → Prop} (hX : CX p s m args meth c 6 cX12_longPower "FairBlocksModel" D ca ad A) (hr : meth.sig.returnType = (Option.some FieldType.long)) : ∀ lv st M, BX12_longPower_21 (Gd p l e (rmD 0) s m args below meth c 6 D ca ad A 0 0 (MQ below (QC D ca ad A Q) args s 0 0 A)) Q lv st M → Gd p l e (rmD 0) s m args below meth c 6 D ca ad A 0 0 (MQ below (QC D ca ad A Q) args s 0 0 A) 21 lv st M :=
  (sd_lload_n hX dX12_longPower_21 rfl (sd_lret hX hr dX12_longPower_22))
set_option maxHeartbeats 400000 in
theorem pf_X12_longPower (G : Nat → KT) (Q : Option mV → mM → Prop) (h0 : ∀ lv st M, BX12_longPower_0 G Q lv st M → G 0 lv st M) (h5 : ∀ lv st M, BX12_longPower_5 G Q lv st M → G 5 lv st M) (h21 : ∀ lv st M, BX12_longPower_21 G Q lv st M → G 21 lv st M) (as : List mV) (M : mM) (ho : ∀ v ∈ as, okV v) (hp : pre_X12_longPower as M) (hQ : Q (fn_X12_longPower as M).1 (fn_X12_longPower as M).2) : G 0 (inL as ++ List.replicate (6 - (inL as).length) none) [] M := by
  obtain ⟨b, x, rfl, N, hN, rfl⟩ := hp
  simp only [fn_X12_longPower, lpw, nI_clamp hN] at hQ
  have loop : ∀ (n i : Nat) (p : Int64), i + n = N → Q (some (.inr (.inl (itr (fun _ (p : Int64) => p * b) i n p)))) M → G 5 [some (.inr (.inl b)), none, some (.inl (nI N)), some (.inr (.inl p)), none, some (.inl (nI i))] [] M := by
    intro n
    induction n with
    | zero =>
      intro i p hi hq
      obtain rfl : i = N := by omega
      (apply h5; simp only [BX12_longPower_5, s_mth, s_mab, s_at, s_iconst, s_lconst, s_iload, s_lload, s_aload, s_istore, s_lstore, s_astore, s_iinc, s_bin, s_binG, s_un, s_lbin, s_lbinG, s_lsh, s_lcmp, s_i2l, s_l2i, s_dup, s_dup2, s_pop, s_if, s_icmp, s_geti, s_getl, s_getr, s_puti, s_putz, s_putl, s_iald, s_zald, s_iast, s_zast, s_aaldS, s_aaldU, s_gets, s_tald, s_tsw, tsw, s_iret, s_zret, s_lret, s_aret, s_vret, s_callV, s_callS, c1, nl1, keepL, csum, pushR, inL, List.getD_cons_zero, List.getD_cons_succ, List.set_cons_zero, List.set_cons_succ, List.cons_append, List.nil_append, List.append_nil, List.replicate, List.length_cons, List.length_nil, List.take_succ_cons, List.take_zero, List.drop_succ_cons, List.drop_zero, List.reverse_cons, List.reverse_nil, true_and, and_true, forall_const, not_true_eq_false, not_false_eq_true, false_implies, true_implies, implies_true, one0, m10, Nat.reduceAdd, Nat.reduceSub, Nat.reduceLeDiff, Nat.zero_add, Nat.add_zero])
      refine ⟨fun _ => ?_, fun h => absurd (nI_le (Nat.le_refl i) (by omega)) h⟩
      (apply h21; simp only [BX12_longPower_21, s_mth, s_mab, s_at, s_iconst, s_lconst, s_iload, s_lload, s_aload, s_istore, s_lstore, s_astore, s_iinc, s_bin, s_binG, s_un, s_lbin, s_lbinG, s_lsh, s_lcmp, s_i2l, s_l2i, s_dup, s_dup2, s_pop, s_if, s_icmp, s_geti, s_getl, s_getr, s_puti, s_putz, s_putl, s_iald, s_zald, s_iast, s_zast, s_aaldS, s_aaldU, s_gets, s_tald, s_tsw, tsw, s_iret, s_zret, s_lret, s_aret, s_vret, s_callV, s_callS, c1, nl1, keepL, csum, pushR, inL, List.getD_cons_zero, List.getD_cons_succ, List.set_cons_zero, List.set_cons_succ, List.cons_append, List.nil_append, List.append_nil, List.replicate, List.length_cons, List.length_nil, List.take_succ_cons, List.take_zero, List.drop_succ_cons, List.drop_zero, List.reverse_cons, List.reverse_nil, true_and, and_true, forall_const, not_true_eq_false, not_false_eq_true, false_implies, true_implies, implies_true, one0, m10, Nat.reduceAdd, Nat.reduceSub, Nat.reduceLeDiff, Nat.zero_add, Nat.add_zero])
      exact hq
    | succ n ih =>
      intro i p hi hq
      (apply h5; simp only [BX12_longPower_5, s_mth, s_mab, s_at, s_iconst, s_lconst, s_iload, s_lload, s_aload, s_istore, s_lstore, s_astore, s_iinc, s_bin, s_binG, s_un, s_lbin, s_lbinG, s_lsh, s_lcmp, s_i2l, s_l2i, s_dup, s_dup2, s_pop, s_if, s_icmp, s_geti, s_getl, s_getr, s_puti, s_putz, s_putl, s_iald, s_zald, s_iast, s_zast, s_aaldS, s_aaldU, s_gets, s_tald, s_tsw, tsw, s_iret, s_zret, s_lret, s_aret, s_vret, s_callV, s_callS, c1, nl1, keepL, csum, pushR, inL, List.getD_cons_zero, List.getD_cons_succ, List.set_cons_zero, List.set_cons_succ, List.cons_append, List.nil_append, List.append_nil, List.replicate, List.length_cons, List.length_nil, List.take_succ_cons, List.take_zero, List.drop_succ_cons, List.drop_zero, List.reverse_cons, List.reverse_nil, true_and, and_true, forall_const, not_true_eq_false, not_false_eq_true, false_implies, true_implies, implies_true, one0, m10, Nat.reduceAdd, Nat.reduceSub, Nat.reduceLeDiff, Nat.zero_add, Nat.add_zero])
      refine ⟨fun h => absurd h (nI_ge (by omega) (by omega)), fun _ => ?_⟩
      rw [nI_1]
      exact ih (i + 1) _ (by omega) hq
  (apply h0; simp only [BX12_longPower_0, s_mth, s_mab, s_at, s_iconst, s_lconst, s_iload, s_lload, s_aload, s_istore, s_lstore, s_astore, s_iinc, s_bin, s_binG, s_un, s_lbin, s_lbinG, s_lsh, s_lcmp, s_i2l, s_l2i, s_dup, s_dup2, s_pop, s_if, s_icmp, s_geti, s_getl, s_getr, s_puti, s_putz, s_putl, s_iald, s_zald, s_iast, s_zast, s_aaldS, s_aaldU, s_gets, s_tald, s_tsw, tsw, s_iret, s_zret, s_lret, s_aret, s_vret, s_callV, s_callS, c1, nl1, keepL, csum, pushR, inL, List.getD_cons_zero, List.getD_cons_succ, List.set_cons_zero, List.set_cons_succ, List.cons_append, List.nil_append, List.append_nil, List.replicate, List.length_cons, List.length_nil, List.take_succ_cons, List.take_zero, List.drop_succ_cons, List.drop_zero, List.reverse_cons, List.reverse_nil, true_and, and_true, forall_const, not_true_eq_false, not_false_eq_true, false_implies, true_implies, implies_true, one0, m10, Nat.reduceAdd, Nat.reduceSub, Nat.reduceLeDiff, Nat.zero_add, Nat.add_zero])
  exact loop N 0 1 (by omega) hQ
theorem ct_X12_longPower (l : Launch) : Con l yX12_longPower cX12_longPower 6 (Option.some FieldType.long) 0 pre_X12_longPower fn_X12_longPower := con_of (by decide +kernel) ok_X12_longPower len_X12_longPower (fun p e s m args below meth c D ca ad A as M hX hr hp ho => pf_X12_longPower _ _ (bsX12_longPower_0 hX hr) (bsX12_longPower_5 hX hr) (bsX12_longPower_21 hX hr) as M ho hp ⟨rfl, rfl⟩)
def fcM (n : Nat) : Int32 := itr (fun k (v : Int32) => v * nI k) 2 (n - 1) 1
def pre_X12_factorial (as : List mV) (M : mM) : Prop := ∃ x, as = [.inl x] ∧ ∃ n, n ≤ 5 ∧ x = nI n
def fn_X12_factorial : List mV → mM → Option mV × mM
  | [.inl x], M => (some (.inl (fcM x.toNatClampNeg)), M)
  | _, M => (none, M)
theorem ok_X12_factorial (as : List mV) (M : mM) (h : pre_X12_factorial as M) (_ : ∀ v ∈ as, okV v) : okR (fn_X12_factorial as M).1 := by
  obtain ⟨x, rfl, -⟩ := h
  first | trivial | exact (by decide +kernel : kof 14 = 8)
theorem len_X12_factorial (as : List mV) (M : mM) (h : pre_X12_factorial as M) : (inL as).length ≤ 3 := by
  obtain ⟨x, rfl, -⟩ := h
  exact Nat.le_of_ble_eq_true rfl


theorem dX12_factorial_0 : decode cX12_factorial 0 = .ok (.iconst 1, 1) := by decide +kernel
theorem dX12_factorial_1 : decode cX12_factorial 1 = .ok (.istore_n 1, 1) := by decide +kernel
theorem dX12_factorial_2 : decode cX12_factorial 2 = .ok (.iconst 2, 1) := by decide +kernel
theorem dX12_factorial_3 : decode cX12_factorial 3 = .ok (.istore_n 2, 1) := by decide +kernel
theorem dX12_factorial_4 : decode cX12_factorial 4 = .ok (.iload_n 2, 1) := by decide +kernel
theorem dX12_factorial_5 : decode cX12_factorial 5 = .ok (.iload_n 0, 1) := by decide +kernel
theorem dX12_factorial_6 : decode cX12_factorial 6 = .ok (.if_icmp .gt 13, 3) := by decide +kernel
theorem dX12_factorial_9 : decode cX12_factorial 9 = .ok (.iload_n 1, 1) := by decide +kernel
theorem dX12_factorial_10 : decode cX12_factorial 10 = .ok (.iload_n 2, 1) := by decide +kernel
theorem dX12_factorial_11 : decode cX12_factorial 11 = .ok (.imul, 1) := by decide +kernel
theorem dX12_factorial_12 : decode cX12_factorial 12 = .ok (.istore_n 1, 1) := by decide +kernel
theorem dX12_factorial_13 : decode cX12_factorial 13 = .ok (.iinc 2 1, 3) := by decide +kernel
theorem dX12_factorial_16 : decode cX12_factorial 16 = .ok (.goto (-12), 3) := by decide +kernel
theorem dX12_factorial_19 : decode cX12_factorial 19 = .ok (.iload_n 1, 1) := by decide +kernel
theorem dX12_factorial_20 : decode cX12_factorial 20 = .ok (.ireturn, 1) := by decide +kernel
theorem mk_X12_factorial : MSk yX12_factorial cX12_factorial 3 (Option.some FieldType.int) 1 := ⟨w_1013, w_1012, w_13, by decide +kernel, by decide +kernel, by decide +kernel⟩
def BX12_factorial_0 (G : Nat → KT) (Q : Option mV → mM → Prop) : KT := (s_iconst (1) (s_istore 1 (s_iconst (2) (s_istore 2 (s_at G 4 [true, true, true])))))
set_option maxRecDepth 4000 in
theorem bsX12_factorial_0 {p : Program} {l : Launch} {e : Env} {s : State} {m : MethodId} {args : Array Value} {below : List Frame} {meth : Method} {c : Code} {D : va_G} {ca : Nat → ClassId} {ad : Nat → Nat} {A : Nat → Prop} {Q : Option mV → mM → Prop} (hX : CX p s m args meth c 3 cX12_factorial "FairBlocksModel" D ca ad A) (hr : meth.sig.returnType = (Option.some FieldType.int)) : ∀ lv st M, BX12_factorial_0 (Gd p l e (rmD 0) s m args below meth c 3 D ca ad A 0 0 (MQ below (QC D ca ad A Q) args s 0 0 A)) Q lv st M → Gd p l e (rmD 0) s m args below meth c 3 D ca ad A 0 0 (MQ below (QC D ca ad A Q) args s 0 0 A) 0 lv st M :=
  (sd_iconst hX dX12_factorial_0 rfl (sd_istore_n hX (by decide) dX12_factorial_1 rfl (sd_iconst hX dX12_factorial_2 rfl (sd_istore_n hX (by decide) dX12_factorial_3 rfl sd_at))))
def BX12_factorial_4 (G : Nat → KT) (Q : Option mV → mM → Prop) : KT := (s_iload 2 (s_iload 0 (s_icmp (fun x y => y < x) (s_at G 19 [false, true, false]) (s_iload 1 (s_iload 2 (s_bin (fun x y => x * y) (s_istore 1 (s_iinc 2 (1) (s_at G 4 [true, true, true])))))))))
set_option maxRecDepth 4000 in
theorem bsX12_factorial_4 {p : Program} {l : Launch} {e : Env} {s : State} {m : MethodId} {args : Array Value} {below : List Frame} {meth : Method} {c : Code} {D : va_G} {ca : Nat → ClassId} {ad : Nat → Nat} {A : Nat → Prop} {Q : Option mV → mM → Prop} (hX : CX p s m args meth c 3 cX12_factorial "FairBlocksModel" D ca ad A) (hr : meth.sig.returnType = (Option.some FieldType.int)) : ∀ lv st M, BX12_factorial_4 (Gd p l e (rmD 0) s m args below meth c 3 D ca ad A 0 0 (MQ below (QC D ca ad A Q) args s 0 0 A)) Q lv st M → Gd p l e (rmD 0) s m args below meth c 3 D ca ad A 0 0 (MQ below (QC D ca ad A Q) args s 0 0 A) 4 lv st M :=
  (sd_iload_n hX dX12_factorial_4 rfl (sd_iload_n hX dX12_factorial_5 rfl (sd_icmp_gt hX dX12_factorial_6 (by decide) sd_at (sd_iload_n hX dX12_factorial_9 rfl (sd_iload_n hX dX12_factorial_10 rfl (sd_imul hX dX12_factorial_11 (sd_istore_n hX (by decide) dX12_factorial_12 rfl (sd_iinc hX (by decide) dX12_factorial_13 rfl (sd_goto hX dX12_factorial_16 (by decide) sd_at)))))))))
def BX12_factorial_19 (G : Nat → KT) (Q : Option mV → mM → Prop) : KT := (s_iload 1 (s_iret Q))
set_option maxRecDepth 4000 in
theorem bsX12_factorial_19 {p : Program} {l : Launch} {e : Env} {s : State} {m : MethodId} {args : Array Value} {below : List Frame} {meth : Method} {c : Code} {D : va_G} {ca : Nat → ClassId} {ad : Nat → Nat} {A : Nat → Prop} {Q : Option mV → mM → Prop} (hX : CX p s m args meth c 3 cX12_factorial "FairBlocksModel" D ca ad A) (hr : meth.sig.returnType = (Option.some FieldType.int)) : ∀ lv st M, BX12_factorial_19 (Gd p l e (rmD 0) s m args below meth c 3 D ca ad A 0 0 (MQ below (QC D ca ad A Q) args s 0 0 A)) Q lv st M → Gd p l e (rmD 0) s m args below meth c 3 D ca ad A 0 0 (MQ below (QC D ca ad A Q) args s 0 0 A) 19 lv st M :=
  (sd_iload_n hX dX12_factorial_19 rfl (sd_iret hX hr dX12_factorial_20))
set_option maxHeartbeats 400000 in
theorem pf_X12_factorial (G : Nat → KT) (Q : Option mV → mM → Prop) (h0 : ∀ lv st M, BX12_factorial_0 G Q lv st M → G 0 lv st M) (h4 : ∀ lv st M, BX12_factorial_4 G Q lv st M → G 4 lv st M) (h19 : ∀ lv st M, BX12_factorial_19 G Q lv st M → G 19 lv st M) (as : List mV) (M : mM) (ho : ∀ v ∈ as, okV v) (hp : pre_X12_factorial as M) (hQ : Q (fn_X12_factorial as M).1 (fn_X12_factorial as M).2) : G 0 (inL as ++ List.replicate (3 - (inL as).length) none) [] M := by
  obtain ⟨x, rfl, N, hN, rfl⟩ := hp
  simp only [fn_X12_factorial, fcM, nI_clamp (by omega : N < 2 ^ 31)] at hQ
  have loop : ∀ (n i : Nat) (p : Int32), 2 ≤ i → (i + n = N + 1 ∨ (n = 0 ∧ N < i ∧ i < 10)) → Q (some (.inl (itr (fun k (v : Int32) => v * nI k) i n p))) M → G 4 [some (.inl (nI N)), some (.inl p), some (.inl (nI i))] [] M := by
    intro n
    induction n with
    | zero =>
      intro i p h2 hi hq
      (apply h4; simp only [BX12_factorial_4, s_mth, s_mab, s_at, s_iconst, s_lconst, s_iload, s_lload, s_aload, s_istore, s_lstore, s_astore, s_iinc, s_bin, s_binG, s_un, s_lbin, s_lbinG, s_lsh, s_lcmp, s_i2l, s_l2i, s_dup, s_dup2, s_pop, s_if, s_icmp, s_geti, s_getl, s_getr, s_puti, s_putz, s_putl, s_iald, s_zald, s_iast, s_zast, s_aaldS, s_aaldU, s_gets, s_tald, s_tsw, tsw, s_iret, s_zret, s_lret, s_aret, s_vret, s_callV, s_callS, c1, nl1, keepL, csum, pushR, inL, List.getD_cons_zero, List.getD_cons_succ, List.set_cons_zero, List.set_cons_succ, List.cons_append, List.nil_append, List.append_nil, List.replicate, List.length_cons, List.length_nil, List.take_succ_cons, List.take_zero, List.drop_succ_cons, List.drop_zero, List.reverse_cons, List.reverse_nil, true_and, and_true, forall_const, not_true_eq_false, not_false_eq_true, false_implies, true_implies, implies_true, one0, m10, Nat.reduceAdd, Nat.reduceSub, Nat.reduceLeDiff, Nat.zero_add, Nat.add_zero])
      refine ⟨fun _ => ?_, fun h => absurd (nI_lt (by omega) (by omega)) h⟩
      (apply h19; simp only [BX12_factorial_19, s_mth, s_mab, s_at, s_iconst, s_lconst, s_iload, s_lload, s_aload, s_istore, s_lstore, s_astore, s_iinc, s_bin, s_binG, s_un, s_lbin, s_lbinG, s_lsh, s_lcmp, s_i2l, s_l2i, s_dup, s_dup2, s_pop, s_if, s_icmp, s_geti, s_getl, s_getr, s_puti, s_putz, s_putl, s_iald, s_zald, s_iast, s_zast, s_aaldS, s_aaldU, s_gets, s_tald, s_tsw, tsw, s_iret, s_zret, s_lret, s_aret, s_vret, s_callV, s_callS, c1, nl1, keepL, csum, pushR, inL, List.getD_cons_zero, List.getD_cons_succ, List.set_cons_zero, List.set_cons_succ, List.cons_append, List.nil_append, List.append_nil, List.replicate, List.length_cons, List.length_nil, List.take_succ_cons, List.take_zero, List.drop_succ_cons, List.drop_zero, List.reverse_cons, List.reverse_nil, true_and, and_true, forall_const, not_true_eq_false, not_false_eq_true, false_implies, true_implies, implies_true, one0, m10, Nat.reduceAdd, Nat.reduceSub, Nat.reduceLeDiff, Nat.zero_add, Nat.add_zero])
      exact hq
    | succ n ih =>
      intro i p h2 hi hq
      (apply h4; simp only [BX12_factorial_4, s_mth, s_mab, s_at, s_iconst, s_lconst, s_iload, s_lload, s_aload, s_istore, s_lstore, s_astore, s_iinc, s_bin, s_binG, s_un, s_lbin, s_lbinG, s_lsh, s_lcmp, s_i2l, s_l2i, s_dup, s_dup2, s_pop, s_if, s_icmp, s_geti, s_getl, s_getr, s_puti, s_putz, s_putl, s_iald, s_zald, s_iast, s_zast, s_aaldS, s_aaldU, s_gets, s_tald, s_tsw, tsw, s_iret, s_zret, s_lret, s_aret, s_vret, s_callV, s_callS, c1, nl1, keepL, csum, pushR, inL, List.getD_cons_zero, List.getD_cons_succ, List.set_cons_zero, List.set_cons_succ, List.cons_append, List.nil_append, List.append_nil, List.replicate, List.length_cons, List.length_nil, List.take_succ_cons, List.take_zero, List.drop_succ_cons, List.drop_zero, List.reverse_cons, List.reverse_nil, true_and, and_true, forall_const, not_true_eq_false, not_false_eq_true, false_implies, true_implies, implies_true, one0, m10, Nat.reduceAdd, Nat.reduceSub, Nat.reduceLeDiff, Nat.zero_add, Nat.add_zero])
      refine ⟨fun h => absurd h (nI_nlt (by omega) (by omega)), fun _ => ?_⟩
      rw [nI_1]
      exact ih (i + 1) _ (by omega) (by omega) hq
  (apply h0; simp only [BX12_factorial_0, s_mth, s_mab, s_at, s_iconst, s_lconst, s_iload, s_lload, s_aload, s_istore, s_lstore, s_astore, s_iinc, s_bin, s_binG, s_un, s_lbin, s_lbinG, s_lsh, s_lcmp, s_i2l, s_l2i, s_dup, s_dup2, s_pop, s_if, s_icmp, s_geti, s_getl, s_getr, s_puti, s_putz, s_putl, s_iald, s_zald, s_iast, s_zast, s_aaldS, s_aaldU, s_gets, s_tald, s_tsw, tsw, s_iret, s_zret, s_lret, s_aret, s_vret, s_callV, s_callS, c1, nl1, keepL, csum, pushR, inL, List.getD_cons_zero, List.getD_cons_succ, List.set_cons_zero, List.set_cons_succ, List.cons_append, List.nil_append, List.append_nil, List.replicate, List.length_cons, List.length_nil, List.take_succ_cons, List.take_zero, List.drop_succ_cons, List.drop_zero, List.reverse_cons, List.reverse_nil, true_and, and_true, forall_const, not_true_eq_false, not_false_eq_true, false_implies, true_implies, implies_true, one0, m10, Nat.reduceAdd, Nat.reduceSub, Nat.reduceLeDiff, Nat.zero_add, Nat.add_zero])
  exact loop (N - 1) 2 1 (by decide) (by omega) hQ
theorem ct_X12_factorial (l : Launch) : Con l yX12_factorial cX12_factorial 3 (Option.some FieldType.int) 0 pre_X12_factorial fn_X12_factorial := con_of (by decide +kernel) ok_X12_factorial len_X12_factorial (fun p e s m args below meth c D ca ad A as M hX hr hp ho => pf_X12_factorial _ _ (bsX12_factorial_0 hX hr) (bsX12_factorial_4 hX hr) (bsX12_factorial_19 hX hr) as M ho hp ⟨rfl, rfl⟩)
/-- the model's divisor: a count of turns suffices -/
def dvL : Nat → Int32 → Int32 → Option Int32
  | 0, _, _ => none
  | n + 1, g, l => if l = 0 then some g else dvL n l (rm g l)
def ng (x : Int32) : Int32 := if 0 ≤ x then x else -x
def dvD (a b : Int32) : Int32 := (dvL 101 (ng a) b).getD 0
def pre_X12_divisor (as : List mV) (M : mM) : Prop := ∃ a b, as = [.inl a, .inl b] ∧ ∃ g, dvL 101 (ng a) b = some g
def fn_X12_divisor : List mV → mM → Option mV × mM
  | [.inl a, .inl b], M => (some (.inl (dvD a b)), M)
  | _, M => (none, M)
theorem ok_X12_divisor (as : List mV) (M : mM) (h : pre_X12_divisor as M) (_ : ∀ v ∈ as, okV v) : okR (fn_X12_divisor as M).1 := by
  obtain ⟨a, b, rfl, -⟩ := h
  first | trivial | exact (by decide +kernel : kof 14 = 8)
theorem len_X12_divisor (as : List mV) (M : mM) (h : pre_X12_divisor as M) : (inL as).length ≤ 5 := by
  obtain ⟨a, b, rfl, -⟩ := h
  exact Nat.le_of_ble_eq_true rfl


theorem dX12_divisor_0 : decode cX12_divisor 0 = .ok (.iload_n 0, 1) := by decide +kernel
theorem dX12_divisor_1 : decode cX12_divisor 1 = .ok (.ifCond .ge 8, 3) := by decide +kernel
theorem dX12_divisor_4 : decode cX12_divisor 4 = .ok (.iload_n 0, 1) := by decide +kernel
theorem dX12_divisor_5 : decode cX12_divisor 5 = .ok (.ineg, 1) := by decide +kernel
theorem dX12_divisor_6 : decode cX12_divisor 6 = .ok (.goto 4, 3) := by decide +kernel
theorem dX12_divisor_9 : decode cX12_divisor 9 = .ok (.iload_n 0, 1) := by decide +kernel
theorem dX12_divisor_10 : decode cX12_divisor 10 = .ok (.istore_n 2, 1) := by decide +kernel
theorem dX12_divisor_11 : decode cX12_divisor 11 = .ok (.iload_n 1, 1) := by decide +kernel
theorem dX12_divisor_12 : decode cX12_divisor 12 = .ok (.istore_n 3, 1) := by decide +kernel
theorem dX12_divisor_13 : decode cX12_divisor 13 = .ok (.iload_n 3, 1) := by decide +kernel
theorem dX12_divisor_14 : decode cX12_divisor 14 = .ok (.ifCond .eq 16, 3) := by decide +kernel
theorem dX12_divisor_17 : decode cX12_divisor 17 = .ok (.iload_n 2, 1) := by decide +kernel
theorem dX12_divisor_18 : decode cX12_divisor 18 = .ok (.iload_n 3, 1) := by decide +kernel
theorem dX12_divisor_19 : decode cX12_divisor 19 = .ok (.irem, 1) := by decide +kernel
theorem dX12_divisor_20 : decode cX12_divisor 20 = .ok (.istore 4, 2) := by decide +kernel
theorem dX12_divisor_22 : decode cX12_divisor 22 = .ok (.iload_n 3, 1) := by decide +kernel
theorem dX12_divisor_23 : decode cX12_divisor 23 = .ok (.istore_n 2, 1) := by decide +kernel
theorem dX12_divisor_24 : decode cX12_divisor 24 = .ok (.iload 4, 2) := by decide +kernel
theorem dX12_divisor_26 : decode cX12_divisor 26 = .ok (.istore_n 3, 1) := by decide +kernel
theorem dX12_divisor_27 : decode cX12_divisor 27 = .ok (.goto (-14), 3) := by decide +kernel
theorem dX12_divisor_30 : decode cX12_divisor 30 = .ok (.iload_n 2, 1) := by decide +kernel
theorem dX12_divisor_31 : decode cX12_divisor 31 = .ok (.ireturn, 1) := by decide +kernel
theorem mk_X12_divisor : MSk yX12_divisor cX12_divisor 5 (Option.some FieldType.int) 2 := ⟨w_1023, w_1022, w_13, by decide +kernel, by decide +kernel, by decide +kernel⟩
def BX12_divisor_0 (G : Nat → KT) (Q : Option mV → mM → Prop) : KT := (s_iload 0 (s_if (fun x => 0 ≤ x) (s_at G 9 [true, true, false, false, false]) (s_iload 0 (s_un (fun x => -x) (s_at G 10 [false, true, false, false, false])))))
set_option maxRecDepth 4000 in
theorem bsX12_divisor_0 {p : Program} {l : Launch} {e : Env} {s : State} {m : MethodId} {args : Array Value} {below : List Frame} {meth : Method} {c : Code} {D : va_G} {ca : Nat → ClassId} {ad : Nat → Nat} {A : Nat → Prop} {Q : Option mV → mM → Prop} (hX : CX p s m args meth c 5 cX12_divisor "FairBlocksModel" D ca ad A) (hr : meth.sig.returnType = (Option.some FieldType.int)) : ∀ lv st M, BX12_divisor_0 (Gd p l e (rmD 0) s m args below meth c 5 D ca ad A 0 0 (MQ below (QC D ca ad A Q) args s 0 0 A)) Q lv st M → Gd p l e (rmD 0) s m args below meth c 5 D ca ad A 0 0 (MQ below (QC D ca ad A Q) args s 0 0 A) 0 lv st M :=
  (sd_iload_n hX dX12_divisor_0 rfl (sd_if_ge hX dX12_divisor_1 (by decide) sd_at (sd_iload_n hX dX12_divisor_4 rfl (sd_ineg hX dX12_divisor_5 (sd_goto hX dX12_divisor_6 (by decide) sd_at)))))
def BX12_divisor_9 (G : Nat → KT) (Q : Option mV → mM → Prop) : KT := (s_iload 0 (s_at G 10 [false, true, false, false, false]))
set_option maxRecDepth 4000 in
theorem bsX12_divisor_9 {p : Program} {l : Launch} {e : Env} {s : State} {m : MethodId} {args : Array Value} {below : List Frame} {meth : Method} {c : Code} {D : va_G} {ca : Nat → ClassId} {ad : Nat → Nat} {A : Nat → Prop} {Q : Option mV → mM → Prop} (hX : CX p s m args meth c 5 cX12_divisor "FairBlocksModel" D ca ad A) (hr : meth.sig.returnType = (Option.some FieldType.int)) : ∀ lv st M, BX12_divisor_9 (Gd p l e (rmD 0) s m args below meth c 5 D ca ad A 0 0 (MQ below (QC D ca ad A Q) args s 0 0 A)) Q lv st M → Gd p l e (rmD 0) s m args below meth c 5 D ca ad A 0 0 (MQ below (QC D ca ad A Q) args s 0 0 A) 9 lv st M :=
  (sd_iload_n hX dX12_divisor_9 rfl sd_at)
def BX12_divisor_10 (G : Nat → KT) (Q : Option mV → mM → Prop) : KT := (s_istore 2 (s_iload 1 (s_istore 3 (s_at G 13 [false, false, true, true, false]))))
set_option maxRecDepth 4000 in
theorem bsX12_divisor_10 {p : Program} {l : Launch} {e : Env} {s : State} {m : MethodId} {args : Array Value} {below : List Frame} {meth : Method} {c : Code} {D : va_G} {ca : Nat → ClassId} {ad : Nat → Nat} {A : Nat → Prop} {Q : Option mV → mM → Prop} (hX : CX p s m args meth c 5 cX12_divisor "FairBlocksModel" D ca ad A) (hr : meth.sig.returnType = (Option.some FieldType.int)) : ∀ lv st M, BX12_divisor_10 (Gd p l e (rmD 0) s m args below meth c 5 D ca ad A 0 0 (MQ below (QC D ca ad A Q) args s 0 0 A)) Q lv st M → Gd p l e (rmD 0) s m args below meth c 5 D ca ad A 0 0 (MQ below (QC D ca ad A Q) args s 0 0 A) 10 lv st M :=
  (sd_istore_n hX (by decide) dX12_divisor_10 rfl (sd_iload_n hX dX12_divisor_11 rfl (sd_istore_n hX (by decide) dX12_divisor_12 rfl sd_at)))
def BX12_divisor_13 (G : Nat → KT) (Q : Option mV → mM → Prop) : KT := (s_iload 3 (s_if (fun x => x = 0) (s_at G 30 [false, false, true, false, false]) (s_iload 2 (s_iload 3 (s_binG (fun x y => x - x / y * y) (s_istore 4 (s_iload 3 (s_istore 2 (s_iload 4 (s_istore 3 (s_at G 13 [false, false, true, true, false])))))))))))
set_option maxRecDepth 4000 in
theorem bsX12_divisor_13 {p : Program} {l : Launch} {e : Env} {s : State} {m : MethodId} {args : Array Value} {below : List Frame} {meth : Method} {c : Code} {D : va_G} {ca : Nat → ClassId} {ad : Nat → Nat} {A : Nat → Prop} {Q : Option mV → mM → Prop} (hX : CX p s m args meth c 5 cX12_divisor "FairBlocksModel" D ca ad A) (hr : meth.sig.returnType = (Option.some FieldType.int)) : ∀ lv st M, BX12_divisor_13 (Gd p l e (rmD 0) s m args below meth c 5 D ca ad A 0 0 (MQ below (QC D ca ad A Q) args s 0 0 A)) Q lv st M → Gd p l e (rmD 0) s m args below meth c 5 D ca ad A 0 0 (MQ below (QC D ca ad A Q) args s 0 0 A) 13 lv st M :=
  (sd_iload_n hX dX12_divisor_13 rfl (sd_if_eq hX dX12_divisor_14 (by decide) sd_at (sd_iload_n hX dX12_divisor_17 rfl (sd_iload_n hX dX12_divisor_18 rfl (sd_irem hX dX12_divisor_19 (sd_istore hX (by decide) dX12_divisor_20 (sd_iload_n hX dX12_divisor_22 rfl (sd_istore_n hX (by decide) dX12_divisor_23 rfl (sd_iload hX dX12_divisor_24 (sd_istore_n hX (by decide) dX12_divisor_26 rfl (sd_goto hX dX12_divisor_27 (by decide) sd_at)))))))))))
def BX12_divisor_30 (G : Nat → KT) (Q : Option mV → mM → Prop) : KT := (s_iload 2 (s_iret Q))
set_option maxRecDepth 4000 in
theorem bsX12_divisor_30 {p : Program} {l : Launch} {e : Env} {s : State} {m : MethodId} {args : Array Value} {below : List Frame} {meth : Method} {c : Code} {D : va_G} {ca : Nat → ClassId} {ad : Nat → Nat} {A : Nat → Prop} {Q : Option mV → mM → Prop} (hX : CX p s m args meth c 5 cX12_divisor "FairBlocksModel" D ca ad A) (hr : meth.sig.returnType = (Option.some FieldType.int)) : ∀ lv st M, BX12_divisor_30 (Gd p l e (rmD 0) s m args below meth c 5 D ca ad A 0 0 (MQ below (QC D ca ad A Q) args s 0 0 A)) Q lv st M → Gd p l e (rmD 0) s m args below meth c 5 D ca ad A 0 0 (MQ below (QC D ca ad A Q) args s 0 0 A) 30 lv st M :=
  (sd_iload_n hX dX12_divisor_30 rfl (sd_iret hX hr dX12_divisor_31))
set_option maxHeartbeats 400000 in
theorem pf_X12_divisor (G : Nat → KT) (Q : Option mV → mM → Prop) (h0 : ∀ lv st M, BX12_divisor_0 G Q lv st M → G 0 lv st M) (h9 : ∀ lv st M, BX12_divisor_9 G Q lv st M → G 9 lv st M) (h10 : ∀ lv st M, BX12_divisor_10 G Q lv st M → G 10 lv st M) (h13 : ∀ lv st M, BX12_divisor_13 G Q lv st M → G 13 lv st M) (h30 : ∀ lv st M, BX12_divisor_30 G Q lv st M → G 30 lv st M) (as : List mV) (M : mM) (ho : ∀ v ∈ as, okV v) (hp : pre_X12_divisor as M) (hQ : Q (fn_X12_divisor as M).1 (fn_X12_divisor as M).2) : G 0 (inL as ++ List.replicate (5 - (inL as).length) none) [] M := by
  obtain ⟨a, b, rfl, g, hg⟩ := hp
  simp only [fn_X12_divisor, dvD, hg, Option.getD_some] at hQ
  have loop : ∀ (n : Nat) (p q g : Int32), dvL n p q = some g → Q (some (.inl g)) M → G 13 [none, none, some (.inl p), some (.inl q), none] [] M := by
    intro n
    induction n with
    | zero =>
      intro p q g hg hq
      cases hg
    | succ n ih =>
      intro p q g hg hq
      rw [dvL] at hg
      (apply h13; simp only [BX12_divisor_13, s_mth, s_mab, s_at, s_iconst, s_lconst, s_iload, s_lload, s_aload, s_istore, s_lstore, s_astore, s_iinc, s_bin, s_binG, s_un, s_lbin, s_lbinG, s_lsh, s_lcmp, s_i2l, s_l2i, s_dup, s_dup2, s_pop, s_if, s_icmp, s_geti, s_getl, s_getr, s_puti, s_putz, s_putl, s_iald, s_zald, s_iast, s_zast, s_aaldS, s_aaldU, s_gets, s_tald, s_tsw, tsw, s_iret, s_zret, s_lret, s_aret, s_vret, s_callV, s_callS, c1, nl1, keepL, csum, pushR, inL, List.getD_cons_zero, List.getD_cons_succ, List.set_cons_zero, List.set_cons_succ, List.cons_append, List.nil_append, List.append_nil, List.replicate, List.length_cons, List.length_nil, List.take_succ_cons, List.take_zero, List.drop_succ_cons, List.drop_zero, List.reverse_cons, List.reverse_nil, true_and, and_true, forall_const, not_true_eq_false, not_false_eq_true, false_implies, true_implies, implies_true, one0, m10, Nat.reduceAdd, Nat.reduceSub, Nat.reduceLeDiff, Nat.zero_add, Nat.add_zero])
      refine ⟨fun h => ?_, fun h => ⟨h, ?_⟩⟩
      · rw [if_pos h] at hg
        cases hg
        (apply h30; simp only [BX12_divisor_30, s_mth, s_mab, s_at, s_iconst, s_lconst, s_iload, s_lload, s_aload, s_istore, s_lstore, s_astore, s_iinc, s_bin, s_binG, s_un, s_lbin, s_lbinG, s_lsh, s_lcmp, s_i2l, s_l2i, s_dup, s_dup2, s_pop, s_if, s_icmp, s_geti, s_getl, s_getr, s_puti, s_putz, s_putl, s_iald, s_zald, s_iast, s_zast, s_aaldS, s_aaldU, s_gets, s_tald, s_tsw, tsw, s_iret, s_zret, s_lret, s_aret, s_vret, s_callV, s_callS, c1, nl1, keepL, csum, pushR, inL, List.getD_cons_zero, List.getD_cons_succ, List.set_cons_zero, List.set_cons_succ, List.cons_append, List.nil_append, List.append_nil, List.replicate, List.length_cons, List.length_nil, List.take_succ_cons, List.take_zero, List.drop_succ_cons, List.drop_zero, List.reverse_cons, List.reverse_nil, true_and, and_true, forall_const, not_true_eq_false, not_false_eq_true, false_implies, true_implies, implies_true, one0, m10, Nat.reduceAdd, Nat.reduceSub, Nat.reduceLeDiff, Nat.zero_add, Nat.add_zero])
        exact hq
      · rw [if_neg h] at hg
        exact ih _ _ _ hg hq
  have L : G 10 [none, some (.inl b), none, none, none] [.inl (ng a)] M := by
    (apply h10; simp only [BX12_divisor_10, s_mth, s_mab, s_at, s_iconst, s_lconst, s_iload, s_lload, s_aload, s_istore, s_lstore, s_astore, s_iinc, s_bin, s_binG, s_un, s_lbin, s_lbinG, s_lsh, s_lcmp, s_i2l, s_l2i, s_dup, s_dup2, s_pop, s_if, s_icmp, s_geti, s_getl, s_getr, s_puti, s_putz, s_putl, s_iald, s_zald, s_iast, s_zast, s_aaldS, s_aaldU, s_gets, s_tald, s_tsw, tsw, s_iret, s_zret, s_lret, s_aret, s_vret, s_callV, s_callS, c1, nl1, keepL, csum, pushR, inL, List.getD_cons_zero, List.getD_cons_succ, List.set_cons_zero, List.set_cons_succ, List.cons_append, List.nil_append, List.append_nil, List.replicate, List.length_cons, List.length_nil, List.take_succ_cons, List.take_zero, List.drop_succ_cons, List.drop_zero, List.reverse_cons, List.reverse_nil, true_and, and_true, forall_const, not_true_eq_false, not_false_eq_true, false_implies, true_implies, implies_true, one0, m10, Nat.reduceAdd, Nat.reduceSub, Nat.reduceLeDiff, Nat.zero_add, Nat.add_zero])
    exact loop 101 _ _ _ hg hQ
  unfold ng at L
  (apply h0; simp only [BX12_divisor_0, s_mth, s_mab, s_at, s_iconst, s_lconst, s_iload, s_lload, s_aload, s_istore, s_lstore, s_astore, s_iinc, s_bin, s_binG, s_un, s_lbin, s_lbinG, s_lsh, s_lcmp, s_i2l, s_l2i, s_dup, s_dup2, s_pop, s_if, s_icmp, s_geti, s_getl, s_getr, s_puti, s_putz, s_putl, s_iald, s_zald, s_iast, s_zast, s_aaldS, s_aaldU, s_gets, s_tald, s_tsw, tsw, s_iret, s_zret, s_lret, s_aret, s_vret, s_callV, s_callS, c1, nl1, keepL, csum, pushR, inL, List.getD_cons_zero, List.getD_cons_succ, List.set_cons_zero, List.set_cons_succ, List.cons_append, List.nil_append, List.append_nil, List.replicate, List.length_cons, List.length_nil, List.take_succ_cons, List.take_zero, List.drop_succ_cons, List.drop_zero, List.reverse_cons, List.reverse_nil, true_and, and_true, forall_const, not_true_eq_false, not_false_eq_true, false_implies, true_implies, implies_true, one0, m10, Nat.reduceAdd, Nat.reduceSub, Nat.reduceLeDiff, Nat.zero_add, Nat.add_zero])
  refine ⟨fun h => ?_, fun h => ?_⟩
  · rw [if_pos h] at L
    (apply h9; simp only [BX12_divisor_9, s_mth, s_mab, s_at, s_iconst, s_lconst, s_iload, s_lload, s_aload, s_istore, s_lstore, s_astore, s_iinc, s_bin, s_binG, s_un, s_lbin, s_lbinG, s_lsh, s_lcmp, s_i2l, s_l2i, s_dup, s_dup2, s_pop, s_if, s_icmp, s_geti, s_getl, s_getr, s_puti, s_putz, s_putl, s_iald, s_zald, s_iast, s_zast, s_aaldS, s_aaldU, s_gets, s_tald, s_tsw, tsw, s_iret, s_zret, s_lret, s_aret, s_vret, s_callV, s_callS, c1, nl1, keepL, csum, pushR, inL, List.getD_cons_zero, List.getD_cons_succ, List.set_cons_zero, List.set_cons_succ, List.cons_append, List.nil_append, List.append_nil, List.replicate, List.length_cons, List.length_nil, List.take_succ_cons, List.take_zero, List.drop_succ_cons, List.drop_zero, List.reverse_cons, List.reverse_nil, true_and, and_true, forall_const, not_true_eq_false, not_false_eq_true, false_implies, true_implies, implies_true, one0, m10, Nat.reduceAdd, Nat.reduceSub, Nat.reduceLeDiff, Nat.zero_add, Nat.add_zero])
    exact L
  · rw [if_neg h] at L
    exact L
theorem ct_X12_divisor (l : Launch) : Con l yX12_divisor cX12_divisor 5 (Option.some FieldType.int) 0 pre_X12_divisor fn_X12_divisor := con_of (by decide +kernel) ok_X12_divisor len_X12_divisor (fun p e s m args below meth c D ca ad A as M hX hr hp ho => pf_X12_divisor _ _ (bsX12_divisor_0 hX hr) (bsX12_divisor_9 hX hr) (bsX12_divisor_10 hX hr) (bsX12_divisor_13 hX hr) (bsX12_divisor_30 hX hr) as M ho hp ⟨rfl, rfl⟩)
def frM (a b u : Int32) : Int32 := if u = 0 then b / dvD a b else a / dvD a b
def pre_X12_fraction (as : List mV) (M : mM) : Prop := ∃ a b u, as = [.inl a, .inl b, .inl u] ∧ (∃ g, dvL 101 (ng a) b = some g) ∧ ¬ dvD a b = 0
def fn_X12_fraction : List mV → mM → Option mV × mM
  | [.inl a, .inl b, .inl u], M => (some (.inl (frM a b u)), M)
  | _, M => (none, M)
theorem ok_X12_fraction (as : List mV) (M : mM) (h : pre_X12_fraction as M) (_ : ∀ v ∈ as, okV v) : okR (fn_X12_fraction as M).1 := by
  obtain ⟨a, b, u, rfl, -⟩ := h
  first | trivial | exact (by decide +kernel : kof 14 = 8)
theorem len_X12_fraction (as : List mV) (M : mM) (h : pre_X12_fraction as M) : (inL as).length ≤ 4 := by
  obtain ⟨a, b, u, rfl, -⟩ := h
  exact Nat.le_of_ble_eq_true rfl


theorem dX12_fraction_0 : decode cX12_fraction 0 = .ok (.iload_n 0, 1) := by decide +kernel
theorem dX12_fraction_1 : decode cX12_fraction 1 = .ok (.iload_n 1, 1) := by decide +kernel
theorem dX12_fraction_2 : decode cX12_fraction 2 = .ok (.invokestatic 204, 3) := by decide +kernel
theorem dX12_fraction_5 : decode cX12_fraction 5 = .ok (.istore_n 3, 1) := by decide +kernel
theorem dX12_fraction_6 : decode cX12_fraction 6 = .ok (.iload_n 2, 1) := by decide +kernel
theorem dX12_fraction_7 : decode cX12_fraction 7 = .ok (.ifCond .eq 9, 3) := by decide +kernel
theorem dX12_fraction_10 : decode cX12_fraction 10 = .ok (.iload_n 0, 1) := by decide +kernel
theorem dX12_fraction_11 : decode cX12_fraction 11 = .ok (.iload_n 3, 1) := by decide +kernel
theorem dX12_fraction_12 : decode cX12_fraction 12 = .ok (.idiv, 1) := by decide +kernel
theorem dX12_fraction_13 : decode cX12_fraction 13 = .ok (.goto 6, 3) := by decide +kernel
theorem dX12_fraction_16 : decode cX12_fraction 16 = .ok (.iload_n 1, 1) := by decide +kernel
theorem dX12_fraction_17 : decode cX12_fraction 17 = .ok (.iload_n 3, 1) := by decide +kernel
theorem dX12_fraction_18 : decode cX12_fraction 18 = .ok (.idiv, 1) := by decide +kernel
theorem dX12_fraction_19 : decode cX12_fraction 19 = .ok (.ireturn, 1) := by decide +kernel
theorem mk_X12_fraction : MSk yX12_fraction cX12_fraction 4 (Option.some FieldType.int) 3 := ⟨w_1020, w_1019, w_13, by decide +kernel, by decide +kernel, by decide +kernel⟩
def BX12_fraction_0 (G : Nat → KT) (Q : Option mV → mM → Prop) : KT := (s_iload 0 (s_iload 1 (s_callS 2 pre_X12_divisor fn_X12_divisor (s_istore 3 (s_iload 2 (s_if (fun x => x = 0) (s_at G 16 [false, true, false, true]) (s_iload 0 (s_iload 3 (s_binG (fun x y => x / y) (s_at G 19 [false, false, false, false]))))))))))
set_option maxRecDepth 4000 in
theorem bsX12_fraction_0 {p : Program} {l : Launch} {e : Env} {s : State} {m : MethodId} {args : Array Value} {below : List Frame} {meth : Method} {c : Code} {D : va_G} {ca : Nat → ClassId} {ad : Nat → Nat} {A : Nat → Prop} {Q : Option mV → mM → Prop} (hX : CX p s m args meth c 4 cX12_fraction "FairBlocksModel" D ca ad A) (hr : meth.sig.returnType = (Option.some FieldType.int)) : ∀ lv st M, BX12_fraction_0 (Gd p l e (rmD 1) s m args below meth c 4 D ca ad A 0 0 (MQ below (QC D ca ad A Q) args s 0 0 A)) Q lv st M → Gd p l e (rmD 1) s m args below meth c 4 D ca ad A 0 0 (MQ below (QC D ca ad A Q) args s 0 0 A) 0 lv st M :=
  (sd_iload_n hX dX12_fraction_0 rfl (sd_iload_n hX dX12_fraction_1 rfl (sd_callS hX (ct_X12_divisor l) mk_X12_divisor w_1021 ⟨⟨by decide, by decide⟩, by decide, by decide⟩ dX12_fraction_2 (sd_istore_n hX (by decide) dX12_fraction_5 rfl (sd_iload_n hX dX12_fraction_6 rfl (sd_if_eq hX dX12_fraction_7 (by decide) sd_at (sd_iload_n hX dX12_fraction_10 rfl (sd_iload_n hX dX12_fraction_11 rfl (sd_idiv hX dX12_fraction_12 (sd_goto hX dX12_fraction_13 (by decide) sd_at))))))))))
def BX12_fraction_16 (G : Nat → KT) (Q : Option mV → mM → Prop) : KT := (s_iload 1 (s_iload 3 (s_binG (fun x y => x / y) (s_at G 19 [false, false, false, false]))))
set_option maxRecDepth 4000 in
theorem bsX12_fraction_16 {p : Program} {l : Launch} {e : Env} {s : State} {m : MethodId} {args : Array Value} {below : List Frame} {meth : Method} {c : Code} {D : va_G} {ca : Nat → ClassId} {ad : Nat → Nat} {A : Nat → Prop} {Q : Option mV → mM → Prop} (hX : CX p s m args meth c 4 cX12_fraction "FairBlocksModel" D ca ad A) (hr : meth.sig.returnType = (Option.some FieldType.int)) : ∀ lv st M, BX12_fraction_16 (Gd p l e (rmD 1) s m args below meth c 4 D ca ad A 0 0 (MQ below (QC D ca ad A Q) args s 0 0 A)) Q lv st M → Gd p l e (rmD 1) s m args below meth c 4 D ca ad A 0 0 (MQ below (QC D ca ad A Q) args s 0 0 A) 16 lv st M :=
  (sd_iload_n hX dX12_fraction_16 rfl (sd_iload_n hX dX12_fraction_17 rfl (sd_idiv hX dX12_fraction_18 sd_at)))
def BX12_fraction_19 (G : Nat → KT) (Q : Option mV → mM → Prop) : KT := (s_iret Q)
set_option maxRecDepth 4000 in
theorem bsX12_fraction_19 {p : Program} {l : Launch} {e : Env} {s : State} {m : MethodId} {args : Array Value} {below : List Frame} {meth : Method} {c : Code} {D : va_G} {ca : Nat → ClassId} {ad : Nat → Nat} {A : Nat → Prop} {Q : Option mV → mM → Prop} (hX : CX p s m args meth c 4 cX12_fraction "FairBlocksModel" D ca ad A) (hr : meth.sig.returnType = (Option.some FieldType.int)) : ∀ lv st M, BX12_fraction_19 (Gd p l e (rmD 1) s m args below meth c 4 D ca ad A 0 0 (MQ below (QC D ca ad A Q) args s 0 0 A)) Q lv st M → Gd p l e (rmD 1) s m args below meth c 4 D ca ad A 0 0 (MQ below (QC D ca ad A Q) args s 0 0 A) 19 lv st M :=
  sd_iret hX hr dX12_fraction_19
set_option maxHeartbeats 400000 in
theorem pf_X12_fraction (G : Nat → KT) (Q : Option mV → mM → Prop) (h0 : ∀ lv st M, BX12_fraction_0 G Q lv st M → G 0 lv st M) (h16 : ∀ lv st M, BX12_fraction_16 G Q lv st M → G 16 lv st M) (h19 : ∀ lv st M, BX12_fraction_19 G Q lv st M → G 19 lv st M) (as : List mV) (M : mM) (ho : ∀ v ∈ as, okV v) (hp : pre_X12_fraction as M) (hQ : Q (fn_X12_fraction as M).1 (fn_X12_fraction as M).2) : G 0 (inL as ++ List.replicate (4 - (inL as).length) none) [] M := by
  obtain ⟨a, b, u, rfl, hg, hne⟩ := hp
  simp only [fn_X12_fraction, frM] at hQ
  (apply h0; simp only [BX12_fraction_0, s_mth, s_mab, s_at, s_iconst, s_lconst, s_iload, s_lload, s_aload, s_istore, s_lstore, s_astore, s_iinc, s_bin, s_binG, s_un, s_lbin, s_lbinG, s_lsh, s_lcmp, s_i2l, s_l2i, s_dup, s_dup2, s_pop, s_if, s_icmp, s_geti, s_getl, s_getr, s_puti, s_putz, s_putl, s_iald, s_zald, s_iast, s_zast, s_aaldS, s_aaldU, s_gets, s_tald, s_tsw, tsw, s_iret, s_zret, s_lret, s_aret, s_vret, s_callV, s_callS, c1, nl1, keepL, csum, pushR, inL, List.getD_cons_zero, List.getD_cons_succ, List.set_cons_zero, List.set_cons_succ, List.cons_append, List.nil_append, List.append_nil, List.replicate, List.length_cons, List.length_nil, List.take_succ_cons, List.take_zero, List.drop_succ_cons, List.drop_zero, List.reverse_cons, List.reverse_nil, true_and, and_true, forall_const, not_true_eq_false, not_false_eq_true, false_implies, true_implies, implies_true, one0, m10, Nat.reduceAdd, Nat.reduceSub, Nat.reduceLeDiff, Nat.zero_add, Nat.add_zero, fn_X12_divisor])
  refine ⟨⟨_, _, rfl, hg⟩, fun h => ?_, fun h => ⟨hne, ?_⟩⟩
  · rw [if_pos h] at hQ
    (apply h16; simp only [BX12_fraction_16, s_mth, s_mab, s_at, s_iconst, s_lconst, s_iload, s_lload, s_aload, s_istore, s_lstore, s_astore, s_iinc, s_bin, s_binG, s_un, s_lbin, s_lbinG, s_lsh, s_lcmp, s_i2l, s_l2i, s_dup, s_dup2, s_pop, s_if, s_icmp, s_geti, s_getl, s_getr, s_puti, s_putz, s_putl, s_iald, s_zald, s_iast, s_zast, s_aaldS, s_aaldU, s_gets, s_tald, s_tsw, tsw, s_iret, s_zret, s_lret, s_aret, s_vret, s_callV, s_callS, c1, nl1, keepL, csum, pushR, inL, List.getD_cons_zero, List.getD_cons_succ, List.set_cons_zero, List.set_cons_succ, List.cons_append, List.nil_append, List.append_nil, List.replicate, List.length_cons, List.length_nil, List.take_succ_cons, List.take_zero, List.drop_succ_cons, List.drop_zero, List.reverse_cons, List.reverse_nil, true_and, and_true, forall_const, not_true_eq_false, not_false_eq_true, false_implies, true_implies, implies_true, one0, m10, Nat.reduceAdd, Nat.reduceSub, Nat.reduceLeDiff, Nat.zero_add, Nat.add_zero, fn_X12_divisor])
    refine ⟨hne, ?_⟩
    (apply h19; simp only [BX12_fraction_19, s_mth, s_mab, s_at, s_iconst, s_lconst, s_iload, s_lload, s_aload, s_istore, s_lstore, s_astore, s_iinc, s_bin, s_binG, s_un, s_lbin, s_lbinG, s_lsh, s_lcmp, s_i2l, s_l2i, s_dup, s_dup2, s_pop, s_if, s_icmp, s_geti, s_getl, s_getr, s_puti, s_putz, s_putl, s_iald, s_zald, s_iast, s_zast, s_aaldS, s_aaldU, s_gets, s_tald, s_tsw, tsw, s_iret, s_zret, s_lret, s_aret, s_vret, s_callV, s_callS, c1, nl1, keepL, csum, pushR, inL, List.getD_cons_zero, List.getD_cons_succ, List.set_cons_zero, List.set_cons_succ, List.cons_append, List.nil_append, List.append_nil, List.replicate, List.length_cons, List.length_nil, List.take_succ_cons, List.take_zero, List.drop_succ_cons, List.drop_zero, List.reverse_cons, List.reverse_nil, true_and, and_true, forall_const, not_true_eq_false, not_false_eq_true, false_implies, true_implies, implies_true, one0, m10, Nat.reduceAdd, Nat.reduceSub, Nat.reduceLeDiff, Nat.zero_add, Nat.add_zero, fn_X12_divisor])
    exact hQ
  · rw [if_neg h] at hQ
    (apply h19; simp only [BX12_fraction_19, s_mth, s_mab, s_at, s_iconst, s_lconst, s_iload, s_lload, s_aload, s_istore, s_lstore, s_astore, s_iinc, s_bin, s_binG, s_un, s_lbin, s_lbinG, s_lsh, s_lcmp, s_i2l, s_l2i, s_dup, s_dup2, s_pop, s_if, s_icmp, s_geti, s_getl, s_getr, s_puti, s_putz, s_putl, s_iald, s_zald, s_iast, s_zast, s_aaldS, s_aaldU, s_gets, s_tald, s_tsw, tsw, s_iret, s_zret, s_lret, s_aret, s_vret, s_callV, s_callS, c1, nl1, keepL, csum, pushR, inL, List.getD_cons_zero, List.getD_cons_succ, List.set_cons_zero, List.set_cons_succ, List.cons_append, List.nil_append, List.append_nil, List.replicate, List.length_cons, List.length_nil, List.take_succ_cons, List.take_zero, List.drop_succ_cons, List.drop_zero, List.reverse_cons, List.reverse_nil, true_and, and_true, forall_const, not_true_eq_false, not_false_eq_true, false_implies, true_implies, implies_true, one0, m10, Nat.reduceAdd, Nat.reduceSub, Nat.reduceLeDiff, Nat.zero_add, Nat.add_zero, fn_X12_divisor])
    exact hQ
theorem ct_X12_fraction (l : Launch) : Con l yX12_fraction cX12_fraction 4 (Option.some FieldType.int) 1 pre_X12_fraction fn_X12_fraction := con_of (by decide +kernel) ok_X12_fraction len_X12_fraction (fun p e s m args below meth c D ca ad A as M hX hr hp ho => pf_X12_fraction _ _ (bsX12_fraction_0 hX hr) (bsX12_fraction_16 hX hr) (bsX12_fraction_19 hX hr) as M ho hp ⟨rfl, rfl⟩)
def rset (M : mM) (k : Nat) (r : Nat → Int32) : mM := (fun a => if a = k then r else M.1 a, M.2)
theorem rset_1 {M : mM} {k : Nat} {r : Nat → Int32} : (rset M k r).1 k = r := by simp [rset]
theorem rset_n {M : mM} {k a : Nat} {r : Nat → Int32} (h : a ≠ k) : (rset M k r).1 a = M.1 a := by simp [rset, h]
/-- a row of n places copied: from row g at offset, place by place -/
def cpyR (d : Nat → Int32) (f : Nat → Int32) (o : Nat) : Nat → Nat → (Nat → Int32)
  | 0, _ => d
  | n + 1, i => cpyR (upd d (o + i) (f i)) f o n (i + 1)
theorem cpyR_get {f : Nat → Int32} {o : Nat} : ∀ (n i : Nat) (d : Nat → Int32) (a : Nat), cpyR d f o n i a = if o + i ≤ a ∧ a < o + i + n then f (a - o) else d a
  | 0, i, d, a => by rw [cpyR, if_neg (by omega)]
  | n + 1, i, d, a => by
    rw [cpyR, cpyR_get n (i + 1)]
    by_cases h1 : o + (i + 1) ≤ a ∧ a < o + (i + 1) + n
    · rw [if_pos h1, if_pos (by omega)]
    · rw [if_neg h1]
      unfold upd
      by_cases h2 : a = o + i
      · rw [if_pos h2, if_pos (by omega), h2, Nat.add_sub_cancel_left]
      · rw [if_neg h2, if_neg (by omega)]
/-- the same with a memory -/
def cpyM (M : mM) (k : Nat) (f : Nat → Int32) (o : Nat) : Nat → Nat → mM
  | 0, _ => M
  | n + 1, i => cpyM (mset M k (o + i) (f i)) k f o n (i + 1)
theorem cpyM_e {k o : Nat} {f : Nat → Int32} : ∀ (n i : Nat) (M : mM), cpyM M k f o n i = rset M k (cpyR (M.1 k) f o n i)
  | 0, i, M => by
    rw [cpyM, cpyR]
    unfold rset
    refine Prod.ext ?_ rfl
    funext a
    simp only
    split
    · next h => rw [h]
    · rfl
  | n + 1, i, M => by
    rw [cpyM, cpyR, cpyM_e n (i + 1)]
    unfold rset
    refine Prod.ext ?_ rfl
    funext a
    simp only
    split
    · rw [mset_1]
    · next h => rw [mset_n h]
def lay (M : mM) : mM := rset M 166 (cpyR (M.1 166) (M.1 165) 0 52 0)
def pre_X12_layTrial (as : List mV) (M : mM) : Prop := ∃ c, as = [.inr (.inr (12, c))]
def fn_X12_layTrial : List mV → mM → Option mV × mM
  | [.inr (.inr (_, c))], M => (none, lay M)
  | _, M => (none, M)
theorem ok_X12_layTrial (as : List mV) (M : mM) (h : pre_X12_layTrial as M) (_ : ∀ v ∈ as, okV v) : okR (fn_X12_layTrial as M).1 := by
  obtain ⟨c, rfl⟩ := h
  first | trivial | exact (by decide +kernel : kof 14 = 8)
theorem len_X12_layTrial (as : List mV) (M : mM) (h : pre_X12_layTrial as M) : (inL as).length ≤ 2 := by
  obtain ⟨c, rfl⟩ := h
  exact Nat.le_of_ble_eq_true rfl

theorem fl_739 : FLk "FairBlocksModel" 11 12 16 16 := ⟨RX12, TX12, 32, rfl, inX12, by decide, w_739, by decide, rfl⟩
theorem fl_740 : FLk "FairBlocksModel" 7 12 17 16 := ⟨RX12, TX12, 32, rfl, inX12, by decide, w_740, by decide, rfl⟩
theorem dX12_layTrial_0 : decode cX12_layTrial 0 = .ok (.iconst 0, 1) := by decide +kernel
theorem dX12_layTrial_1 : decode cX12_layTrial 1 = .ok (.istore_n 1, 1) := by decide +kernel
theorem dX12_layTrial_2 : decode cX12_layTrial 2 = .ok (.iload_n 1, 1) := by decide +kernel
theorem dX12_layTrial_3 : decode cX12_layTrial 3 = .ok (.bipush 52, 2) := by decide +kernel
theorem dX12_layTrial_5 : decode cX12_layTrial 5 = .ok (.if_icmp .ge 21, 3) := by decide +kernel
theorem dX12_layTrial_8 : decode cX12_layTrial 8 = .ok (.aload_n 0, 1) := by decide +kernel
theorem dX12_layTrial_9 : decode cX12_layTrial 9 = .ok (.getfield 7, 3) := by decide +kernel
theorem dX12_layTrial_12 : decode cX12_layTrial 12 = .ok (.iload_n 1, 1) := by decide +kernel
theorem dX12_layTrial_13 : decode cX12_layTrial 13 = .ok (.aload_n 0, 1) := by decide +kernel
theorem dX12_layTrial_14 : decode cX12_layTrial 14 = .ok (.getfield 11, 3) := by decide +kernel
theorem dX12_layTrial_17 : decode cX12_layTrial 17 = .ok (.iload_n 1, 1) := by decide +kernel
theorem dX12_layTrial_18 : decode cX12_layTrial 18 = .ok (.iaload, 1) := by decide +kernel
theorem dX12_layTrial_19 : decode cX12_layTrial 19 = .ok (.iastore, 1) := by decide +kernel
theorem dX12_layTrial_20 : decode cX12_layTrial 20 = .ok (.iinc 1 1, 3) := by decide +kernel
theorem dX12_layTrial_23 : decode cX12_layTrial 23 = .ok (.goto (-21), 3) := by decide +kernel
theorem dX12_layTrial_26 : decode cX12_layTrial 26 = .ok (.return_, 1) := by decide +kernel
theorem mk_X12_layTrial : MVk yX12_layTrial "FairBlocksModel" cX12_layTrial 2 (Option.none : Option FieldType) 0 := ⟨w_943, w_942, wp_29, w_13, rfl, by decide +kernel, by decide +kernel, by decide +kernel⟩
def BX12_layTrial_0 (G : Nat → KT) (Q : Option mV → mM → Prop) : KT := (s_iconst (0) (s_istore 1 (s_at G 2 [true, true])))
set_option maxRecDepth 4000 in
theorem bsX12_layTrial_0 {p : Program} {l : Launch} {e : Env} {s : State} {m : MethodId} {args : Array Value} {below : List Frame} {meth : Method} {c : Code} {D : va_G} {ca : Nat → ClassId} {ad : Nat → Nat} {A : Nat → Prop} {Q : Option mV → mM → Prop} (hX : CX p s m args meth c 2 cX12_layTrial "FairBlocksModel" D ca ad A) (hr : meth.sig.returnType = (Option.none : Option FieldType)) : ∀ lv st M, BX12_layTrial_0 (Gd p l e (rmD 0) s m args below meth c 2 D ca ad A 0 0 (MQ below (QC D ca ad A Q) args s 0 0 A)) Q lv st M → Gd p l e (rmD 0) s m args below meth c 2 D ca ad A 0 0 (MQ below (QC D ca ad A Q) args s 0 0 A) 0 lv st M :=
  (sd_iconst hX dX12_layTrial_0 rfl (sd_istore_n hX (by decide) dX12_layTrial_1 rfl sd_at))
def BX12_layTrial_2 (G : Nat → KT) (Q : Option mV → mM → Prop) : KT := (s_iload 1 (s_iconst (52) (s_icmp (fun x y => y ≤ x) (s_at G 26 [false, false]) (s_aload 0 (s_getr 12 13 (fun _ => 166) (s_iload 1 (s_aload 0 (s_getr 12 13 (fun _ => 165) (s_iload 1 (s_iald (s_iast (s_iinc 1 (1) (s_at G 2 [true, true])))))))))))))
set_option maxRecDepth 4000 in
theorem bsX12_layTrial_2 {p : Program} {l : Launch} {e : Env} {s : State} {m : MethodId} {args : Array Value} {below : List Frame} {meth : Method} {c : Code} {D : va_G} {ca : Nat → ClassId} {ad : Nat → Nat} {A : Nat → Prop} {Q : Option mV → mM → Prop} (hX : CX p s m args meth c 2 cX12_layTrial "FairBlocksModel" D ca ad A) (hr : meth.sig.returnType = (Option.none : Option FieldType)) : ∀ lv st M, BX12_layTrial_2 (Gd p l e (rmD 0) s m args below meth c 2 D ca ad A 0 0 (MQ below (QC D ca ad A Q) args s 0 0 A)) Q lv st M → Gd p l e (rmD 0) s m args below meth c 2 D ca ad A 0 0 (MQ below (QC D ca ad A Q) args s 0 0 A) 2 lv st M :=
  (sd_iload_n hX dX12_layTrial_2 rfl (sd_bipush hX dX12_layTrial_3 rfl (sd_icmp_ge hX dX12_layTrial_5 (by decide) sd_at (sd_aload_n hX dX12_layTrial_8 rfl (sd_getr hX fl_740 (fun _ => rfl) (fun _ _ _ => by decide +kernel) dX12_layTrial_9 (sd_iload_n hX dX12_layTrial_12 rfl (sd_aload_n hX dX12_layTrial_13 rfl (sd_getr hX fl_739 (fun _ => rfl) (fun _ _ _ => by decide +kernel) dX12_layTrial_14 (sd_iload_n hX dX12_layTrial_17 rfl (sd_iald hX dX12_layTrial_18 (sd_iast hX dX12_layTrial_19 (sd_iinc hX (by decide) dX12_layTrial_20 rfl (sd_goto hX dX12_layTrial_23 (by decide) sd_at)))))))))))))
def BX12_layTrial_26 (G : Nat → KT) (Q : Option mV → mM → Prop) : KT := (s_vret Q)
set_option maxRecDepth 4000 in
theorem bsX12_layTrial_26 {p : Program} {l : Launch} {e : Env} {s : State} {m : MethodId} {args : Array Value} {below : List Frame} {meth : Method} {c : Code} {D : va_G} {ca : Nat → ClassId} {ad : Nat → Nat} {A : Nat → Prop} {Q : Option mV → mM → Prop} (hX : CX p s m args meth c 2 cX12_layTrial "FairBlocksModel" D ca ad A) (hr : meth.sig.returnType = (Option.none : Option FieldType)) : ∀ lv st M, BX12_layTrial_26 (Gd p l e (rmD 0) s m args below meth c 2 D ca ad A 0 0 (MQ below (QC D ca ad A Q) args s 0 0 A)) Q lv st M → Gd p l e (rmD 0) s m args below meth c 2 D ca ad A 0 0 (MQ below (QC D ca ad A Q) args s 0 0 A) 26 lv st M :=
  sd_vret hX hr dX12_layTrial_26
set_option maxHeartbeats 400000 in
theorem pf_X12_layTrial (G : Nat → KT) (Q : Option mV → mM → Prop) (h0 : ∀ lv st M, BX12_layTrial_0 G Q lv st M → G 0 lv st M) (h2 : ∀ lv st M, BX12_layTrial_2 G Q lv st M → G 2 lv st M) (h26 : ∀ lv st M, BX12_layTrial_26 G Q lv st M → G 26 lv st M) (as : List mV) (M : mM) (ho : ∀ v ∈ as, okV v) (hp : pre_X12_layTrial as M) (hQ : Q (fn_X12_layTrial as M).1 (fn_X12_layTrial as M).2) : G 0 (inL as ++ List.replicate (2 - (inL as).length) none) [] M := by
  obtain ⟨c, rfl⟩ := hp
  simp only [fn_X12_layTrial, lay] at hQ
  rw [← cpyM_e] at hQ
  have loop : ∀ (n i : Nat) (M' : mM), i + n = 52 → M'.1 165 = M.1 165 → Q none (cpyM M' 166 (M.1 165) 0 n i) → G 2 [some (.inr (.inr (12, c))), some (.inl (nI i))] [] M' := by
    intro n
    induction n with
    | zero =>
      intro i M' hi h165 hq
      obtain rfl : i = 52 := by omega
      (apply h2; simp only [BX12_layTrial_2, s_mth, s_mab, s_at, s_iconst, s_lconst, s_iload, s_lload, s_aload, s_istore, s_lstore, s_astore, s_iinc, s_bin, s_binG, s_un, s_lbin, s_lbinG, s_lsh, s_lcmp, s_i2l, s_l2i, s_dup, s_dup2, s_pop, s_if, s_icmp, s_geti, s_getl, s_getr, s_puti, s_putz, s_putl, s_iald, s_zald, s_iast, s_zast, s_aaldS, s_aaldU, s_gets, s_tald, s_tsw, tsw, s_iret, s_zret, s_lret, s_aret, s_vret, s_callV, s_callS, c1, nl1, keepL, csum, pushR, inL, List.getD_cons_zero, List.getD_cons_succ, List.set_cons_zero, List.set_cons_succ, List.cons_append, List.nil_append, List.append_nil, List.replicate, List.length_cons, List.length_nil, List.take_succ_cons, List.take_zero, List.drop_succ_cons, List.drop_zero, List.reverse_cons, List.reverse_nil, true_and, and_true, forall_const, not_true_eq_false, not_false_eq_true, false_implies, true_implies, implies_true, one0, m10, Nat.reduceAdd, Nat.reduceSub, Nat.reduceLeDiff, Nat.zero_add, Nat.add_zero])
      refine ⟨fun _ => ?_, fun h => absurd (by decide) h⟩
      (apply h26; simp only [BX12_layTrial_26, s_mth, s_mab, s_at, s_iconst, s_lconst, s_iload, s_lload, s_aload, s_istore, s_lstore, s_astore, s_iinc, s_bin, s_binG, s_un, s_lbin, s_lbinG, s_lsh, s_lcmp, s_i2l, s_l2i, s_dup, s_dup2, s_pop, s_if, s_icmp, s_geti, s_getl, s_getr, s_puti, s_putz, s_putl, s_iald, s_zald, s_iast, s_zast, s_aaldS, s_aaldU, s_gets, s_tald, s_tsw, tsw, s_iret, s_zret, s_lret, s_aret, s_vret, s_callV, s_callS, c1, nl1, keepL, csum, pushR, inL, List.getD_cons_zero, List.getD_cons_succ, List.set_cons_zero, List.set_cons_succ, List.cons_append, List.nil_append, List.append_nil, List.replicate, List.length_cons, List.length_nil, List.take_succ_cons, List.take_zero, List.drop_succ_cons, List.drop_zero, List.reverse_cons, List.reverse_nil, true_and, and_true, forall_const, not_true_eq_false, not_false_eq_true, false_implies, true_implies, implies_true, one0, m10, Nat.reduceAdd, Nat.reduceSub, Nat.reduceLeDiff, Nat.zero_add, Nat.add_zero])
      exact hq
    | succ n ih =>
      intro i M' hi h165 hq
      have ei : (nI i).toNatClampNeg = i := nI_clamp (by omega)
      have hv : vp_in (nI i) 52 := vp_in_nI (by omega) (by decide)
      (apply h2; simp only [BX12_layTrial_2, s_mth, s_mab, s_at, s_iconst, s_lconst, s_iload, s_lload, s_aload, s_istore, s_lstore, s_astore, s_iinc, s_bin, s_binG, s_un, s_lbin, s_lbinG, s_lsh, s_lcmp, s_i2l, s_l2i, s_dup, s_dup2, s_pop, s_if, s_icmp, s_geti, s_getl, s_getr, s_puti, s_putz, s_putl, s_iald, s_zald, s_iast, s_zast, s_aaldS, s_aaldU, s_gets, s_tald, s_tsw, tsw, s_iret, s_zret, s_lret, s_aret, s_vret, s_callV, s_callS, c1, nl1, keepL, csum, pushR, inL, List.getD_cons_zero, List.getD_cons_succ, List.set_cons_zero, List.set_cons_succ, List.cons_append, List.nil_append, List.append_nil, List.replicate, List.length_cons, List.length_nil, List.take_succ_cons, List.take_zero, List.drop_succ_cons, List.drop_zero, List.reverse_cons, List.reverse_nil, true_and, and_true, forall_const, not_true_eq_false, not_false_eq_true, false_implies, true_implies, implies_true, one0, m10, Nat.reduceAdd, Nat.reduceSub, Nat.reduceLeDiff, Nat.zero_add, Nat.add_zero])
      simp only [lM, ei, h165]
      refine ⟨fun h => absurd h (nI_ge (b := 52) (by omega) (by decide)), fun _ => ⟨hv, hv, ?_⟩⟩
      rw [nI_1]
      refine ih (i + 1) _ (by omega) ?_ ?_
      · rw [mset_n (by decide)]; exact h165
      · rw [cpyM, Nat.zero_add] at hq; exact hq
  (apply h0; simp only [BX12_layTrial_0, s_mth, s_mab, s_at, s_iconst, s_lconst, s_iload, s_lload, s_aload, s_istore, s_lstore, s_astore, s_iinc, s_bin, s_binG, s_un, s_lbin, s_lbinG, s_lsh, s_lcmp, s_i2l, s_l2i, s_dup, s_dup2, s_pop, s_if, s_icmp, s_geti, s_getl, s_getr, s_puti, s_putz, s_putl, s_iald, s_zald, s_iast, s_zast, s_aaldS, s_aaldU, s_gets, s_tald, s_tsw, tsw, s_iret, s_zret, s_lret, s_aret, s_vret, s_callV, s_callS, c1, nl1, keepL, csum, pushR, inL, List.getD_cons_zero, List.getD_cons_succ, List.set_cons_zero, List.set_cons_succ, List.cons_append, List.nil_append, List.append_nil, List.replicate, List.length_cons, List.length_nil, List.take_succ_cons, List.take_zero, List.drop_succ_cons, List.drop_zero, List.reverse_cons, List.reverse_nil, true_and, and_true, forall_const, not_true_eq_false, not_false_eq_true, false_implies, true_implies, implies_true, one0, m10, Nat.reduceAdd, Nat.reduceSub, Nat.reduceLeDiff, Nat.zero_add, Nat.add_zero])
  exact loop 52 0 M rfl rfl hQ
theorem ct_X12_layTrial (l : Launch) : Con l yX12_layTrial cX12_layTrial 2 (Option.none : Option FieldType) 0 pre_X12_layTrial fn_X12_layTrial := con_of (by decide +kernel) ok_X12_layTrial len_X12_layTrial (fun p e s m args below meth c D ca ad A as M hX hr hp ho => pf_X12_layTrial _ _ (bsX12_layTrial_0 hX hr) (bsX12_layTrial_2 hX hr) (bsX12_layTrial_26 hX hr) as M ho hp ⟨rfl, rfl⟩)
def nu (M : mM) (u : Int32) : Int32 := if wi u 0 (M.1 158 6 - 1) = 0 then 1 else 0
def pre_X12_noUser (as : List mV) (M : mM) : Prop := ∃ c u, as = [.inr (.inr (12, c)), .inl u]
def fn_X12_noUser : List mV → mM → Option mV × mM
  | [.inr (.inr (_, c)), .inl u], M => (some (.inl (nu M u)), M)
  | _, M => (none, M)
theorem ok_X12_noUser (as : List mV) (M : mM) (h : pre_X12_noUser as M) (_ : ∀ v ∈ as, okV v) : okR (fn_X12_noUser as M).1 := by
  obtain ⟨c, u, rfl⟩ := h
  first | trivial | exact (by decide +kernel : kof 14 = 8)
theorem len_X12_noUser (as : List mV) (M : mM) (h : pre_X12_noUser as M) : (inL as).length ≤ 2 := by
  obtain ⟨c, u, rfl⟩ := h
  exact Nat.le_of_ble_eq_true rfl

theorem fl_729 : FLk "FairBlocksModel" 14 12 6 0 := ⟨RX12, TX12, 32, rfl, inX12, by decide, w_729, by decide, rfl⟩
theorem dX12_noUser_0 : decode cX12_noUser 0 = .ok (.iload_n 1, 1) := by decide +kernel
theorem dX12_noUser_1 : decode cX12_noUser 1 = .ok (.i2l, 1) := by decide +kernel
theorem dX12_noUser_2 : decode cX12_noUser 2 = .ok (.lconst 0, 1) := by decide +kernel
theorem dX12_noUser_3 : decode cX12_noUser 3 = .ok (.aload_n 0, 1) := by decide +kernel
theorem dX12_noUser_4 : decode cX12_noUser 4 = .ok (.getfield 14, 3) := by decide +kernel
theorem dX12_noUser_7 : decode cX12_noUser 7 = .ok (.iconst 1, 1) := by decide +kernel
theorem dX12_noUser_8 : decode cX12_noUser 8 = .ok (.isub, 1) := by decide +kernel
theorem dX12_noUser_9 : decode cX12_noUser 9 = .ok (.i2l, 1) := by decide +kernel
theorem dX12_noUser_10 : decode cX12_noUser 10 = .ok (.invokestatic 17, 3) := by decide +kernel
theorem dX12_noUser_13 : decode cX12_noUser 13 = .ok (.ifCond .ne 7, 3) := by decide +kernel
theorem dX12_noUser_16 : decode cX12_noUser 16 = .ok (.iconst 1, 1) := by decide +kernel
theorem dX12_noUser_17 : decode cX12_noUser 17 = .ok (.goto 4, 3) := by decide +kernel
theorem dX12_noUser_20 : decode cX12_noUser 20 = .ok (.iconst 0, 1) := by decide +kernel
theorem dX12_noUser_21 : decode cX12_noUser 21 = .ok (.ireturn, 1) := by decide +kernel
theorem mk_X12_noUser : MVk yX12_noUser "FairBlocksModel" cX12_noUser 2 (Option.some FieldType.boolean) 1 := ⟨w_863, w_862, wp_18, w_13, rfl, by decide +kernel, by decide +kernel, by decide +kernel⟩
def BX12_noUser_0 (G : Nat → KT) (Q : Option mV → mM → Prop) : KT := (s_iload 1 (s_i2l (s_lconst 0 (s_aload 0 (s_geti 12 6 (s_iconst (1) (s_bin (fun x y => x - y) (s_i2l (s_callS 3 pre_X12_in fn_X12_in (s_if (fun x => x = 0) ((s_iconst (1) (s_at G 21 [false, false]))) (s_at G 20 [false, false])))))))))))
set_option maxRecDepth 4000 in
theorem bsX12_noUser_0 {p : Program} {l : Launch} {e : Env} {s : State} {m : MethodId} {args : Array Value} {below : List Frame} {meth : Method} {c : Code} {D : va_G} {ca : Nat → ClassId} {ad : Nat → Nat} {A : Nat → Prop} {Q : Option mV → mM → Prop} (hX : CX p s m args meth c 2 cX12_noUser "FairBlocksModel" D ca ad A) (hr : meth.sig.returnType = (Option.some FieldType.boolean)) : ∀ lv st M, BX12_noUser_0 (Gd p l e (rmD 1) s m args below meth c 2 D ca ad A 0 0 (MQ below (QC D ca ad A Q) args s 0 0 A)) Q lv st M → Gd p l e (rmD 1) s m args below meth c 2 D ca ad A 0 0 (MQ below (QC D ca ad A Q) args s 0 0 A) 0 lv st M :=
  (sd_iload_n hX dX12_noUser_0 rfl (sd_i2l hX dX12_noUser_1 (sd_lconst hX dX12_noUser_2 rfl (sd_aload_n hX dX12_noUser_3 rfl (sd_geti hX fl_729 (by decide) dX12_noUser_4 (sd_iconst hX dX12_noUser_7 rfl (sd_isub hX dX12_noUser_8 (sd_i2l hX dX12_noUser_9 (sd_callS hX (ct_X12_in l) mk_X12_in w_825 ⟨⟨by decide, by decide⟩, by decide, by decide⟩ dX12_noUser_10 (sd_if_ne hX dX12_noUser_13 (by decide) sd_at (sd_iconst hX dX12_noUser_16 rfl (sd_goto hX dX12_noUser_17 (by decide) sd_at))))))))))))
def BX12_noUser_20 (G : Nat → KT) (Q : Option mV → mM → Prop) : KT := (s_iconst (0) (s_at G 21 [false, false]))
set_option maxRecDepth 4000 in
theorem bsX12_noUser_20 {p : Program} {l : Launch} {e : Env} {s : State} {m : MethodId} {args : Array Value} {below : List Frame} {meth : Method} {c : Code} {D : va_G} {ca : Nat → ClassId} {ad : Nat → Nat} {A : Nat → Prop} {Q : Option mV → mM → Prop} (hX : CX p s m args meth c 2 cX12_noUser "FairBlocksModel" D ca ad A) (hr : meth.sig.returnType = (Option.some FieldType.boolean)) : ∀ lv st M, BX12_noUser_20 (Gd p l e (rmD 1) s m args below meth c 2 D ca ad A 0 0 (MQ below (QC D ca ad A Q) args s 0 0 A)) Q lv st M → Gd p l e (rmD 1) s m args below meth c 2 D ca ad A 0 0 (MQ below (QC D ca ad A Q) args s 0 0 A) 20 lv st M :=
  (sd_iconst hX dX12_noUser_20 rfl sd_at)
def BX12_noUser_21 (G : Nat → KT) (Q : Option mV → mM → Prop) : KT := (s_zret Q)
set_option maxRecDepth 4000 in
theorem bsX12_noUser_21 {p : Program} {l : Launch} {e : Env} {s : State} {m : MethodId} {args : Array Value} {below : List Frame} {meth : Method} {c : Code} {D : va_G} {ca : Nat → ClassId} {ad : Nat → Nat} {A : Nat → Prop} {Q : Option mV → mM → Prop} (hX : CX p s m args meth c 2 cX12_noUser "FairBlocksModel" D ca ad A) (hr : meth.sig.returnType = (Option.some FieldType.boolean)) : ∀ lv st M, BX12_noUser_21 (Gd p l e (rmD 1) s m args below meth c 2 D ca ad A 0 0 (MQ below (QC D ca ad A Q) args s 0 0 A)) Q lv st M → Gd p l e (rmD 1) s m args below meth c 2 D ca ad A 0 0 (MQ below (QC D ca ad A Q) args s 0 0 A) 21 lv st M :=
  sd_zret hX hr dX12_noUser_21
set_option maxHeartbeats 400000 in
theorem pf_X12_noUser (G : Nat → KT) (Q : Option mV → mM → Prop) (h0 : ∀ lv st M, BX12_noUser_0 G Q lv st M → G 0 lv st M) (h20 : ∀ lv st M, BX12_noUser_20 G Q lv st M → G 20 lv st M) (h21 : ∀ lv st M, BX12_noUser_21 G Q lv st M → G 21 lv st M) (as : List mV) (M : mM) (ho : ∀ v ∈ as, okV v) (hp : pre_X12_noUser as M) (hQ : Q (fn_X12_noUser as M).1 (fn_X12_noUser as M).2) : G 0 (inL as ++ List.replicate (2 - (inL as).length) none) [] M := by
  obtain ⟨c, u, rfl⟩ := hp
  obtain rfl : c = 158 := k12 (ho (.inr (.inr (12, c))) (by simp))
  simp only [fn_X12_noUser, nu] at hQ
  have e : iL u.toInt64 0 (M.1 158 6 - 1).toInt64 = wi u 0 (M.1 158 6 - 1) := iLw u 0 _
  (apply h0; simp only [BX12_noUser_0, s_mth, s_mab, s_at, s_iconst, s_lconst, s_iload, s_lload, s_aload, s_istore, s_lstore, s_astore, s_iinc, s_bin, s_binG, s_un, s_lbin, s_lbinG, s_lsh, s_lcmp, s_i2l, s_l2i, s_dup, s_dup2, s_pop, s_if, s_icmp, s_geti, s_getl, s_getr, s_puti, s_putz, s_putl, s_iald, s_zald, s_iast, s_zast, s_aaldS, s_aaldU, s_gets, s_tald, s_tsw, tsw, s_iret, s_zret, s_lret, s_aret, s_vret, s_callV, s_callS, c1, nl1, keepL, csum, pushR, inL, List.getD_cons_zero, List.getD_cons_succ, List.set_cons_zero, List.set_cons_succ, List.cons_append, List.nil_append, List.append_nil, List.replicate, List.length_cons, List.length_nil, List.take_succ_cons, List.take_zero, List.drop_succ_cons, List.drop_zero, List.reverse_cons, List.reverse_nil, true_and, and_true, forall_const, not_true_eq_false, not_false_eq_true, false_implies, true_implies, implies_true, one0, m10, Nat.reduceAdd, Nat.reduceSub, Nat.reduceLeDiff, Nat.zero_add, Nat.add_zero, fn_X12_in])
  rw [e]
  refine ⟨⟨_, _, _, rfl⟩, fun h => ?_, fun h => ?_⟩
  · rw [if_pos h] at hQ
    (apply h21; simp only [BX12_noUser_21, s_mth, s_mab, s_at, s_iconst, s_lconst, s_iload, s_lload, s_aload, s_istore, s_lstore, s_astore, s_iinc, s_bin, s_binG, s_un, s_lbin, s_lbinG, s_lsh, s_lcmp, s_i2l, s_l2i, s_dup, s_dup2, s_pop, s_if, s_icmp, s_geti, s_getl, s_getr, s_puti, s_putz, s_putl, s_iald, s_zald, s_iast, s_zast, s_aaldS, s_aaldU, s_gets, s_tald, s_tsw, tsw, s_iret, s_zret, s_lret, s_aret, s_vret, s_callV, s_callS, c1, nl1, keepL, csum, pushR, inL, List.getD_cons_zero, List.getD_cons_succ, List.set_cons_zero, List.set_cons_succ, List.cons_append, List.nil_append, List.append_nil, List.replicate, List.length_cons, List.length_nil, List.take_succ_cons, List.take_zero, List.drop_succ_cons, List.drop_zero, List.reverse_cons, List.reverse_nil, true_and, and_true, forall_const, not_true_eq_false, not_false_eq_true, false_implies, true_implies, implies_true, one0, m10, Nat.reduceAdd, Nat.reduceSub, Nat.reduceLeDiff, Nat.zero_add, Nat.add_zero, fn_X12_in])
    exact ⟨by simp, hQ⟩
  · rw [if_neg h] at hQ
    (apply h20; simp only [BX12_noUser_20, s_mth, s_mab, s_at, s_iconst, s_lconst, s_iload, s_lload, s_aload, s_istore, s_lstore, s_astore, s_iinc, s_bin, s_binG, s_un, s_lbin, s_lbinG, s_lsh, s_lcmp, s_i2l, s_l2i, s_dup, s_dup2, s_pop, s_if, s_icmp, s_geti, s_getl, s_getr, s_puti, s_putz, s_putl, s_iald, s_zald, s_iast, s_zast, s_aaldS, s_aaldU, s_gets, s_tald, s_tsw, tsw, s_iret, s_zret, s_lret, s_aret, s_vret, s_callV, s_callS, c1, nl1, keepL, csum, pushR, inL, List.getD_cons_zero, List.getD_cons_succ, List.set_cons_zero, List.set_cons_succ, List.cons_append, List.nil_append, List.append_nil, List.replicate, List.length_cons, List.length_nil, List.take_succ_cons, List.take_zero, List.drop_succ_cons, List.drop_zero, List.reverse_cons, List.reverse_nil, true_and, and_true, forall_const, not_true_eq_false, not_false_eq_true, false_implies, true_implies, implies_true, one0, m10, Nat.reduceAdd, Nat.reduceSub, Nat.reduceLeDiff, Nat.zero_add, Nat.add_zero, fn_X12_in])
    (apply h21; simp only [BX12_noUser_21, s_mth, s_mab, s_at, s_iconst, s_lconst, s_iload, s_lload, s_aload, s_istore, s_lstore, s_astore, s_iinc, s_bin, s_binG, s_un, s_lbin, s_lbinG, s_lsh, s_lcmp, s_i2l, s_l2i, s_dup, s_dup2, s_pop, s_if, s_icmp, s_geti, s_getl, s_getr, s_puti, s_putz, s_putl, s_iald, s_zald, s_iast, s_zast, s_aaldS, s_aaldU, s_gets, s_tald, s_tsw, tsw, s_iret, s_zret, s_lret, s_aret, s_vret, s_callV, s_callS, c1, nl1, keepL, csum, pushR, inL, List.getD_cons_zero, List.getD_cons_succ, List.set_cons_zero, List.set_cons_succ, List.cons_append, List.nil_append, List.append_nil, List.replicate, List.length_cons, List.length_nil, List.take_succ_cons, List.take_zero, List.drop_succ_cons, List.drop_zero, List.reverse_cons, List.reverse_nil, true_and, and_true, forall_const, not_true_eq_false, not_false_eq_true, false_implies, true_implies, implies_true, one0, m10, Nat.reduceAdd, Nat.reduceSub, Nat.reduceLeDiff, Nat.zero_add, Nat.add_zero, fn_X12_in])
    exact ⟨by simp, hQ⟩
theorem ct_X12_noUser (l : Launch) : Con l yX12_noUser cX12_noUser 2 (Option.some FieldType.boolean) 1 pre_X12_noUser fn_X12_noUser := con_of (by decide +kernel) ok_X12_noUser len_X12_noUser (fun p e s m args below meth c D ca ad A as M hX hr hp ho => pf_X12_noUser _ _ (bsX12_noUser_0 hX hr) (bsX12_noUser_20 hX hr) (bsX12_noUser_21 hX hr) as M ho hp ⟨rfl, rfl⟩)
/-! a slot of the model -/
def PM (M : mM) : Prop := (∃ n, n ≤ 5 ∧ M.1 158 6 = nI n ∧ ∀ u, u < n → ∃ m, 1 ≤ m ∧ m ≤ 6 ∧ M.1 161 u = nI m) ∧ ∃ B, B ≤ 4 ∧ M.1 158 4 = nI B
def nM (M : mM) : Nat := (M.1 158 6).toNatClampNeg
theorem nM_e {M : mM} (h : PM M) : nM M ≤ 5 ∧ M.1 158 6 = nI (nM M) ∧ ∀ u, u < nM M → ∃ m, 1 ≤ m ∧ m ≤ 6 ∧ M.1 161 u = nI m := by
  obtain ⟨⟨n, hn, e, hr⟩, -⟩ := h
  have : nM M = n := by unfold nM; rw [e, nI_clamp (by omega)]
  rw [this]
  exact ⟨hn, e, hr⟩
theorem PM_of {M M' : mM} (h : PM M) (h1 : M'.1 158 6 = M.1 158 6) (h2 : M'.1 158 4 = M.1 158 4) (h3 : M'.1 161 = M.1 161) : PM M' := by
  unfold PM at h ⊢
  rw [h1, h2, h3]
  exact h
theorem PM_mset {M : mM} {k j : Nat} {v : Int32} (h : PM M) (h1 : k ≠ 158) (h2 : k ≠ 161) : PM (mset M k j v) := PM_of h (by rw [mset_n (Ne.symm h1)]) (by rw [mset_n (Ne.symm h1)]) (mset_n (Ne.symm h2))
/-- a row that is a page: 52 places, its clock a number that can grow by b -/
def PG (M : mM) (r b : Nat) : Prop := (165 ≤ r ∧ r ≤ 167) ∧ ∃ c, c + b < 2 ^ 31 ∧ M.1 r 51 = nI c
theorem PG_l {M : mM} {r b : Nat} (h : PG M r b) : ln r = 52 := by
  have : r = 165 ∨ r = 166 ∨ r = 167 := by have := h.1; omega
  rcases this with rfl | rfl | rfl <;> decide +kernel
def mrt (M : mM) (r u : Nat) : Int32 := M.1 160 ((6 : Int32) * nI u + rm (M.1 r 51) (M.1 161 u)).toNatClampNeg
def pre_X12_rateOf (as : List mV) (M : mM) : Prop := ∃ c r u, as = [.inr (.inr (12, c)), .inr (.inr (13, r)), .inl u] ∧ PM M ∧ PG M r 0 ∧ ∃ j, j < nM M ∧ u = nI j
def fn_X12_rateOf : List mV → mM → Option mV × mM
  | [.inr (.inr (_, c)), .inr (.inr (_, r)), .inl u], M => (some (.inl (mrt M r u.toNatClampNeg)), M)
  | _, M => (none, M)
theorem ok_X12_rateOf (as : List mV) (M : mM) (h : pre_X12_rateOf as M) (_ : ∀ v ∈ as, okV v) : okR (fn_X12_rateOf as M).1 := by
  obtain ⟨c, r, u, rfl, -⟩ := h
  first | trivial | exact (by decide +kernel : kof 14 = 8)
theorem len_X12_rateOf (as : List mV) (M : mM) (h : pre_X12_rateOf as M) : (inL as).length ≤ 3 := by
  obtain ⟨c, r, u, rfl, -⟩ := h
  exact Nat.le_of_ble_eq_true rfl

theorem fl_730 : FLk "FairBlocksModel" 36 12 7 16 := ⟨RX12, TX12, 32, rfl, inX12, by decide, w_730, by decide, rfl⟩
theorem fl_731 : FLk "FairBlocksModel" 39 12 8 16 := ⟨RX12, TX12, 32, rfl, inX12, by decide, w_731, by decide, rfl⟩
theorem dX12_rateOf_0 : decode cX12_rateOf 0 = .ok (.aload_n 0, 1) := by decide +kernel
theorem dX12_rateOf_1 : decode cX12_rateOf 1 = .ok (.getfield 36, 3) := by decide +kernel
theorem dX12_rateOf_4 : decode cX12_rateOf 4 = .ok (.bipush 6, 2) := by decide +kernel
theorem dX12_rateOf_6 : decode cX12_rateOf 6 = .ok (.iload_n 2, 1) := by decide +kernel
theorem dX12_rateOf_7 : decode cX12_rateOf 7 = .ok (.imul, 1) := by decide +kernel
theorem dX12_rateOf_8 : decode cX12_rateOf 8 = .ok (.aload_n 1, 1) := by decide +kernel
theorem dX12_rateOf_9 : decode cX12_rateOf 9 = .ok (.bipush 51, 2) := by decide +kernel
theorem dX12_rateOf_11 : decode cX12_rateOf 11 = .ok (.iaload, 1) := by decide +kernel
theorem dX12_rateOf_12 : decode cX12_rateOf 12 = .ok (.aload_n 0, 1) := by decide +kernel
theorem dX12_rateOf_13 : decode cX12_rateOf 13 = .ok (.getfield 39, 3) := by decide +kernel
theorem dX12_rateOf_16 : decode cX12_rateOf 16 = .ok (.iload_n 2, 1) := by decide +kernel
theorem dX12_rateOf_17 : decode cX12_rateOf 17 = .ok (.iaload, 1) := by decide +kernel
theorem dX12_rateOf_18 : decode cX12_rateOf 18 = .ok (.irem, 1) := by decide +kernel
theorem dX12_rateOf_19 : decode cX12_rateOf 19 = .ok (.iadd, 1) := by decide +kernel
theorem dX12_rateOf_20 : decode cX12_rateOf 20 = .ok (.iaload, 1) := by decide +kernel
theorem dX12_rateOf_21 : decode cX12_rateOf 21 = .ok (.ireturn, 1) := by decide +kernel
theorem mk_X12_rateOf : MVk yX12_rateOf "FairBlocksModel" cX12_rateOf 3 (Option.some FieldType.int) 2 := ⟨w_868, w_867, wp_19, w_13, rfl, by decide +kernel, by decide +kernel, by decide +kernel⟩
def BX12_rateOf_0 (G : Nat → KT) (Q : Option mV → mM → Prop) : KT := (s_aload 0 (s_getr 12 13 (fun _ => 160) (s_iconst (6) (s_iload 2 (s_bin (fun x y => x * y) (s_aload 1 (s_iconst (51) (s_iald (s_aload 0 (s_getr 12 13 (fun _ => 161) (s_iload 2 (s_iald (s_binG (fun x y => x - x / y * y) (s_bin (fun x y => x + y) (s_iald (s_iret Q))))))))))))))))
set_option maxRecDepth 4000 in
theorem bsX12_rateOf_0 {p : Program} {l : Launch} {e : Env} {s : State} {m : MethodId} {args : Array Value} {below : List Frame} {meth : Method} {c : Code} {D : va_G} {ca : Nat → ClassId} {ad : Nat → Nat} {A : Nat → Prop} {Q : Option mV → mM → Prop} (hX : CX p s m args meth c 3 cX12_rateOf "FairBlocksModel" D ca ad A) (hr : meth.sig.returnType = (Option.some FieldType.int)) : ∀ lv st M, BX12_rateOf_0 (Gd p l e (rmD 0) s m args below meth c 3 D ca ad A 0 0 (MQ below (QC D ca ad A Q) args s 0 0 A)) Q lv st M → Gd p l e (rmD 0) s m args below meth c 3 D ca ad A 0 0 (MQ below (QC D ca ad A Q) args s 0 0 A) 0 lv st M :=
  (sd_aload_n hX dX12_rateOf_0 rfl (sd_getr hX fl_730 (fun _ => rfl) (fun _ _ _ => by decide +kernel) dX12_rateOf_1 (sd_bipush hX dX12_rateOf_4 rfl (sd_iload_n hX dX12_rateOf_6 rfl (sd_imul hX dX12_rateOf_7 (sd_aload_n hX dX12_rateOf_8 rfl (sd_bipush hX dX12_rateOf_9 rfl (sd_iald hX dX12_rateOf_11 (sd_aload_n hX dX12_rateOf_12 rfl (sd_getr hX fl_731 (fun _ => rfl) (fun _ _ _ => by decide +kernel) dX12_rateOf_13 (sd_iload_n hX dX12_rateOf_16 rfl (sd_iald hX dX12_rateOf_17 (sd_irem hX dX12_rateOf_18 (sd_iadd hX dX12_rateOf_19 (sd_iald hX dX12_rateOf_20 (sd_iret hX hr dX12_rateOf_21))))))))))))))))
set_option maxHeartbeats 400000 in
theorem pf_X12_rateOf (G : Nat → KT) (Q : Option mV → mM → Prop) (h0 : ∀ lv st M, BX12_rateOf_0 G Q lv st M → G 0 lv st M) (as : List mV) (M : mM) (ho : ∀ v ∈ as, okV v) (hp : pre_X12_rateOf as M) (hQ : Q (fn_X12_rateOf as M).1 (fn_X12_rateOf as M).2) : G 0 (inL as ++ List.replicate (3 - (inL as).length) none) [] M := by
  obtain ⟨c, r, u, rfl, hPM, hPG, U, hU, rfl⟩ := hp
  obtain ⟨hn, en, hr⟩ := nM_e hPM
  have hl := PG_l hPG
  obtain ⟨-, cl, hcl, ecl⟩ := hPG
  obtain ⟨m, hm1, hm6, em⟩ := hr U hU
  have eU : (nI U).toNatClampNeg = U := nI_clamp (by omega)
  simp only [fn_X12_rateOf, mrt, eU, rm] at hQ
  have c51 : Int32.toNatClampNeg 51 = 51 := by decide
  have hlt := Nat.mod_lt cl (show 0 < m by omega)
  (apply h0; simp only [BX12_rateOf_0, s_mth, s_mab, s_at, s_iconst, s_lconst, s_iload, s_lload, s_aload, s_istore, s_lstore, s_astore, s_iinc, s_bin, s_binG, s_un, s_lbin, s_lbinG, s_lsh, s_lcmp, s_i2l, s_l2i, s_dup, s_dup2, s_pop, s_if, s_icmp, s_geti, s_getl, s_getr, s_puti, s_putz, s_putl, s_iald, s_zald, s_iast, s_zast, s_aaldS, s_aaldU, s_gets, s_tald, s_tsw, tsw, s_iret, s_zret, s_lret, s_aret, s_vret, s_callV, s_callS, c1, nl1, keepL, csum, pushR, inL, List.getD_cons_zero, List.getD_cons_succ, List.set_cons_zero, List.set_cons_succ, List.cons_append, List.nil_append, List.append_nil, List.replicate, List.length_cons, List.length_nil, List.take_succ_cons, List.take_zero, List.drop_succ_cons, List.drop_zero, List.reverse_cons, List.reverse_nil, true_and, and_true, forall_const, not_true_eq_false, not_false_eq_true, false_implies, true_implies, implies_true, one0, m10, Nat.reduceAdd, Nat.reduceSub, Nat.reduceLeDiff, Nat.zero_add, Nat.add_zero])
  simp only [lM, hl, eU, c51]
  refine ⟨vp_in_nI (n := 51) (by decide) (by decide), vp_in_nI (by omega) (by decide), ?_, ?_, hQ⟩
  · rw [em]; exact nI_ne0 (by omega) (by omega)
  · rw [ecl, em, pk_rem (by omega) (by omega) (by omega), show (6 : Int32) = nI 6 from rfl, pk_mul, nI_add]
    exact vp_in_nI (by omega) (by decide)
theorem ct_X12_rateOf (l : Launch) : Con l yX12_rateOf cX12_rateOf 3 (Option.some FieldType.int) 0 pre_X12_rateOf fn_X12_rateOf := con_of (by decide +kernel) ok_X12_rateOf len_X12_rateOf (fun p e s m args below meth c D ca ad A as M hX hr hp ho => pf_X12_rateOf _ _ (bsX12_rateOf_0 hX hr) as M ho hp ⟨rfl, rfl⟩)
def ha (M : mM) (r u : Nat) : Int32 := if 0 < M.1 r (10 * u + 4) then 1 else if M.1 r (10 * u + 5) ≤ 0 then 0 else 1
def pre_X12_hasAny (as : List mV) (M : mM) : Prop := ∃ r u, as = [.inr (.inr (13, r)), .inl u] ∧ ln r = 52 ∧ ∃ j, j < 5 ∧ u = nI j
def fn_X12_hasAny : List mV → mM → Option mV × mM
  | [.inr (.inr (_, r)), .inl u], M => (some (.inl (ha M r u.toNatClampNeg)), M)
  | _, M => (none, M)
theorem ok_X12_hasAny (as : List mV) (M : mM) (h : pre_X12_hasAny as M) (_ : ∀ v ∈ as, okV v) : okR (fn_X12_hasAny as M).1 := by
  obtain ⟨r, u, rfl, -⟩ := h
  first | trivial | exact (by decide +kernel : kof 14 = 8)
theorem len_X12_hasAny (as : List mV) (M : mM) (h : pre_X12_hasAny as M) : (inL as).length ≤ 2 := by
  obtain ⟨r, u, rfl, -⟩ := h
  exact Nat.le_of_ble_eq_true rfl


theorem dX12_hasAny_0 : decode cX12_hasAny 0 = .ok (.aload_n 0, 1) := by decide +kernel
theorem dX12_hasAny_1 : decode cX12_hasAny 1 = .ok (.bipush 10, 2) := by decide +kernel
theorem dX12_hasAny_3 : decode cX12_hasAny 3 = .ok (.iload_n 1, 1) := by decide +kernel
theorem dX12_hasAny_4 : decode cX12_hasAny 4 = .ok (.imul, 1) := by decide +kernel
theorem dX12_hasAny_5 : decode cX12_hasAny 5 = .ok (.iconst 4, 1) := by decide +kernel
theorem dX12_hasAny_6 : decode cX12_hasAny 6 = .ok (.iadd, 1) := by decide +kernel
theorem dX12_hasAny_7 : decode cX12_hasAny 7 = .ok (.iaload, 1) := by decide +kernel
theorem dX12_hasAny_8 : decode cX12_hasAny 8 = .ok (.ifCond .gt 14, 3) := by decide +kernel
theorem dX12_hasAny_11 : decode cX12_hasAny 11 = .ok (.aload_n 0, 1) := by decide +kernel
theorem dX12_hasAny_12 : decode cX12_hasAny 12 = .ok (.bipush 10, 2) := by decide +kernel
theorem dX12_hasAny_14 : decode cX12_hasAny 14 = .ok (.iload_n 1, 1) := by decide +kernel
theorem dX12_hasAny_15 : decode cX12_hasAny 15 = .ok (.imul, 1) := by decide +kernel
theorem dX12_hasAny_16 : decode cX12_hasAny 16 = .ok (.iconst 5, 1) := by decide +kernel
theorem dX12_hasAny_17 : decode cX12_hasAny 17 = .ok (.iadd, 1) := by decide +kernel
theorem dX12_hasAny_18 : decode cX12_hasAny 18 = .ok (.iaload, 1) := by decide +kernel
theorem dX12_hasAny_19 : decode cX12_hasAny 19 = .ok (.ifCond .le 7, 3) := by decide +kernel
theorem dX12_hasAny_22 : decode cX12_hasAny 22 = .ok (.iconst 1, 1) := by decide +kernel
theorem dX12_hasAny_23 : decode cX12_hasAny 23 = .ok (.goto 4, 3) := by decide +kernel
theorem dX12_hasAny_26 : decode cX12_hasAny 26 = .ok (.iconst 0, 1) := by decide +kernel
theorem dX12_hasAny_27 : decode cX12_hasAny 27 = .ok (.ireturn, 1) := by decide +kernel
theorem mk_X12_hasAny : MSk yX12_hasAny cX12_hasAny 2 (Option.some FieldType.boolean) 2 := ⟨w_896, w_895, w_13, by decide +kernel, by decide +kernel, by decide +kernel⟩
def BX12_hasAny_0 (G : Nat → KT) (Q : Option mV → mM → Prop) : KT := (s_aload 0 (s_iconst (10) (s_iload 1 (s_bin (fun x y => x * y) (s_iconst (4) (s_bin (fun x y => x + y) (s_iald (s_if (fun x => 0 < x) (s_at G 22 [false, false]) (s_aload 0 (s_iconst (10) (s_iload 1 (s_bin (fun x y => x * y) (s_iconst (5) (s_bin (fun x y => x + y) (s_iald (s_if (fun x => x ≤ 0) (s_at G 26 [false, false]) (s_at G 22 [false, false])))))))))))))))))
set_option maxRecDepth 4000 in
theorem bsX12_hasAny_0 {p : Program} {l : Launch} {e : Env} {s : State} {m : MethodId} {args : Array Value} {below : List Frame} {meth : Method} {c : Code} {D : va_G} {ca : Nat → ClassId} {ad : Nat → Nat} {A : Nat → Prop} {Q : Option mV → mM → Prop} (hX : CX p s m args meth c 2 cX12_hasAny "FairBlocksModel" D ca ad A) (hr : meth.sig.returnType = (Option.some FieldType.boolean)) : ∀ lv st M, BX12_hasAny_0 (Gd p l e (rmD 0) s m args below meth c 2 D ca ad A 0 0 (MQ below (QC D ca ad A Q) args s 0 0 A)) Q lv st M → Gd p l e (rmD 0) s m args below meth c 2 D ca ad A 0 0 (MQ below (QC D ca ad A Q) args s 0 0 A) 0 lv st M :=
  (sd_aload_n hX dX12_hasAny_0 rfl (sd_bipush hX dX12_hasAny_1 rfl (sd_iload_n hX dX12_hasAny_3 rfl (sd_imul hX dX12_hasAny_4 (sd_iconst hX dX12_hasAny_5 rfl (sd_iadd hX dX12_hasAny_6 (sd_iald hX dX12_hasAny_7 (sd_if_gt hX dX12_hasAny_8 (by decide) sd_at (sd_aload_n hX dX12_hasAny_11 rfl (sd_bipush hX dX12_hasAny_12 rfl (sd_iload_n hX dX12_hasAny_14 rfl (sd_imul hX dX12_hasAny_15 (sd_iconst hX dX12_hasAny_16 rfl (sd_iadd hX dX12_hasAny_17 (sd_iald hX dX12_hasAny_18 (sd_if_le hX dX12_hasAny_19 (by decide) sd_at sd_at))))))))))))))))
def BX12_hasAny_22 (G : Nat → KT) (Q : Option mV → mM → Prop) : KT := (s_iconst (1) (s_at G 27 [false, false]))
set_option maxRecDepth 4000 in
theorem bsX12_hasAny_22 {p : Program} {l : Launch} {e : Env} {s : State} {m : MethodId} {args : Array Value} {below : List Frame} {meth : Method} {c : Code} {D : va_G} {ca : Nat → ClassId} {ad : Nat → Nat} {A : Nat → Prop} {Q : Option mV → mM → Prop} (hX : CX p s m args meth c 2 cX12_hasAny "FairBlocksModel" D ca ad A) (hr : meth.sig.returnType = (Option.some FieldType.boolean)) : ∀ lv st M, BX12_hasAny_22 (Gd p l e (rmD 0) s m args below meth c 2 D ca ad A 0 0 (MQ below (QC D ca ad A Q) args s 0 0 A)) Q lv st M → Gd p l e (rmD 0) s m args below meth c 2 D ca ad A 0 0 (MQ below (QC D ca ad A Q) args s 0 0 A) 22 lv st M :=
  (sd_iconst hX dX12_hasAny_22 rfl (sd_goto hX dX12_hasAny_23 (by decide) sd_at))
def BX12_hasAny_26 (G : Nat → KT) (Q : Option mV → mM → Prop) : KT := (s_iconst (0) (s_at G 27 [false, false]))
set_option maxRecDepth 4000 in
theorem bsX12_hasAny_26 {p : Program} {l : Launch} {e : Env} {s : State} {m : MethodId} {args : Array Value} {below : List Frame} {meth : Method} {c : Code} {D : va_G} {ca : Nat → ClassId} {ad : Nat → Nat} {A : Nat → Prop} {Q : Option mV → mM → Prop} (hX : CX p s m args meth c 2 cX12_hasAny "FairBlocksModel" D ca ad A) (hr : meth.sig.returnType = (Option.some FieldType.boolean)) : ∀ lv st M, BX12_hasAny_26 (Gd p l e (rmD 0) s m args below meth c 2 D ca ad A 0 0 (MQ below (QC D ca ad A Q) args s 0 0 A)) Q lv st M → Gd p l e (rmD 0) s m args below meth c 2 D ca ad A 0 0 (MQ below (QC D ca ad A Q) args s 0 0 A) 26 lv st M :=
  (sd_iconst hX dX12_hasAny_26 rfl sd_at)
def BX12_hasAny_27 (G : Nat → KT) (Q : Option mV → mM → Prop) : KT := (s_zret Q)
set_option maxRecDepth 4000 in
theorem bsX12_hasAny_27 {p : Program} {l : Launch} {e : Env} {s : State} {m : MethodId} {args : Array Value} {below : List Frame} {meth : Method} {c : Code} {D : va_G} {ca : Nat → ClassId} {ad : Nat → Nat} {A : Nat → Prop} {Q : Option mV → mM → Prop} (hX : CX p s m args meth c 2 cX12_hasAny "FairBlocksModel" D ca ad A) (hr : meth.sig.returnType = (Option.some FieldType.boolean)) : ∀ lv st M, BX12_hasAny_27 (Gd p l e (rmD 0) s m args below meth c 2 D ca ad A 0 0 (MQ below (QC D ca ad A Q) args s 0 0 A)) Q lv st M → Gd p l e (rmD 0) s m args below meth c 2 D ca ad A 0 0 (MQ below (QC D ca ad A Q) args s 0 0 A) 27 lv st M :=
  sd_zret hX hr dX12_hasAny_27
set_option maxHeartbeats 400000 in
theorem pf_X12_hasAny (G : Nat → KT) (Q : Option mV → mM → Prop) (h0 : ∀ lv st M, BX12_hasAny_0 G Q lv st M → G 0 lv st M) (h22 : ∀ lv st M, BX12_hasAny_22 G Q lv st M → G 22 lv st M) (h26 : ∀ lv st M, BX12_hasAny_26 G Q lv st M → G 26 lv st M) (h27 : ∀ lv st M, BX12_hasAny_27 G Q lv st M → G 27 lv st M) (as : List mV) (M : mM) (ho : ∀ v ∈ as, okV v) (hp : pre_X12_hasAny as M) (hQ : Q (fn_X12_hasAny as M).1 (fn_X12_hasAny as M).2) : G 0 (inL as ++ List.replicate (2 - (inL as).length) none) [] M := by
  obtain ⟨r, u, rfl, hl, U, hU, rfl⟩ := hp
  have eU : (nI U).toNatClampNeg = U := nI_clamp (by omega)
  have x0 : ((10 : Int32) * nI U + 0).toNatClampNeg = 10 * U + 0 := cx hU 0 (by decide)
  have v0 : vp_in ((10 : Int32) * nI U + 0) 52 := vx hU 0 (by decide)
  have x1 : ((10 : Int32) * nI U + 1).toNatClampNeg = 10 * U + 1 := cx hU 1 (by decide)
  have v1 : vp_in ((10 : Int32) * nI U + 1) 52 := vx hU 1 (by decide)
  have x2 : ((10 : Int32) * nI U + 2).toNatClampNeg = 10 * U + 2 := cx hU 2 (by decide)
  have v2 : vp_in ((10 : Int32) * nI U + 2) 52 := vx hU 2 (by decide)
  have x3 : ((10 : Int32) * nI U + 3).toNatClampNeg = 10 * U + 3 := cx hU 3 (by decide)
  have v3 : vp_in ((10 : Int32) * nI U + 3) 52 := vx hU 3 (by decide)
  have x4 : ((10 : Int32) * nI U + 4).toNatClampNeg = 10 * U + 4 := cx hU 4 (by decide)
  have v4 : vp_in ((10 : Int32) * nI U + 4) 52 := vx hU 4 (by decide)
  have x5 : ((10 : Int32) * nI U + 5).toNatClampNeg = 10 * U + 5 := cx hU 5 (by decide)
  have v5 : vp_in ((10 : Int32) * nI U + 5) 52 := vx hU 5 (by decide)
  have x6 : ((10 : Int32) * nI U + 6).toNatClampNeg = 10 * U + 6 := cx hU 6 (by decide)
  have v6 : vp_in ((10 : Int32) * nI U + 6) 52 := vx hU 6 (by decide)
  have x7 : ((10 : Int32) * nI U + 7).toNatClampNeg = 10 * U + 7 := cx hU 7 (by decide)
  have v7 : vp_in ((10 : Int32) * nI U + 7) 52 := vx hU 7 (by decide)
  have x8 : ((10 : Int32) * nI U + 8).toNatClampNeg = 10 * U + 8 := cx hU 8 (by decide)
  have v8 : vp_in ((10 : Int32) * nI U + 8) 52 := vx hU 8 (by decide)
  have x9 : ((10 : Int32) * nI U + 9).toNatClampNeg = 10 * U + 9 := cx hU 9 (by decide)
  have v9 : vp_in ((10 : Int32) * nI U + 9) 52 := vx hU 9 (by decide)
  simp only [fn_X12_hasAny, ha, eU] at hQ
  have T : Q (some (.inl 1)) M → G 22 [none, none] [] M := by
    intro hQ
    (apply h22; simp only [BX12_hasAny_22, s_mth, s_mab, s_at, s_iconst, s_lconst, s_iload, s_lload, s_aload, s_istore, s_lstore, s_astore, s_iinc, s_bin, s_binG, s_un, s_lbin, s_lbinG, s_lsh, s_lcmp, s_i2l, s_l2i, s_dup, s_dup2, s_pop, s_if, s_icmp, s_geti, s_getl, s_getr, s_puti, s_putz, s_putl, s_iald, s_zald, s_iast, s_zast, s_aaldS, s_aaldU, s_gets, s_tald, s_tsw, tsw, s_iret, s_zret, s_lret, s_aret, s_vret, s_callV, s_callS, c1, nl1, keepL, csum, pushR, inL, List.getD_cons_zero, List.getD_cons_succ, List.set_cons_zero, List.set_cons_succ, List.cons_append, List.nil_append, List.append_nil, List.replicate, List.length_cons, List.length_nil, List.take_succ_cons, List.take_zero, List.drop_succ_cons, List.drop_zero, List.reverse_cons, List.reverse_nil, true_and, and_true, forall_const, not_true_eq_false, not_false_eq_true, false_implies, true_implies, implies_true, one0, m10, Nat.reduceAdd, Nat.reduceSub, Nat.reduceLeDiff, Nat.zero_add, Nat.add_zero])
    (apply h27; simp only [BX12_hasAny_27, s_mth, s_mab, s_at, s_iconst, s_lconst, s_iload, s_lload, s_aload, s_istore, s_lstore, s_astore, s_iinc, s_bin, s_binG, s_un, s_lbin, s_lbinG, s_lsh, s_lcmp, s_i2l, s_l2i, s_dup, s_dup2, s_pop, s_if, s_icmp, s_geti, s_getl, s_getr, s_puti, s_putz, s_putl, s_iald, s_zald, s_iast, s_zast, s_aaldS, s_aaldU, s_gets, s_tald, s_tsw, tsw, s_iret, s_zret, s_lret, s_aret, s_vret, s_callV, s_callS, c1, nl1, keepL, csum, pushR, inL, List.getD_cons_zero, List.getD_cons_succ, List.set_cons_zero, List.set_cons_succ, List.cons_append, List.nil_append, List.append_nil, List.replicate, List.length_cons, List.length_nil, List.take_succ_cons, List.take_zero, List.drop_succ_cons, List.drop_zero, List.reverse_cons, List.reverse_nil, true_and, and_true, forall_const, not_true_eq_false, not_false_eq_true, false_implies, true_implies, implies_true, one0, m10, Nat.reduceAdd, Nat.reduceSub, Nat.reduceLeDiff, Nat.zero_add, Nat.add_zero])
    exact ⟨by simp, hQ⟩
  (apply h0; simp only [BX12_hasAny_0, s_mth, s_mab, s_at, s_iconst, s_lconst, s_iload, s_lload, s_aload, s_istore, s_lstore, s_astore, s_iinc, s_bin, s_binG, s_un, s_lbin, s_lbinG, s_lsh, s_lcmp, s_i2l, s_l2i, s_dup, s_dup2, s_pop, s_if, s_icmp, s_geti, s_getl, s_getr, s_puti, s_putz, s_putl, s_iald, s_zald, s_iast, s_zast, s_aaldS, s_aaldU, s_gets, s_tald, s_tsw, tsw, s_iret, s_zret, s_lret, s_aret, s_vret, s_callV, s_callS, c1, nl1, keepL, csum, pushR, inL, List.getD_cons_zero, List.getD_cons_succ, List.set_cons_zero, List.set_cons_succ, List.cons_append, List.nil_append, List.append_nil, List.replicate, List.length_cons, List.length_nil, List.take_succ_cons, List.take_zero, List.drop_succ_cons, List.drop_zero, List.reverse_cons, List.reverse_nil, true_and, and_true, forall_const, not_true_eq_false, not_false_eq_true, false_implies, true_implies, implies_true, one0, m10, Nat.reduceAdd, Nat.reduceSub, Nat.reduceLeDiff, Nat.zero_add, Nat.add_zero])
  simp only [hl, x4, x5]
  refine ⟨v4, fun h => ?_, fun h => ⟨v5, fun h2 => ?_, fun h2 => ?_⟩⟩
  · rw [if_pos h] at hQ; exact T hQ
  · rw [if_neg h, if_pos h2] at hQ
    (apply h26; simp only [BX12_hasAny_26, s_mth, s_mab, s_at, s_iconst, s_lconst, s_iload, s_lload, s_aload, s_istore, s_lstore, s_astore, s_iinc, s_bin, s_binG, s_un, s_lbin, s_lbinG, s_lsh, s_lcmp, s_i2l, s_l2i, s_dup, s_dup2, s_pop, s_if, s_icmp, s_geti, s_getl, s_getr, s_puti, s_putz, s_putl, s_iald, s_zald, s_iast, s_zast, s_aaldS, s_aaldU, s_gets, s_tald, s_tsw, tsw, s_iret, s_zret, s_lret, s_aret, s_vret, s_callV, s_callS, c1, nl1, keepL, csum, pushR, inL, List.getD_cons_zero, List.getD_cons_succ, List.set_cons_zero, List.set_cons_succ, List.cons_append, List.nil_append, List.append_nil, List.replicate, List.length_cons, List.length_nil, List.take_succ_cons, List.take_zero, List.drop_succ_cons, List.drop_zero, List.reverse_cons, List.reverse_nil, true_and, and_true, forall_const, not_true_eq_false, not_false_eq_true, false_implies, true_implies, implies_true, one0, m10, Nat.reduceAdd, Nat.reduceSub, Nat.reduceLeDiff, Nat.zero_add, Nat.add_zero])
    (apply h27; simp only [BX12_hasAny_27, s_mth, s_mab, s_at, s_iconst, s_lconst, s_iload, s_lload, s_aload, s_istore, s_lstore, s_astore, s_iinc, s_bin, s_binG, s_un, s_lbin, s_lbinG, s_lsh, s_lcmp, s_i2l, s_l2i, s_dup, s_dup2, s_pop, s_if, s_icmp, s_geti, s_getl, s_getr, s_puti, s_putz, s_putl, s_iald, s_zald, s_iast, s_zast, s_aaldS, s_aaldU, s_gets, s_tald, s_tsw, tsw, s_iret, s_zret, s_lret, s_aret, s_vret, s_callV, s_callS, c1, nl1, keepL, csum, pushR, inL, List.getD_cons_zero, List.getD_cons_succ, List.set_cons_zero, List.set_cons_succ, List.cons_append, List.nil_append, List.append_nil, List.replicate, List.length_cons, List.length_nil, List.take_succ_cons, List.take_zero, List.drop_succ_cons, List.drop_zero, List.reverse_cons, List.reverse_nil, true_and, and_true, forall_const, not_true_eq_false, not_false_eq_true, false_implies, true_implies, implies_true, one0, m10, Nat.reduceAdd, Nat.reduceSub, Nat.reduceLeDiff, Nat.zero_add, Nat.add_zero])
    exact ⟨by simp, hQ⟩
  · rw [if_neg h, if_neg h2] at hQ; exact T hQ
theorem ct_X12_hasAny (l : Launch) : Con l yX12_hasAny cX12_hasAny 2 (Option.some FieldType.boolean) 0 pre_X12_hasAny fn_X12_hasAny := con_of (by decide +kernel) ok_X12_hasAny len_X12_hasAny (fun p e s m args below meth c D ca ad A as M hX hr hp ho => pf_X12_hasAny _ _ (bsX12_hasAny_0 hX hr) (bsX12_hasAny_22 hX hr) (bsX12_hasAny_26 hX hr) (bsX12_hasAny_27 hX hr) as M ho hp ⟨rfl, rfl⟩)
def hsS (M : mM) (u : Int32) (k : Nat) (w : Int32) : Int32 := if w = 0 then (if M.1 176 k = u then 1 else 0) else 1
def hs (M : mM) (u : Int32) (n : Nat) : Int32 := itr (hsS M u) 0 n 0
theorem hsS_01 {M : mM} {u w : Int32} {k : Nat} : hsS M u k w = 0 ∨ hsS M u k w = 1 := by unfold hsS; split <;> (try split) <;> simp
def pre_X12_hadSome (as : List mV) (M : mM) : Prop := ∃ c u b, as = [.inr (.inr (12, c)), .inl u, .inl b] ∧ ∃ n, n ≤ 4 ∧ b = nI n
def fn_X12_hadSome : List mV → mM → Option mV × mM
  | [.inr (.inr (_, c)), .inl u, .inl b], M => (some (.inl (hs M u b.toNatClampNeg)), M)
  | _, M => (none, M)
theorem ok_X12_hadSome (as : List mV) (M : mM) (h : pre_X12_hadSome as M) (_ : ∀ v ∈ as, okV v) : okR (fn_X12_hadSome as M).1 := by
  obtain ⟨c, u, b, rfl, -⟩ := h
  first | trivial | exact (by decide +kernel : kof 14 = 8)
theorem len_X12_hadSome (as : List mV) (M : mM) (h : pre_X12_hadSome as M) : (inL as).length ≤ 5 := by
  obtain ⟨c, u, b, rfl, -⟩ := h
  exact Nat.le_of_ble_eq_true rfl

theorem fl_753 : FLk "FairBlocksModel" 79 12 30 16 := ⟨RX12, TX12, 32, rfl, inX12, by decide, w_753, by decide, rfl⟩
theorem dX12_hadSome_0 : decode cX12_hadSome 0 = .ok (.iconst 0, 1) := by decide +kernel
theorem dX12_hadSome_1 : decode cX12_hadSome 1 = .ok (.istore_n 3, 1) := by decide +kernel
theorem dX12_hadSome_2 : decode cX12_hadSome 2 = .ok (.iconst 0, 1) := by decide +kernel
theorem dX12_hadSome_3 : decode cX12_hadSome 3 = .ok (.istore 4, 2) := by decide +kernel
theorem dX12_hadSome_5 : decode cX12_hadSome 5 = .ok (.iload 4, 2) := by decide +kernel
theorem dX12_hadSome_7 : decode cX12_hadSome 7 = .ok (.iload_n 2, 1) := by decide +kernel
theorem dX12_hadSome_8 : decode cX12_hadSome 8 = .ok (.if_icmp .ge 30, 3) := by decide +kernel
theorem dX12_hadSome_11 : decode cX12_hadSome 11 = .ok (.iload_n 3, 1) := by decide +kernel
theorem dX12_hadSome_12 : decode cX12_hadSome 12 = .ok (.ifCond .ne 14, 3) := by decide +kernel
theorem dX12_hadSome_15 : decode cX12_hadSome 15 = .ok (.aload_n 0, 1) := by decide +kernel
theorem dX12_hadSome_16 : decode cX12_hadSome 16 = .ok (.getfield 79, 3) := by decide +kernel
theorem dX12_hadSome_19 : decode cX12_hadSome 19 = .ok (.iload 4, 2) := by decide +kernel
theorem dX12_hadSome_21 : decode cX12_hadSome 21 = .ok (.iaload, 1) := by decide +kernel
theorem dX12_hadSome_22 : decode cX12_hadSome 22 = .ok (.iload_n 1, 1) := by decide +kernel
theorem dX12_hadSome_23 : decode cX12_hadSome 23 = .ok (.if_icmp .ne 7, 3) := by decide +kernel
theorem dX12_hadSome_26 : decode cX12_hadSome 26 = .ok (.iconst 1, 1) := by decide +kernel
theorem dX12_hadSome_27 : decode cX12_hadSome 27 = .ok (.goto 4, 3) := by decide +kernel
theorem dX12_hadSome_30 : decode cX12_hadSome 30 = .ok (.iconst 0, 1) := by decide +kernel
theorem dX12_hadSome_31 : decode cX12_hadSome 31 = .ok (.istore_n 3, 1) := by decide +kernel
theorem dX12_hadSome_32 : decode cX12_hadSome 32 = .ok (.iinc 4 1, 3) := by decide +kernel
theorem dX12_hadSome_35 : decode cX12_hadSome 35 = .ok (.goto (-30), 3) := by decide +kernel
theorem dX12_hadSome_38 : decode cX12_hadSome 38 = .ok (.iload_n 3, 1) := by decide +kernel
theorem dX12_hadSome_39 : decode cX12_hadSome 39 = .ok (.ireturn, 1) := by decide +kernel
theorem mk_X12_hadSome : MVk yX12_hadSome "FairBlocksModel" cX12_hadSome 5 (Option.some FieldType.boolean) 2 := ⟨w_900, w_899, wp_25, w_13, rfl, by decide +kernel, by decide +kernel, by decide +kernel⟩
def BX12_hadSome_0 (G : Nat → KT) (Q : Option mV → mM → Prop) : KT := (s_iconst (0) (s_istore 3 (s_iconst (0) (s_istore 4 (s_at G 5 [true, true, true, true, true])))))
set_option maxRecDepth 4000 in
theorem bsX12_hadSome_0 {p : Program} {l : Launch} {e : Env} {s : State} {m : MethodId} {args : Array Value} {below : List Frame} {meth : Method} {c : Code} {D : va_G} {ca : Nat → ClassId} {ad : Nat → Nat} {A : Nat → Prop} {Q : Option mV → mM → Prop} (hX : CX p s m args meth c 5 cX12_hadSome "FairBlocksModel" D ca ad A) (hr : meth.sig.returnType = (Option.some FieldType.boolean)) : ∀ lv st M, BX12_hadSome_0 (Gd p l e (rmD 0) s m args below meth c 5 D ca ad A 0 0 (MQ below (QC D ca ad A Q) args s 0 0 A)) Q lv st M → Gd p l e (rmD 0) s m args below meth c 5 D ca ad A 0 0 (MQ below (QC D ca ad A Q) args s 0 0 A) 0 lv st M :=
  (sd_iconst hX dX12_hadSome_0 rfl (sd_istore_n hX (by decide) dX12_hadSome_1 rfl (sd_iconst hX dX12_hadSome_2 rfl (sd_istore hX (by decide) dX12_hadSome_3 sd_at))))
def BX12_hadSome_5 (G : Nat → KT) (Q : Option mV → mM → Prop) : KT := (s_iload 4 (s_iload 2 (s_icmp (fun x y => y ≤ x) (s_at G 38 [false, false, false, true, false]) (s_iload 3 (s_if (fun x => x = 0) ((s_aload 0 (s_getr 12 13 (fun _ => 176) (s_iload 4 (s_iald (s_iload 1 (s_icmp (fun x y => x = y) ((s_at G 26 [true, true, true, false, true])) (s_at G 30 [true, true, true, false, true])))))))) (s_at G 26 [true, true, true, false, true]))))))
set_option maxRecDepth 4000 in
theorem bsX12_hadSome_5 {p : Program} {l : Launch} {e : Env} {s : State} {m : MethodId} {args : Array Value} {below : List Frame} {meth : Method} {c : Code} {D : va_G} {ca : Nat → ClassId} {ad : Nat → Nat} {A : Nat → Prop} {Q : Option mV → mM → Prop} (hX : CX p s m args meth c 5 cX12_hadSome "FairBlocksModel" D ca ad A) (hr : meth.sig.returnType = (Option.some FieldType.boolean)) : ∀ lv st M, BX12_hadSome_5 (Gd p l e (rmD 0) s m args below meth c 5 D ca ad A 0 0 (MQ below (QC D ca ad A Q) args s 0 0 A)) Q lv st M → Gd p l e (rmD 0) s m args below meth c 5 D ca ad A 0 0 (MQ below (QC D ca ad A Q) args s 0 0 A) 5 lv st M :=
  (sd_iload hX dX12_hadSome_5 (sd_iload_n hX dX12_hadSome_7 rfl (sd_icmp_ge hX dX12_hadSome_8 (by decide) sd_at (sd_iload_n hX dX12_hadSome_11 rfl (sd_if_ne hX dX12_hadSome_12 (by decide) sd_at (sd_aload_n hX dX12_hadSome_15 rfl (sd_getr hX fl_753 (fun _ => rfl) (fun _ _ _ => by decide +kernel) dX12_hadSome_16 (sd_iload hX dX12_hadSome_19 (sd_iald hX dX12_hadSome_21 (sd_iload_n hX dX12_hadSome_22 rfl (sd_icmp_ne hX dX12_hadSome_23 (by decide) sd_at sd_at)))))))))))
def BX12_hadSome_26 (G : Nat → KT) (Q : Option mV → mM → Prop) : KT := (s_iconst (1) (s_at G 31 [true, true, true, false, true]))
set_option maxRecDepth 4000 in
theorem bsX12_hadSome_26 {p : Program} {l : Launch} {e : Env} {s : State} {m : MethodId} {args : Array Value} {below : List Frame} {meth : Method} {c : Code} {D : va_G} {ca : Nat → ClassId} {ad : Nat → Nat} {A : Nat → Prop} {Q : Option mV → mM → Prop} (hX : CX p s m args meth c 5 cX12_hadSome "FairBlocksModel" D ca ad A) (hr : meth.sig.returnType = (Option.some FieldType.boolean)) : ∀ lv st M, BX12_hadSome_26 (Gd p l e (rmD 0) s m args below meth c 5 D ca ad A 0 0 (MQ below (QC D ca ad A Q) args s 0 0 A)) Q lv st M → Gd p l e (rmD 0) s m args below meth c 5 D ca ad A 0 0 (MQ below (QC D ca ad A Q) args s 0 0 A) 26 lv st M :=
  (sd_iconst hX dX12_hadSome_26 rfl (sd_goto hX dX12_hadSome_27 (by decide) sd_at))
def BX12_hadSome_30 (G : Nat → KT) (Q : Option mV → mM → Prop) : KT := (s_iconst (0) (s_at G 31 [true, true, true, false, true]))
set_option maxRecDepth 4000 in
theorem bsX12_hadSome_30 {p : Program} {l : Launch} {e : Env} {s : State} {m : MethodId} {args : Array Value} {below : List Frame} {meth : Method} {c : Code} {D : va_G} {ca : Nat → ClassId} {ad : Nat → Nat} {A : Nat → Prop} {Q : Option mV → mM → Prop} (hX : CX p s m args meth c 5 cX12_hadSome "FairBlocksModel" D ca ad A) (hr : meth.sig.returnType = (Option.some FieldType.boolean)) : ∀ lv st M, BX12_hadSome_30 (Gd p l e (rmD 0) s m args below meth c 5 D ca ad A 0 0 (MQ below (QC D ca ad A Q) args s 0 0 A)) Q lv st M → Gd p l e (rmD 0) s m args below meth c 5 D ca ad A 0 0 (MQ below (QC D ca ad A Q) args s 0 0 A) 30 lv st M :=
  (sd_iconst hX dX12_hadSome_30 rfl sd_at)
def BX12_hadSome_31 (G : Nat → KT) (Q : Option mV → mM → Prop) : KT := (s_istore 3 (s_iinc 4 (1) (s_at G 5 [true, true, true, true, true])))
set_option maxRecDepth 4000 in
theorem bsX12_hadSome_31 {p : Program} {l : Launch} {e : Env} {s : State} {m : MethodId} {args : Array Value} {below : List Frame} {meth : Method} {c : Code} {D : va_G} {ca : Nat → ClassId} {ad : Nat → Nat} {A : Nat → Prop} {Q : Option mV → mM → Prop} (hX : CX p s m args meth c 5 cX12_hadSome "FairBlocksModel" D ca ad A) (hr : meth.sig.returnType = (Option.some FieldType.boolean)) : ∀ lv st M, BX12_hadSome_31 (Gd p l e (rmD 0) s m args below meth c 5 D ca ad A 0 0 (MQ below (QC D ca ad A Q) args s 0 0 A)) Q lv st M → Gd p l e (rmD 0) s m args below meth c 5 D ca ad A 0 0 (MQ below (QC D ca ad A Q) args s 0 0 A) 31 lv st M :=
  (sd_istore_n hX (by decide) dX12_hadSome_31 rfl (sd_iinc hX (by decide) dX12_hadSome_32 rfl (sd_goto hX dX12_hadSome_35 (by decide) sd_at)))
def BX12_hadSome_38 (G : Nat → KT) (Q : Option mV → mM → Prop) : KT := (s_iload 3 (s_zret Q))
set_option maxRecDepth 4000 in
theorem bsX12_hadSome_38 {p : Program} {l : Launch} {e : Env} {s : State} {m : MethodId} {args : Array Value} {below : List Frame} {meth : Method} {c : Code} {D : va_G} {ca : Nat → ClassId} {ad : Nat → Nat} {A : Nat → Prop} {Q : Option mV → mM → Prop} (hX : CX p s m args meth c 5 cX12_hadSome "FairBlocksModel" D ca ad A) (hr : meth.sig.returnType = (Option.some FieldType.boolean)) : ∀ lv st M, BX12_hadSome_38 (Gd p l e (rmD 0) s m args below meth c 5 D ca ad A 0 0 (MQ below (QC D ca ad A Q) args s 0 0 A)) Q lv st M → Gd p l e (rmD 0) s m args below meth c 5 D ca ad A 0 0 (MQ below (QC D ca ad A Q) args s 0 0 A) 38 lv st M :=
  (sd_iload_n hX dX12_hadSome_38 rfl (sd_zret hX hr dX12_hadSome_39))
set_option maxHeartbeats 400000 in
theorem pf_X12_hadSome (G : Nat → KT) (Q : Option mV → mM → Prop) (h0 : ∀ lv st M, BX12_hadSome_0 G Q lv st M → G 0 lv st M) (h5 : ∀ lv st M, BX12_hadSome_5 G Q lv st M → G 5 lv st M) (h26 : ∀ lv st M, BX12_hadSome_26 G Q lv st M → G 26 lv st M) (h30 : ∀ lv st M, BX12_hadSome_30 G Q lv st M → G 30 lv st M) (h31 : ∀ lv st M, BX12_hadSome_31 G Q lv st M → G 31 lv st M) (h38 : ∀ lv st M, BX12_hadSome_38 G Q lv st M → G 38 lv st M) (as : List mV) (M : mM) (ho : ∀ v ∈ as, okV v) (hp : pre_X12_hadSome as M) (hQ : Q (fn_X12_hadSome as M).1 (fn_X12_hadSome as M).2) : G 0 (inL as ++ List.replicate (5 - (inL as).length) none) [] M := by
  obtain ⟨c, u, b, rfl, N, hN, rfl⟩ := hp
  simp only [fn_X12_hadSome, hs, nI_clamp (by omega : N < 2 ^ 31)] at hQ
  have loop : ∀ (n i : Nat) (w : Int32), i + n = N → (w = 0 ∨ w = 1) → Q (some (.inl (itr (hsS M u) i n w))) M → G 5 [some (.inr (.inr (12, c))), some (.inl u), some (.inl (nI N)), some (.inl w), some (.inl (nI i))] [] M := by
    intro n
    induction n with
    | zero =>
      intro i w hi hw hq
      obtain rfl : i = N := by omega
      (apply h5; simp only [BX12_hadSome_5, s_mth, s_mab, s_at, s_iconst, s_lconst, s_iload, s_lload, s_aload, s_istore, s_lstore, s_astore, s_iinc, s_bin, s_binG, s_un, s_lbin, s_lbinG, s_lsh, s_lcmp, s_i2l, s_l2i, s_dup, s_dup2, s_pop, s_if, s_icmp, s_geti, s_getl, s_getr, s_puti, s_putz, s_putl, s_iald, s_zald, s_iast, s_zast, s_aaldS, s_aaldU, s_gets, s_tald, s_tsw, tsw, s_iret, s_zret, s_lret, s_aret, s_vret, s_callV, s_callS, c1, nl1, keepL, csum, pushR, inL, List.getD_cons_zero, List.getD_cons_succ, List.set_cons_zero, List.set_cons_succ, List.cons_append, List.nil_append, List.append_nil, List.replicate, List.length_cons, List.length_nil, List.take_succ_cons, List.take_zero, List.drop_succ_cons, List.drop_zero, List.reverse_cons, List.reverse_nil, true_and, and_true, forall_const, not_true_eq_false, not_false_eq_true, false_implies, true_implies, implies_true, one0, m10, Nat.reduceAdd, Nat.reduceSub, Nat.reduceLeDiff, Nat.zero_add, Nat.add_zero])
      refine ⟨fun _ => ?_, fun h => absurd (nI_le (Nat.le_refl i) (by omega)) h⟩
      (apply h38; simp only [BX12_hadSome_38, s_mth, s_mab, s_at, s_iconst, s_lconst, s_iload, s_lload, s_aload, s_istore, s_lstore, s_astore, s_iinc, s_bin, s_binG, s_un, s_lbin, s_lbinG, s_lsh, s_lcmp, s_i2l, s_l2i, s_dup, s_dup2, s_pop, s_if, s_icmp, s_geti, s_getl, s_getr, s_puti, s_putz, s_putl, s_iald, s_zald, s_iast, s_zast, s_aaldS, s_aaldU, s_gets, s_tald, s_tsw, tsw, s_iret, s_zret, s_lret, s_aret, s_vret, s_callV, s_callS, c1, nl1, keepL, csum, pushR, inL, List.getD_cons_zero, List.getD_cons_succ, List.set_cons_zero, List.set_cons_succ, List.cons_append, List.nil_append, List.append_nil, List.replicate, List.length_cons, List.length_nil, List.take_succ_cons, List.take_zero, List.drop_succ_cons, List.drop_zero, List.reverse_cons, List.reverse_nil, true_and, and_true, forall_const, not_true_eq_false, not_false_eq_true, false_implies, true_implies, implies_true, one0, m10, Nat.reduceAdd, Nat.reduceSub, Nat.reduceLeDiff, Nat.zero_add, Nat.add_zero])
      exact ⟨hw, hq⟩
    | succ n ih =>
      intro i w hi hw hq
      have ei : (nI i).toNatClampNeg = i := nI_clamp (by omega)
      have L : ∀ w2, w2 = hsS M u i w → G 31 [some (.inr (.inr (12, c))), some (.inl u), some (.inl (nI N)), none, some (.inl (nI i))] [.inl w2] M := by
        intro w2 e
        (apply h31; simp only [BX12_hadSome_31, s_mth, s_mab, s_at, s_iconst, s_lconst, s_iload, s_lload, s_aload, s_istore, s_lstore, s_astore, s_iinc, s_bin, s_binG, s_un, s_lbin, s_lbinG, s_lsh, s_lcmp, s_i2l, s_l2i, s_dup, s_dup2, s_pop, s_if, s_icmp, s_geti, s_getl, s_getr, s_puti, s_putz, s_putl, s_iald, s_zald, s_iast, s_zast, s_aaldS, s_aaldU, s_gets, s_tald, s_tsw, tsw, s_iret, s_zret, s_lret, s_aret, s_vret, s_callV, s_callS, c1, nl1, keepL, csum, pushR, inL, List.getD_cons_zero, List.getD_cons_succ, List.set_cons_zero, List.set_cons_succ, List.cons_append, List.nil_append, List.append_nil, List.replicate, List.length_cons, List.length_nil, List.take_succ_cons, List.take_zero, List.drop_succ_cons, List.drop_zero, List.reverse_cons, List.reverse_nil, true_and, and_true, forall_const, not_true_eq_false, not_false_eq_true, false_implies, true_implies, implies_true, one0, m10, Nat.reduceAdd, Nat.reduceSub, Nat.reduceLeDiff, Nat.zero_add, Nat.add_zero])
        rw [nI_1]
        refine ih (i + 1) w2 (by omega) (by rw [e]; exact hsS_01) ?_
        rw [e]
        exact hq
      have T : hsS M u i w = 1 → G 26 [some (.inr (.inr (12, c))), some (.inl u), some (.inl (nI N)), none, some (.inl (nI i))] [] M := by
        intro e
        (apply h26; simp only [BX12_hadSome_26, s_mth, s_mab, s_at, s_iconst, s_lconst, s_iload, s_lload, s_aload, s_istore, s_lstore, s_astore, s_iinc, s_bin, s_binG, s_un, s_lbin, s_lbinG, s_lsh, s_lcmp, s_i2l, s_l2i, s_dup, s_dup2, s_pop, s_if, s_icmp, s_geti, s_getl, s_getr, s_puti, s_putz, s_putl, s_iald, s_zald, s_iast, s_zast, s_aaldS, s_aaldU, s_gets, s_tald, s_tsw, tsw, s_iret, s_zret, s_lret, s_aret, s_vret, s_callV, s_callS, c1, nl1, keepL, csum, pushR, inL, List.getD_cons_zero, List.getD_cons_succ, List.set_cons_zero, List.set_cons_succ, List.cons_append, List.nil_append, List.append_nil, List.replicate, List.length_cons, List.length_nil, List.take_succ_cons, List.take_zero, List.drop_succ_cons, List.drop_zero, List.reverse_cons, List.reverse_nil, true_and, and_true, forall_const, not_true_eq_false, not_false_eq_true, false_implies, true_implies, implies_true, one0, m10, Nat.reduceAdd, Nat.reduceSub, Nat.reduceLeDiff, Nat.zero_add, Nat.add_zero])
        exact L 1 e.symm
      have F : hsS M u i w = 0 → G 30 [some (.inr (.inr (12, c))), some (.inl u), some (.inl (nI N)), none, some (.inl (nI i))] [] M := by
        intro e
        (apply h30; simp only [BX12_hadSome_30, s_mth, s_mab, s_at, s_iconst, s_lconst, s_iload, s_lload, s_aload, s_istore, s_lstore, s_astore, s_iinc, s_bin, s_binG, s_un, s_lbin, s_lbinG, s_lsh, s_lcmp, s_i2l, s_l2i, s_dup, s_dup2, s_pop, s_if, s_icmp, s_geti, s_getl, s_getr, s_puti, s_putz, s_putl, s_iald, s_zald, s_iast, s_zast, s_aaldS, s_aaldU, s_gets, s_tald, s_tsw, tsw, s_iret, s_zret, s_lret, s_aret, s_vret, s_callV, s_callS, c1, nl1, keepL, csum, pushR, inL, List.getD_cons_zero, List.getD_cons_succ, List.set_cons_zero, List.set_cons_succ, List.cons_append, List.nil_append, List.append_nil, List.replicate, List.length_cons, List.length_nil, List.take_succ_cons, List.take_zero, List.drop_succ_cons, List.drop_zero, List.reverse_cons, List.reverse_nil, true_and, and_true, forall_const, not_true_eq_false, not_false_eq_true, false_implies, true_implies, implies_true, one0, m10, Nat.reduceAdd, Nat.reduceSub, Nat.reduceLeDiff, Nat.zero_add, Nat.add_zero])
        exact L 0 e.symm
      (apply h5; simp only [BX12_hadSome_5, s_mth, s_mab, s_at, s_iconst, s_lconst, s_iload, s_lload, s_aload, s_istore, s_lstore, s_astore, s_iinc, s_bin, s_binG, s_un, s_lbin, s_lbinG, s_lsh, s_lcmp, s_i2l, s_l2i, s_dup, s_dup2, s_pop, s_if, s_icmp, s_geti, s_getl, s_getr, s_puti, s_putz, s_putl, s_iald, s_zald, s_iast, s_zast, s_aaldS, s_aaldU, s_gets, s_tald, s_tsw, tsw, s_iret, s_zret, s_lret, s_aret, s_vret, s_callV, s_callS, c1, nl1, keepL, csum, pushR, inL, List.getD_cons_zero, List.getD_cons_succ, List.set_cons_zero, List.set_cons_succ, List.cons_append, List.nil_append, List.append_nil, List.replicate, List.length_cons, List.length_nil, List.take_succ_cons, List.take_zero, List.drop_succ_cons, List.drop_zero, List.reverse_cons, List.reverse_nil, true_and, and_true, forall_const, not_true_eq_false, not_false_eq_true, false_implies, true_implies, implies_true, one0, m10, Nat.reduceAdd, Nat.reduceSub, Nat.reduceLeDiff, Nat.zero_add, Nat.add_zero])
      simp only [lM, ei]
      refine ⟨fun h => absurd h (nI_ge (by omega) (by omega)), fun _ => ⟨fun h => ⟨vp_in_nI (by omega) (by decide), fun h2 => ?_, fun h2 => ?_⟩, fun h => ?_⟩⟩
      · exact T (by rw [hsS, if_pos h, if_pos h2])
      · exact F (by rw [hsS, if_pos h, if_neg h2])
      · exact T (by rw [hsS, if_neg h])
  (apply h0; simp only [BX12_hadSome_0, s_mth, s_mab, s_at, s_iconst, s_lconst, s_iload, s_lload, s_aload, s_istore, s_lstore, s_astore, s_iinc, s_bin, s_binG, s_un, s_lbin, s_lbinG, s_lsh, s_lcmp, s_i2l, s_l2i, s_dup, s_dup2, s_pop, s_if, s_icmp, s_geti, s_getl, s_getr, s_puti, s_putz, s_putl, s_iald, s_zald, s_iast, s_zast, s_aaldS, s_aaldU, s_gets, s_tald, s_tsw, tsw, s_iret, s_zret, s_lret, s_aret, s_vret, s_callV, s_callS, c1, nl1, keepL, csum, pushR, inL, List.getD_cons_zero, List.getD_cons_succ, List.set_cons_zero, List.set_cons_succ, List.cons_append, List.nil_append, List.append_nil, List.replicate, List.length_cons, List.length_nil, List.take_succ_cons, List.take_zero, List.drop_succ_cons, List.drop_zero, List.reverse_cons, List.reverse_nil, true_and, and_true, forall_const, not_true_eq_false, not_false_eq_true, false_implies, true_implies, implies_true, one0, m10, Nat.reduceAdd, Nat.reduceSub, Nat.reduceLeDiff, Nat.zero_add, Nat.add_zero])
  exact loop N 0 0 (by omega) (Or.inl rfl) hQ
theorem ct_X12_hadSome (l : Launch) : Con l yX12_hadSome cX12_hadSome 5 (Option.some FieldType.boolean) 0 pre_X12_hadSome fn_X12_hadSome := con_of (by decide +kernel) ok_X12_hadSome len_X12_hadSome (fun p e s m args below meth c D ca ad A as M hX hr hp ho => pf_X12_hadSome _ _ (bsX12_hadSome_0 hX hr) (bsX12_hadSome_5 hX hr) (bsX12_hadSome_26 hX hr) (bsX12_hadSome_30 hX hr) (bsX12_hadSome_31 hX hr) (bsX12_hadSome_38 hX hr) as M ho hp ⟨rfl, rfl⟩)
def my (M : mM) (r u b : Nat) : Int32 := if M.1 r (10 * u + 3) = 0 then (if mrt M r u ≤ 0 then 0 else if ha M r u = 0 then 0 else if hs M (nI u) b = 0 then 1 else if M.1 176 (b - 1) = nI u then 1 else 0) else 0
def pre_X12_may (as : List mV) (M : mM) : Prop := ∃ c r u b, as = [.inr (.inr (12, c)), .inr (.inr (13, r)), .inl u, .inl b] ∧ PM M ∧ PG M r 0 ∧ (∃ j, j < nM M ∧ u = nI j) ∧ ∃ n, n ≤ 4 ∧ b = nI n
def fn_X12_may : List mV → mM → Option mV × mM
  | [.inr (.inr (_, c)), .inr (.inr (_, r)), .inl u, .inl b], M => (some (.inl (my M r u.toNatClampNeg b.toNatClampNeg)), M)
  | _, M => (none, M)
theorem ok_X12_may (as : List mV) (M : mM) (h : pre_X12_may as M) (_ : ∀ v ∈ as, okV v) : okR (fn_X12_may as M).1 := by
  obtain ⟨c, r, u, b, rfl, -⟩ := h
  first | trivial | exact (by decide +kernel : kof 14 = 8)
theorem len_X12_may (as : List mV) (M : mM) (h : pre_X12_may as M) : (inL as).length ≤ 4 := by
  obtain ⟨c, r, u, b, rfl, -⟩ := h
  exact Nat.le_of_ble_eq_true rfl


theorem dX12_may_0 : decode cX12_may 0 = .ok (.aload_n 1, 1) := by decide +kernel
theorem dX12_may_1 : decode cX12_may 1 = .ok (.bipush 10, 2) := by decide +kernel
theorem dX12_may_3 : decode cX12_may 3 = .ok (.iload_n 2, 1) := by decide +kernel
theorem dX12_may_4 : decode cX12_may 4 = .ok (.imul, 1) := by decide +kernel
theorem dX12_may_5 : decode cX12_may 5 = .ok (.iconst 3, 1) := by decide +kernel
theorem dX12_may_6 : decode cX12_may 6 = .ok (.iadd, 1) := by decide +kernel
theorem dX12_may_7 : decode cX12_may 7 = .ok (.iaload, 1) := by decide +kernel
theorem dX12_may_8 : decode cX12_may 8 = .ok (.ifCond .ne 45, 3) := by decide +kernel
theorem dX12_may_11 : decode cX12_may 11 = .ok (.aload_n 0, 1) := by decide +kernel
theorem dX12_may_12 : decode cX12_may 12 = .ok (.aload_n 1, 1) := by decide +kernel
theorem dX12_may_13 : decode cX12_may 13 = .ok (.iload_n 2, 1) := by decide +kernel
theorem dX12_may_14 : decode cX12_may 14 = .ok (.invokevirtual 123, 3) := by decide +kernel
theorem dX12_may_17 : decode cX12_may 17 = .ok (.ifCond .le 36, 3) := by decide +kernel
theorem dX12_may_20 : decode cX12_may 20 = .ok (.aload_n 1, 1) := by decide +kernel
theorem dX12_may_21 : decode cX12_may 21 = .ok (.iload_n 2, 1) := by decide +kernel
theorem dX12_may_22 : decode cX12_may 22 = .ok (.invokestatic 127, 3) := by decide +kernel
theorem dX12_may_25 : decode cX12_may 25 = .ok (.ifCond .eq 28, 3) := by decide +kernel
theorem dX12_may_28 : decode cX12_may 28 = .ok (.aload_n 0, 1) := by decide +kernel
theorem dX12_may_29 : decode cX12_may 29 = .ok (.iload_n 2, 1) := by decide +kernel
theorem dX12_may_30 : decode cX12_may 30 = .ok (.iload_n 3, 1) := by decide +kernel
theorem dX12_may_31 : decode cX12_may 31 = .ok (.invokevirtual 131, 3) := by decide +kernel
theorem dX12_may_34 : decode cX12_may 34 = .ok (.ifCond .eq 15, 3) := by decide +kernel
theorem dX12_may_37 : decode cX12_may 37 = .ok (.aload_n 0, 1) := by decide +kernel
theorem dX12_may_38 : decode cX12_may 38 = .ok (.getfield 79, 3) := by decide +kernel
theorem dX12_may_41 : decode cX12_may 41 = .ok (.iload_n 3, 1) := by decide +kernel
theorem dX12_may_42 : decode cX12_may 42 = .ok (.iconst 1, 1) := by decide +kernel
theorem dX12_may_43 : decode cX12_may 43 = .ok (.isub, 1) := by decide +kernel
theorem dX12_may_44 : decode cX12_may 44 = .ok (.iaload, 1) := by decide +kernel
theorem dX12_may_45 : decode cX12_may 45 = .ok (.iload_n 2, 1) := by decide +kernel
theorem dX12_may_46 : decode cX12_may 46 = .ok (.if_icmp .ne 7, 3) := by decide +kernel
theorem dX12_may_49 : decode cX12_may 49 = .ok (.iconst 1, 1) := by decide +kernel
theorem dX12_may_50 : decode cX12_may 50 = .ok (.goto 4, 3) := by decide +kernel
theorem dX12_may_53 : decode cX12_may 53 = .ok (.iconst 0, 1) := by decide +kernel
theorem dX12_may_54 : decode cX12_may 54 = .ok (.ireturn, 1) := by decide +kernel
theorem mk_X12_may : MVk yX12_may "FairBlocksModel" cX12_may 4 (Option.some FieldType.boolean) 3 := ⟨w_893, w_892, wp_24, w_13, rfl, by decide +kernel, by decide +kernel, by decide +kernel⟩
def BX12_may_0 (G : Nat → KT) (Q : Option mV → mM → Prop) : KT := (s_aload 1 (s_iconst (10) (s_iload 2 (s_bin (fun x y => x * y) (s_iconst (3) (s_bin (fun x y => x + y) (s_iald (s_if (fun x => x = 0) ((s_aload 0 (s_aload 1 (s_iload 2 (s_callV 12 2 pre_X12_rateOf fn_X12_rateOf (s_if (fun x => x ≤ 0) (s_at G 53 [false, false, false, false]) (s_aload 1 (s_iload 2 (s_callS 2 pre_X12_hasAny fn_X12_hasAny (s_if (fun x => x = 0) (s_at G 53 [false, false, false, false]) (s_aload 0 (s_iload 2 (s_iload 3 (s_callV 12 2 pre_X12_hadSome fn_X12_hadSome (s_if (fun x => x = 0) (s_at G 49 [false, false, false, false]) (s_aload 0 (s_getr 12 13 (fun _ => 176) (s_iload 3 (s_iconst (1) (s_bin (fun x y => x - y) (s_iald (s_iload 2 (s_icmp (fun x y => x = y) ((s_at G 49 [false, false, false, false])) (s_at G 53 [false, false, false, false])))))))))))))))))))))))) (s_at G 53 [false, false, false, false])))))))))
set_option maxRecDepth 4000 in
theorem bsX12_may_0 {p : Program} {l : Launch} {e : Env} {s : State} {m : MethodId} {args : Array Value} {below : List Frame} {meth : Method} {c : Code} {D : va_G} {ca : Nat → ClassId} {ad : Nat → Nat} {A : Nat → Prop} {Q : Option mV → mM → Prop} (hX : CX p s m args meth c 4 cX12_may "FairBlocksModel" D ca ad A) (hr : meth.sig.returnType = (Option.some FieldType.boolean)) : ∀ lv st M, BX12_may_0 (Gd p l e (rmD 1) s m args below meth c 4 D ca ad A 0 0 (MQ below (QC D ca ad A Q) args s 0 0 A)) Q lv st M → Gd p l e (rmD 1) s m args below meth c 4 D ca ad A 0 0 (MQ below (QC D ca ad A Q) args s 0 0 A) 0 lv st M :=
  (sd_aload_n hX dX12_may_0 rfl (sd_bipush hX dX12_may_1 rfl (sd_iload_n hX dX12_may_3 rfl (sd_imul hX dX12_may_4 (sd_iconst hX dX12_may_5 rfl (sd_iadd hX dX12_may_6 (sd_iald hX dX12_may_7 (sd_if_ne hX dX12_may_8 (by decide) sd_at (sd_aload_n hX dX12_may_11 rfl (sd_aload_n hX dX12_may_12 rfl (sd_iload_n hX dX12_may_13 rfl (sd_callV hX (kd := 12) rfl (by decide) (ct_X12_rateOf l) mk_X12_rateOf w_865 ⟨⟨by decide, by decide⟩, by decide, by decide⟩ dX12_may_14 (sd_if_le hX dX12_may_17 (by decide) sd_at (sd_aload_n hX dX12_may_20 rfl (sd_iload_n hX dX12_may_21 rfl (sd_callS hX (ct_X12_hasAny l) mk_X12_hasAny w_894 ⟨⟨by decide, by decide⟩, by decide, by decide⟩ dX12_may_22 (sd_if_eq hX dX12_may_25 (by decide) sd_at (sd_aload_n hX dX12_may_28 rfl (sd_iload_n hX dX12_may_29 rfl (sd_iload_n hX dX12_may_30 rfl (sd_callV hX (kd := 12) rfl (by decide) (ct_X12_hadSome l) mk_X12_hadSome w_897 ⟨⟨by decide, by decide⟩, by decide, by decide⟩ dX12_may_31 (sd_if_eq hX dX12_may_34 (by decide) sd_at (sd_aload_n hX dX12_may_37 rfl (sd_getr hX fl_753 (fun _ => rfl) (fun _ _ _ => by decide +kernel) dX12_may_38 (sd_iload_n hX dX12_may_41 rfl (sd_iconst hX dX12_may_42 rfl (sd_isub hX dX12_may_43 (sd_iald hX dX12_may_44 (sd_iload_n hX dX12_may_45 rfl (sd_icmp_ne hX dX12_may_46 (by decide) sd_at sd_at))))))))))))))))))))))))))))))
def BX12_may_49 (G : Nat → KT) (Q : Option mV → mM → Prop) : KT := (s_iconst (1) (s_at G 54 [false, false, false, false]))
set_option maxRecDepth 4000 in
theorem bsX12_may_49 {p : Program} {l : Launch} {e : Env} {s : State} {m : MethodId} {args : Array Value} {below : List Frame} {meth : Method} {c : Code} {D : va_G} {ca : Nat → ClassId} {ad : Nat → Nat} {A : Nat → Prop} {Q : Option mV → mM → Prop} (hX : CX p s m args meth c 4 cX12_may "FairBlocksModel" D ca ad A) (hr : meth.sig.returnType = (Option.some FieldType.boolean)) : ∀ lv st M, BX12_may_49 (Gd p l e (rmD 1) s m args below meth c 4 D ca ad A 0 0 (MQ below (QC D ca ad A Q) args s 0 0 A)) Q lv st M → Gd p l e (rmD 1) s m args below meth c 4 D ca ad A 0 0 (MQ below (QC D ca ad A Q) args s 0 0 A) 49 lv st M :=
  (sd_iconst hX dX12_may_49 rfl (sd_goto hX dX12_may_50 (by decide) sd_at))
def BX12_may_53 (G : Nat → KT) (Q : Option mV → mM → Prop) : KT := (s_iconst (0) (s_at G 54 [false, false, false, false]))
set_option maxRecDepth 4000 in
theorem bsX12_may_53 {p : Program} {l : Launch} {e : Env} {s : State} {m : MethodId} {args : Array Value} {below : List Frame} {meth : Method} {c : Code} {D : va_G} {ca : Nat → ClassId} {ad : Nat → Nat} {A : Nat → Prop} {Q : Option mV → mM → Prop} (hX : CX p s m args meth c 4 cX12_may "FairBlocksModel" D ca ad A) (hr : meth.sig.returnType = (Option.some FieldType.boolean)) : ∀ lv st M, BX12_may_53 (Gd p l e (rmD 1) s m args below meth c 4 D ca ad A 0 0 (MQ below (QC D ca ad A Q) args s 0 0 A)) Q lv st M → Gd p l e (rmD 1) s m args below meth c 4 D ca ad A 0 0 (MQ below (QC D ca ad A Q) args s 0 0 A) 53 lv st M :=
  (sd_iconst hX dX12_may_53 rfl sd_at)
def BX12_may_54 (G : Nat → KT) (Q : Option mV → mM → Prop) : KT := (s_zret Q)
set_option maxRecDepth 4000 in
theorem bsX12_may_54 {p : Program} {l : Launch} {e : Env} {s : State} {m : MethodId} {args : Array Value} {below : List Frame} {meth : Method} {c : Code} {D : va_G} {ca : Nat → ClassId} {ad : Nat → Nat} {A : Nat → Prop} {Q : Option mV → mM → Prop} (hX : CX p s m args meth c 4 cX12_may "FairBlocksModel" D ca ad A) (hr : meth.sig.returnType = (Option.some FieldType.boolean)) : ∀ lv st M, BX12_may_54 (Gd p l e (rmD 1) s m args below meth c 4 D ca ad A 0 0 (MQ below (QC D ca ad A Q) args s 0 0 A)) Q lv st M → Gd p l e (rmD 1) s m args below meth c 4 D ca ad A 0 0 (MQ below (QC D ca ad A Q) args s 0 0 A) 54 lv st M :=
  sd_zret hX hr dX12_may_54
set_option maxHeartbeats 400000 in
theorem pf_X12_may (G : Nat → KT) (Q : Option mV → mM → Prop) (h0 : ∀ lv st M, BX12_may_0 G Q lv st M → G 0 lv st M) (h49 : ∀ lv st M, BX12_may_49 G Q lv st M → G 49 lv st M) (h53 : ∀ lv st M, BX12_may_53 G Q lv st M → G 53 lv st M) (h54 : ∀ lv st M, BX12_may_54 G Q lv st M → G 54 lv st M) (as : List mV) (M : mM) (ho : ∀ v ∈ as, okV v) (hp : pre_X12_may as M) (hQ : Q (fn_X12_may as M).1 (fn_X12_may as M).2) : G 0 (inL as ++ List.replicate (4 - (inL as).length) none) [] M := by
  obtain ⟨c, r, u, b, rfl, hPM, hPG, ⟨U, hU, rfl⟩, B, hB, rfl⟩ := hp
  obtain ⟨hn, -, -⟩ := nM_e hPM
  have hl := PG_l hPG
  have hU5 : U < 5 := by omega
  have eU : (nI U).toNatClampNeg = U := nI_clamp (by omega)
  have eB : (nI B).toNatClampNeg = B := nI_clamp (by omega)
  have x0 : ((10 : Int32) * nI U + 0).toNatClampNeg = 10 * U + 0 := cx hU5 0 (by decide)
  have v0 : vp_in ((10 : Int32) * nI U + 0) 52 := vx hU5 0 (by decide)
  have x1 : ((10 : Int32) * nI U + 1).toNatClampNeg = 10 * U + 1 := cx hU5 1 (by decide)
  have v1 : vp_in ((10 : Int32) * nI U + 1) 52 := vx hU5 1 (by decide)
  have x2 : ((10 : Int32) * nI U + 2).toNatClampNeg = 10 * U + 2 := cx hU5 2 (by decide)
  have v2 : vp_in ((10 : Int32) * nI U + 2) 52 := vx hU5 2 (by decide)
  have x3 : ((10 : Int32) * nI U + 3).toNatClampNeg = 10 * U + 3 := cx hU5 3 (by decide)
  have v3 : vp_in ((10 : Int32) * nI U + 3) 52 := vx hU5 3 (by decide)
  have x4 : ((10 : Int32) * nI U + 4).toNatClampNeg = 10 * U + 4 := cx hU5 4 (by decide)
  have v4 : vp_in ((10 : Int32) * nI U + 4) 52 := vx hU5 4 (by decide)
  have x5 : ((10 : Int32) * nI U + 5).toNatClampNeg = 10 * U + 5 := cx hU5 5 (by decide)
  have v5 : vp_in ((10 : Int32) * nI U + 5) 52 := vx hU5 5 (by decide)
  have x6 : ((10 : Int32) * nI U + 6).toNatClampNeg = 10 * U + 6 := cx hU5 6 (by decide)
  have v6 : vp_in ((10 : Int32) * nI U + 6) 52 := vx hU5 6 (by decide)
  have x7 : ((10 : Int32) * nI U + 7).toNatClampNeg = 10 * U + 7 := cx hU5 7 (by decide)
  have v7 : vp_in ((10 : Int32) * nI U + 7) 52 := vx hU5 7 (by decide)
  have x8 : ((10 : Int32) * nI U + 8).toNatClampNeg = 10 * U + 8 := cx hU5 8 (by decide)
  have v8 : vp_in ((10 : Int32) * nI U + 8) 52 := vx hU5 8 (by decide)
  have x9 : ((10 : Int32) * nI U + 9).toNatClampNeg = 10 * U + 9 := cx hU5 9 (by decide)
  have v9 : vp_in ((10 : Int32) * nI U + 9) 52 := vx hU5 9 (by decide)
  simp only [fn_X12_may, my, eU, eB] at hQ
  have T : Q (some (.inl 1)) M → G 49 [none, none, none, none] [] M := by
    intro hQ
    (apply h49; simp only [BX12_may_49, s_mth, s_mab, s_at, s_iconst, s_lconst, s_iload, s_lload, s_aload, s_istore, s_lstore, s_astore, s_iinc, s_bin, s_binG, s_un, s_lbin, s_lbinG, s_lsh, s_lcmp, s_i2l, s_l2i, s_dup, s_dup2, s_pop, s_if, s_icmp, s_geti, s_getl, s_getr, s_puti, s_putz, s_putl, s_iald, s_zald, s_iast, s_zast, s_aaldS, s_aaldU, s_gets, s_tald, s_tsw, tsw, s_iret, s_zret, s_lret, s_aret, s_vret, s_callV, s_callS, c1, nl1, keepL, csum, pushR, inL, List.getD_cons_zero, List.getD_cons_succ, List.set_cons_zero, List.set_cons_succ, List.cons_append, List.nil_append, List.append_nil, List.replicate, List.length_cons, List.length_nil, List.take_succ_cons, List.take_zero, List.drop_succ_cons, List.drop_zero, List.reverse_cons, List.reverse_nil, true_and, and_true, forall_const, not_true_eq_false, not_false_eq_true, false_implies, true_implies, implies_true, one0, m10, Nat.reduceAdd, Nat.reduceSub, Nat.reduceLeDiff, Nat.zero_add, Nat.add_zero, fn_X12_hadSome, fn_X12_hasAny, fn_X12_rateOf])
    (apply h54; simp only [BX12_may_54, s_mth, s_mab, s_at, s_iconst, s_lconst, s_iload, s_lload, s_aload, s_istore, s_lstore, s_astore, s_iinc, s_bin, s_binG, s_un, s_lbin, s_lbinG, s_lsh, s_lcmp, s_i2l, s_l2i, s_dup, s_dup2, s_pop, s_if, s_icmp, s_geti, s_getl, s_getr, s_puti, s_putz, s_putl, s_iald, s_zald, s_iast, s_zast, s_aaldS, s_aaldU, s_gets, s_tald, s_tsw, tsw, s_iret, s_zret, s_lret, s_aret, s_vret, s_callV, s_callS, c1, nl1, keepL, csum, pushR, inL, List.getD_cons_zero, List.getD_cons_succ, List.set_cons_zero, List.set_cons_succ, List.cons_append, List.nil_append, List.append_nil, List.replicate, List.length_cons, List.length_nil, List.take_succ_cons, List.take_zero, List.drop_succ_cons, List.drop_zero, List.reverse_cons, List.reverse_nil, true_and, and_true, forall_const, not_true_eq_false, not_false_eq_true, false_implies, true_implies, implies_true, one0, m10, Nat.reduceAdd, Nat.reduceSub, Nat.reduceLeDiff, Nat.zero_add, Nat.add_zero, fn_X12_hadSome, fn_X12_hasAny, fn_X12_rateOf])
    exact ⟨by simp, hQ⟩
  have F : Q (some (.inl 0)) M → G 53 [none, none, none, none] [] M := by
    intro hQ
    (apply h53; simp only [BX12_may_53, s_mth, s_mab, s_at, s_iconst, s_lconst, s_iload, s_lload, s_aload, s_istore, s_lstore, s_astore, s_iinc, s_bin, s_binG, s_un, s_lbin, s_lbinG, s_lsh, s_lcmp, s_i2l, s_l2i, s_dup, s_dup2, s_pop, s_if, s_icmp, s_geti, s_getl, s_getr, s_puti, s_putz, s_putl, s_iald, s_zald, s_iast, s_zast, s_aaldS, s_aaldU, s_gets, s_tald, s_tsw, tsw, s_iret, s_zret, s_lret, s_aret, s_vret, s_callV, s_callS, c1, nl1, keepL, csum, pushR, inL, List.getD_cons_zero, List.getD_cons_succ, List.set_cons_zero, List.set_cons_succ, List.cons_append, List.nil_append, List.append_nil, List.replicate, List.length_cons, List.length_nil, List.take_succ_cons, List.take_zero, List.drop_succ_cons, List.drop_zero, List.reverse_cons, List.reverse_nil, true_and, and_true, forall_const, not_true_eq_false, not_false_eq_true, false_implies, true_implies, implies_true, one0, m10, Nat.reduceAdd, Nat.reduceSub, Nat.reduceLeDiff, Nat.zero_add, Nat.add_zero, fn_X12_hadSome, fn_X12_hasAny, fn_X12_rateOf])
    (apply h54; simp only [BX12_may_54, s_mth, s_mab, s_at, s_iconst, s_lconst, s_iload, s_lload, s_aload, s_istore, s_lstore, s_astore, s_iinc, s_bin, s_binG, s_un, s_lbin, s_lbinG, s_lsh, s_lcmp, s_i2l, s_l2i, s_dup, s_dup2, s_pop, s_if, s_icmp, s_geti, s_getl, s_getr, s_puti, s_putz, s_putl, s_iald, s_zald, s_iast, s_zast, s_aaldS, s_aaldU, s_gets, s_tald, s_tsw, tsw, s_iret, s_zret, s_lret, s_aret, s_vret, s_callV, s_callS, c1, nl1, keepL, csum, pushR, inL, List.getD_cons_zero, List.getD_cons_succ, List.set_cons_zero, List.set_cons_succ, List.cons_append, List.nil_append, List.append_nil, List.replicate, List.length_cons, List.length_nil, List.take_succ_cons, List.take_zero, List.drop_succ_cons, List.drop_zero, List.reverse_cons, List.reverse_nil, true_and, and_true, forall_const, not_true_eq_false, not_false_eq_true, false_implies, true_implies, implies_true, one0, m10, Nat.reduceAdd, Nat.reduceSub, Nat.reduceLeDiff, Nat.zero_add, Nat.add_zero, fn_X12_hadSome, fn_X12_hasAny, fn_X12_rateOf])
    exact ⟨by simp, hQ⟩
  (apply h0; simp only [BX12_may_0, s_mth, s_mab, s_at, s_iconst, s_lconst, s_iload, s_lload, s_aload, s_istore, s_lstore, s_astore, s_iinc, s_bin, s_binG, s_un, s_lbin, s_lbinG, s_lsh, s_lcmp, s_i2l, s_l2i, s_dup, s_dup2, s_pop, s_if, s_icmp, s_geti, s_getl, s_getr, s_puti, s_putz, s_putl, s_iald, s_zald, s_iast, s_zast, s_aaldS, s_aaldU, s_gets, s_tald, s_tsw, tsw, s_iret, s_zret, s_lret, s_aret, s_vret, s_callV, s_callS, c1, nl1, keepL, csum, pushR, inL, List.getD_cons_zero, List.getD_cons_succ, List.set_cons_zero, List.set_cons_succ, List.cons_append, List.nil_append, List.append_nil, List.replicate, List.length_cons, List.length_nil, List.take_succ_cons, List.take_zero, List.drop_succ_cons, List.drop_zero, List.reverse_cons, List.reverse_nil, true_and, and_true, forall_const, not_true_eq_false, not_false_eq_true, false_implies, true_implies, implies_true, one0, m10, Nat.reduceAdd, Nat.reduceSub, Nat.reduceLeDiff, Nat.zero_add, Nat.add_zero, fn_X12_hadSome, fn_X12_hasAny, fn_X12_rateOf])
  simp only [hl, lM, x3, eU, eB]
  refine ⟨v3, fun h => ⟨⟨_, _, _, rfl, hPM, hPG, U, hU, rfl⟩, fun h2 => ?_, fun h2 => ⟨⟨_, _, rfl, hl, U, hU5, rfl⟩, fun h3 => ?_, fun h3 => ⟨⟨_, _, _, rfl, B, hB, rfl⟩, fun h4 => ?_, fun h4 => ?_⟩⟩⟩, fun h => ?_⟩
  · rw [if_pos h, if_pos h2] at hQ; exact F hQ
  · rw [if_pos h, if_neg h2, if_pos h3] at hQ; exact F hQ
  · rw [if_pos h, if_neg h2, if_neg h3, if_pos h4] at hQ; exact T hQ
  · rw [if_pos h, if_neg h2, if_neg h3, if_neg h4] at hQ
    have hB0 : 0 < B := by
      rcases Nat.eq_zero_or_pos B with g | g
      · subst g; exact absurd rfl h4
      · exact g
    obtain ⟨B1, rfl⟩ : ∃ B1, B = B1 + 1 := ⟨B - 1, by omega⟩
    rw [nI_pred, nI_clamp (by omega : B1 < 2 ^ 31)]
    refine ⟨vp_in_nI (by omega) (by decide), fun h5 => ?_, fun h5 => ?_⟩
    · rw [Nat.add_sub_cancel, if_pos h5] at hQ; exact T hQ
    · rw [Nat.add_sub_cancel, if_neg h5] at hQ; exact F hQ
  · rw [if_neg h] at hQ; exact F hQ
theorem ct_X12_may (l : Launch) : Con l yX12_may cX12_may 4 (Option.some FieldType.boolean) 1 pre_X12_may fn_X12_may := con_of (by decide +kernel) ok_X12_may len_X12_may (fun p e s m args below meth c D ca ad A as M hX hr hp ho => pf_X12_may _ _ (bsX12_may_0 hX hr) (bsX12_may_49 hX hr) (bsX12_may_53 hX hr) (bsX12_may_54 hX hr) as M ho hp ⟨rfl, rfl⟩)
theorem cmpL {x y : Int64} : lg_cmp x y ≤ 0 ↔ x ≤ y := by
  constructor
  · intro h
    rw [Int64.le_iff_toInt_le]
    rcases Int.lt_or_le y.toInt x.toInt with g | g
    · exact absurd (cmp0'.mpr (Int64.lt_iff_toInt_lt.mpr g)) (by rw [Int32.le_iff_toInt_le] at h; rw [Int32.lt_iff_toInt_lt]; omega)
    · exact g
  · intro h
    rw [Int32.le_iff_toInt_le]
    rcases Int.lt_or_le (0 : Int32).toInt (lg_cmp x y).toInt with g | g
    · have := cmp0'.mp (Int32.lt_iff_toInt_lt.mpr g)
      rw [Int64.lt_iff_toInt_lt] at this
      rw [Int64.le_iff_toInt_le] at h
      omega
    · exact g
def idL (M : mM) (r i j : Nat) : Int64 := (mrt M r i).toInt64 * (M.1 r (10 * i + 1)).toInt64 * (M.1 r (10 * j + 6) + 1).toInt64
def isd (M : mM) (r i j : Nat) : Int32 := if idL M r i j ≤ idL M r j i then 0 else 1
def pre_X12_isDue (as : List mV) (M : mM) : Prop := ∃ c r a b, as = [.inr (.inr (12, c)), .inr (.inr (13, r)), .inl a, .inl b] ∧ PM M ∧ PG M r 0 ∧ (∃ j, j < nM M ∧ a = nI j) ∧ ∃ j, j < nM M ∧ b = nI j
def fn_X12_isDue : List mV → mM → Option mV × mM
  | [.inr (.inr (_, c)), .inr (.inr (_, r)), .inl a, .inl b], M => (some (.inl (isd M r a.toNatClampNeg b.toNatClampNeg)), M)
  | _, M => (none, M)
theorem ok_X12_isDue (as : List mV) (M : mM) (h : pre_X12_isDue as M) (_ : ∀ v ∈ as, okV v) : okR (fn_X12_isDue as M).1 := by
  obtain ⟨c, r, a, b, rfl, -⟩ := h
  first | trivial | exact (by decide +kernel : kof 14 = 8)
theorem len_X12_isDue (as : List mV) (M : mM) (h : pre_X12_isDue as M) : (inL as).length ≤ 8 := by
  obtain ⟨c, r, a, b, rfl, -⟩ := h
  exact Nat.le_of_ble_eq_true rfl


theorem dX12_isDue_0 : decode cX12_isDue 0 = .ok (.aload_n 0, 1) := by decide +kernel
theorem dX12_isDue_1 : decode cX12_isDue 1 = .ok (.aload_n 1, 1) := by decide +kernel
theorem dX12_isDue_2 : decode cX12_isDue 2 = .ok (.iload_n 2, 1) := by decide +kernel
theorem dX12_isDue_3 : decode cX12_isDue 3 = .ok (.invokevirtual 123, 3) := by decide +kernel
theorem dX12_isDue_6 : decode cX12_isDue 6 = .ok (.i2l, 1) := by decide +kernel
theorem dX12_isDue_7 : decode cX12_isDue 7 = .ok (.aload_n 1, 1) := by decide +kernel
theorem dX12_isDue_8 : decode cX12_isDue 8 = .ok (.bipush 10, 2) := by decide +kernel
theorem dX12_isDue_10 : decode cX12_isDue 10 = .ok (.iload_n 2, 1) := by decide +kernel
theorem dX12_isDue_11 : decode cX12_isDue 11 = .ok (.imul, 1) := by decide +kernel
theorem dX12_isDue_12 : decode cX12_isDue 12 = .ok (.iconst 1, 1) := by decide +kernel
theorem dX12_isDue_13 : decode cX12_isDue 13 = .ok (.iadd, 1) := by decide +kernel
theorem dX12_isDue_14 : decode cX12_isDue 14 = .ok (.iaload, 1) := by decide +kernel
theorem dX12_isDue_15 : decode cX12_isDue 15 = .ok (.i2l, 1) := by decide +kernel
theorem dX12_isDue_16 : decode cX12_isDue 16 = .ok (.lmul, 1) := by decide +kernel
theorem dX12_isDue_17 : decode cX12_isDue 17 = .ok (.aload_n 1, 1) := by decide +kernel
theorem dX12_isDue_18 : decode cX12_isDue 18 = .ok (.bipush 10, 2) := by decide +kernel
theorem dX12_isDue_20 : decode cX12_isDue 20 = .ok (.iload_n 3, 1) := by decide +kernel
theorem dX12_isDue_21 : decode cX12_isDue 21 = .ok (.imul, 1) := by decide +kernel
theorem dX12_isDue_22 : decode cX12_isDue 22 = .ok (.bipush 6, 2) := by decide +kernel
theorem dX12_isDue_24 : decode cX12_isDue 24 = .ok (.iadd, 1) := by decide +kernel
theorem dX12_isDue_25 : decode cX12_isDue 25 = .ok (.iaload, 1) := by decide +kernel
theorem dX12_isDue_26 : decode cX12_isDue 26 = .ok (.iconst 1, 1) := by decide +kernel
theorem dX12_isDue_27 : decode cX12_isDue 27 = .ok (.iadd, 1) := by decide +kernel
theorem dX12_isDue_28 : decode cX12_isDue 28 = .ok (.i2l, 1) := by decide +kernel
theorem dX12_isDue_29 : decode cX12_isDue 29 = .ok (.lmul, 1) := by decide +kernel
theorem dX12_isDue_30 : decode cX12_isDue 30 = .ok (.lstore 4, 2) := by decide +kernel
theorem dX12_isDue_32 : decode cX12_isDue 32 = .ok (.aload_n 0, 1) := by decide +kernel
theorem dX12_isDue_33 : decode cX12_isDue 33 = .ok (.aload_n 1, 1) := by decide +kernel
theorem dX12_isDue_34 : decode cX12_isDue 34 = .ok (.iload_n 3, 1) := by decide +kernel
theorem dX12_isDue_35 : decode cX12_isDue 35 = .ok (.invokevirtual 123, 3) := by decide +kernel
theorem dX12_isDue_38 : decode cX12_isDue 38 = .ok (.i2l, 1) := by decide +kernel
theorem dX12_isDue_39 : decode cX12_isDue 39 = .ok (.aload_n 1, 1) := by decide +kernel
theorem dX12_isDue_40 : decode cX12_isDue 40 = .ok (.bipush 10, 2) := by decide +kernel
theorem dX12_isDue_42 : decode cX12_isDue 42 = .ok (.iload_n 3, 1) := by decide +kernel
theorem dX12_isDue_43 : decode cX12_isDue 43 = .ok (.imul, 1) := by decide +kernel
theorem dX12_isDue_44 : decode cX12_isDue 44 = .ok (.iconst 1, 1) := by decide +kernel
theorem dX12_isDue_45 : decode cX12_isDue 45 = .ok (.iadd, 1) := by decide +kernel
theorem dX12_isDue_46 : decode cX12_isDue 46 = .ok (.iaload, 1) := by decide +kernel
theorem dX12_isDue_47 : decode cX12_isDue 47 = .ok (.i2l, 1) := by decide +kernel
theorem dX12_isDue_48 : decode cX12_isDue 48 = .ok (.lmul, 1) := by decide +kernel
theorem dX12_isDue_49 : decode cX12_isDue 49 = .ok (.aload_n 1, 1) := by decide +kernel
theorem dX12_isDue_50 : decode cX12_isDue 50 = .ok (.bipush 10, 2) := by decide +kernel
theorem dX12_isDue_52 : decode cX12_isDue 52 = .ok (.iload_n 2, 1) := by decide +kernel
theorem dX12_isDue_53 : decode cX12_isDue 53 = .ok (.imul, 1) := by decide +kernel
theorem dX12_isDue_54 : decode cX12_isDue 54 = .ok (.bipush 6, 2) := by decide +kernel
theorem dX12_isDue_56 : decode cX12_isDue 56 = .ok (.iadd, 1) := by decide +kernel
theorem dX12_isDue_57 : decode cX12_isDue 57 = .ok (.iaload, 1) := by decide +kernel
theorem dX12_isDue_58 : decode cX12_isDue 58 = .ok (.iconst 1, 1) := by decide +kernel
theorem dX12_isDue_59 : decode cX12_isDue 59 = .ok (.iadd, 1) := by decide +kernel
theorem dX12_isDue_60 : decode cX12_isDue 60 = .ok (.i2l, 1) := by decide +kernel
theorem dX12_isDue_61 : decode cX12_isDue 61 = .ok (.lmul, 1) := by decide +kernel
theorem dX12_isDue_62 : decode cX12_isDue 62 = .ok (.lstore 6, 2) := by decide +kernel
theorem dX12_isDue_64 : decode cX12_isDue 64 = .ok (.lload 4, 2) := by decide +kernel
theorem dX12_isDue_66 : decode cX12_isDue 66 = .ok (.lload 6, 2) := by decide +kernel
theorem dX12_isDue_68 : decode cX12_isDue 68 = .ok (.lcmp, 1) := by decide +kernel
theorem dX12_isDue_69 : decode cX12_isDue 69 = .ok (.ifCond .le 7, 3) := by decide +kernel
theorem dX12_isDue_72 : decode cX12_isDue 72 = .ok (.iconst 1, 1) := by decide +kernel
theorem dX12_isDue_73 : decode cX12_isDue 73 = .ok (.goto 4, 3) := by decide +kernel
theorem dX12_isDue_76 : decode cX12_isDue 76 = .ok (.iconst 0, 1) := by decide +kernel
theorem dX12_isDue_77 : decode cX12_isDue 77 = .ok (.ireturn, 1) := by decide +kernel
theorem mk_X12_isDue : MVk yX12_isDue "FairBlocksModel" cX12_isDue 8 (Option.some FieldType.boolean) 3 := ⟨w_908, w_907, wp_27, w_13, rfl, by decide +kernel, by decide +kernel, by decide +kernel⟩
def BX12_isDue_0 (G : Nat → KT) (Q : Option mV → mM → Prop) : KT := (s_aload 0 (s_aload 1 (s_iload 2 (s_callV 12 2 pre_X12_rateOf fn_X12_rateOf (s_i2l (s_aload 1 (s_iconst (10) (s_iload 2 (s_bin (fun x y => x * y) (s_iconst (1) (s_bin (fun x y => x + y) (s_iald (s_i2l (s_lbin (fun x y => x * y) (s_aload 1 (s_iconst (10) (s_iload 3 (s_bin (fun x y => x * y) (s_iconst (6) (s_bin (fun x y => x + y) (s_iald (s_iconst (1) (s_bin (fun x y => x + y) (s_i2l (s_lbin (fun x y => x * y) (s_lstore 4 (s_aload 0 (s_aload 1 (s_iload 3 (s_callV 12 2 pre_X12_rateOf fn_X12_rateOf (s_i2l (s_aload 1 (s_iconst (10) (s_iload 3 (s_bin (fun x y => x * y) (s_iconst (1) (s_bin (fun x y => x + y) (s_iald (s_i2l (s_lbin (fun x y => x * y) (s_aload 1 (s_iconst (10) (s_iload 2 (s_bin (fun x y => x * y) (s_iconst (6) (s_bin (fun x y => x + y) (s_iald (s_iconst (1) (s_bin (fun x y => x + y) (s_i2l (s_lbin (fun x y => x * y) (s_lstore 6 (s_lload 4 (s_lload 6 (s_lcmp (s_if (fun x => x ≤ 0) (s_at G 76 [false, false, false, false, false, false, false, false]) (s_iconst (1) (s_at G 77 [false, false, false, false, false, false, false, false]))))))))))))))))))))))))))))))))))))))))))))))))))))))))))
set_option maxRecDepth 4000 in
theorem bsX12_isDue_0 {p : Program} {l : Launch} {e : Env} {s : State} {m : MethodId} {args : Array Value} {below : List Frame} {meth : Method} {c : Code} {D : va_G} {ca : Nat → ClassId} {ad : Nat → Nat} {A : Nat → Prop} {Q : Option mV → mM → Prop} (hX : CX p s m args meth c 8 cX12_isDue "FairBlocksModel" D ca ad A) (hr : meth.sig.returnType = (Option.some FieldType.boolean)) : ∀ lv st M, BX12_isDue_0 (Gd p l e (rmD 1) s m args below meth c 8 D ca ad A 0 0 (MQ below (QC D ca ad A Q) args s 0 0 A)) Q lv st M → Gd p l e (rmD 1) s m args below meth c 8 D ca ad A 0 0 (MQ below (QC D ca ad A Q) args s 0 0 A) 0 lv st M :=
  (sd_aload_n hX dX12_isDue_0 rfl (sd_aload_n hX dX12_isDue_1 rfl (sd_iload_n hX dX12_isDue_2 rfl (sd_callV hX (kd := 12) rfl (by decide) (ct_X12_rateOf l) mk_X12_rateOf w_865 ⟨⟨by decide, by decide⟩, by decide, by decide⟩ dX12_isDue_3 (sd_i2l hX dX12_isDue_6 (sd_aload_n hX dX12_isDue_7 rfl (sd_bipush hX dX12_isDue_8 rfl (sd_iload_n hX dX12_isDue_10 rfl (sd_imul hX dX12_isDue_11 (sd_iconst hX dX12_isDue_12 rfl (sd_iadd hX dX12_isDue_13 (sd_iald hX dX12_isDue_14 (sd_i2l hX dX12_isDue_15 (sd_lmul hX dX12_isDue_16 (sd_aload_n hX dX12_isDue_17 rfl (sd_bipush hX dX12_isDue_18 rfl (sd_iload_n hX dX12_isDue_20 rfl (sd_imul hX dX12_isDue_21 (sd_bipush hX dX12_isDue_22 rfl (sd_iadd hX dX12_isDue_24 (sd_iald hX dX12_isDue_25 (sd_iconst hX dX12_isDue_26 rfl (sd_iadd hX dX12_isDue_27 (sd_i2l hX dX12_isDue_28 (sd_lmul hX dX12_isDue_29 (sd_lstore hX (by decide) dX12_isDue_30 (sd_aload_n hX dX12_isDue_32 rfl (sd_aload_n hX dX12_isDue_33 rfl (sd_iload_n hX dX12_isDue_34 rfl (sd_callV hX (kd := 12) rfl (by decide) (ct_X12_rateOf l) mk_X12_rateOf w_865 ⟨⟨by decide, by decide⟩, by decide, by decide⟩ dX12_isDue_35 (sd_i2l hX dX12_isDue_38 (sd_aload_n hX dX12_isDue_39 rfl (sd_bipush hX dX12_isDue_40 rfl (sd_iload_n hX dX12_isDue_42 rfl (sd_imul hX dX12_isDue_43 (sd_iconst hX dX12_isDue_44 rfl (sd_iadd hX dX12_isDue_45 (sd_iald hX dX12_isDue_46 (sd_i2l hX dX12_isDue_47 (sd_lmul hX dX12_isDue_48 (sd_aload_n hX dX12_isDue_49 rfl (sd_bipush hX dX12_isDue_50 rfl (sd_iload_n hX dX12_isDue_52 rfl (sd_imul hX dX12_isDue_53 (sd_bipush hX dX12_isDue_54 rfl (sd_iadd hX dX12_isDue_56 (sd_iald hX dX12_isDue_57 (sd_iconst hX dX12_isDue_58 rfl (sd_iadd hX dX12_isDue_59 (sd_i2l hX dX12_isDue_60 (sd_lmul hX dX12_isDue_61 (sd_lstore hX (by decide) dX12_isDue_62 (sd_lload hX dX12_isDue_64 (sd_lload hX dX12_isDue_66 (sd_lcmp hX dX12_isDue_68 (sd_if_le hX dX12_isDue_69 (by decide) sd_at (sd_iconst hX dX12_isDue_72 rfl (sd_goto hX dX12_isDue_73 (by decide) sd_at))))))))))))))))))))))))))))))))))))))))))))))))))))))))))
def BX12_isDue_76 (G : Nat → KT) (Q : Option mV → mM → Prop) : KT := (s_iconst (0) (s_at G 77 [false, false, false, false, false, false, false, false]))
set_option maxRecDepth 4000 in
theorem bsX12_isDue_76 {p : Program} {l : Launch} {e : Env} {s : State} {m : MethodId} {args : Array Value} {below : List Frame} {meth : Method} {c : Code} {D : va_G} {ca : Nat → ClassId} {ad : Nat → Nat} {A : Nat → Prop} {Q : Option mV → mM → Prop} (hX : CX p s m args meth c 8 cX12_isDue "FairBlocksModel" D ca ad A) (hr : meth.sig.returnType = (Option.some FieldType.boolean)) : ∀ lv st M, BX12_isDue_76 (Gd p l e (rmD 1) s m args below meth c 8 D ca ad A 0 0 (MQ below (QC D ca ad A Q) args s 0 0 A)) Q lv st M → Gd p l e (rmD 1) s m args below meth c 8 D ca ad A 0 0 (MQ below (QC D ca ad A Q) args s 0 0 A) 76 lv st M :=
  (sd_iconst hX dX12_isDue_76 rfl sd_at)
def BX12_isDue_77 (G : Nat → KT) (Q : Option mV → mM → Prop) : KT := (s_zret Q)
set_option maxRecDepth 4000 in
theorem bsX12_isDue_77 {p : Program} {l : Launch} {e : Env} {s : State} {m : MethodId} {args : Array Value} {below : List Frame} {meth : Method} {c : Code} {D : va_G} {ca : Nat → ClassId} {ad : Nat → Nat} {A : Nat → Prop} {Q : Option mV → mM → Prop} (hX : CX p s m args meth c 8 cX12_isDue "FairBlocksModel" D ca ad A) (hr : meth.sig.returnType = (Option.some FieldType.boolean)) : ∀ lv st M, BX12_isDue_77 (Gd p l e (rmD 1) s m args below meth c 8 D ca ad A 0 0 (MQ below (QC D ca ad A Q) args s 0 0 A)) Q lv st M → Gd p l e (rmD 1) s m args below meth c 8 D ca ad A 0 0 (MQ below (QC D ca ad A Q) args s 0 0 A) 77 lv st M :=
  sd_zret hX hr dX12_isDue_77
set_option maxHeartbeats 400000 in
theorem pf_X12_isDue (G : Nat → KT) (Q : Option mV → mM → Prop) (h0 : ∀ lv st M, BX12_isDue_0 G Q lv st M → G 0 lv st M) (h76 : ∀ lv st M, BX12_isDue_76 G Q lv st M → G 76 lv st M) (h77 : ∀ lv st M, BX12_isDue_77 G Q lv st M → G 77 lv st M) (as : List mV) (M : mM) (ho : ∀ v ∈ as, okV v) (hp : pre_X12_isDue as M) (hQ : Q (fn_X12_isDue as M).1 (fn_X12_isDue as M).2) : G 0 (inL as ++ List.replicate (8 - (inL as).length) none) [] M := by
  obtain ⟨c, r, a, b, rfl, hPM, hPG, ⟨i, hi, rfl⟩, j, hj, rfl⟩ := hp
  obtain ⟨hn, -, -⟩ := nM_e hPM
  have hl := PG_l hPG
  have hi5 : i < 5 := by omega
  have hj5 : j < 5 := by omega
  have ei : (nI i).toNatClampNeg = i := nI_clamp (by omega)
  have ej : (nI j).toNatClampNeg = j := nI_clamp (by omega)
  have ax0 : ((10 : Int32) * nI i + 0).toNatClampNeg = 10 * i + 0 := cx hi5 0 (by decide)
  have av0 : vp_in ((10 : Int32) * nI i + 0) 52 := vx hi5 0 (by decide)
  have ax1 : ((10 : Int32) * nI i + 1).toNatClampNeg = 10 * i + 1 := cx hi5 1 (by decide)
  have av1 : vp_in ((10 : Int32) * nI i + 1) 52 := vx hi5 1 (by decide)
  have ax2 : ((10 : Int32) * nI i + 2).toNatClampNeg = 10 * i + 2 := cx hi5 2 (by decide)
  have av2 : vp_in ((10 : Int32) * nI i + 2) 52 := vx hi5 2 (by decide)
  have ax3 : ((10 : Int32) * nI i + 3).toNatClampNeg = 10 * i + 3 := cx hi5 3 (by decide)
  have av3 : vp_in ((10 : Int32) * nI i + 3) 52 := vx hi5 3 (by decide)
  have ax4 : ((10 : Int32) * nI i + 4).toNatClampNeg = 10 * i + 4 := cx hi5 4 (by decide)
  have av4 : vp_in ((10 : Int32) * nI i + 4) 52 := vx hi5 4 (by decide)
  have ax5 : ((10 : Int32) * nI i + 5).toNatClampNeg = 10 * i + 5 := cx hi5 5 (by decide)
  have av5 : vp_in ((10 : Int32) * nI i + 5) 52 := vx hi5 5 (by decide)
  have ax6 : ((10 : Int32) * nI i + 6).toNatClampNeg = 10 * i + 6 := cx hi5 6 (by decide)
  have av6 : vp_in ((10 : Int32) * nI i + 6) 52 := vx hi5 6 (by decide)
  have ax7 : ((10 : Int32) * nI i + 7).toNatClampNeg = 10 * i + 7 := cx hi5 7 (by decide)
  have av7 : vp_in ((10 : Int32) * nI i + 7) 52 := vx hi5 7 (by decide)
  have ax8 : ((10 : Int32) * nI i + 8).toNatClampNeg = 10 * i + 8 := cx hi5 8 (by decide)
  have av8 : vp_in ((10 : Int32) * nI i + 8) 52 := vx hi5 8 (by decide)
  have ax9 : ((10 : Int32) * nI i + 9).toNatClampNeg = 10 * i + 9 := cx hi5 9 (by decide)
  have av9 : vp_in ((10 : Int32) * nI i + 9) 52 := vx hi5 9 (by decide)
  have bx0 : ((10 : Int32) * nI j + 0).toNatClampNeg = 10 * j + 0 := cx hj5 0 (by decide)
  have bv0 : vp_in ((10 : Int32) * nI j + 0) 52 := vx hj5 0 (by decide)
  have bx1 : ((10 : Int32) * nI j + 1).toNatClampNeg = 10 * j + 1 := cx hj5 1 (by decide)
  have bv1 : vp_in ((10 : Int32) * nI j + 1) 52 := vx hj5 1 (by decide)
  have bx2 : ((10 : Int32) * nI j + 2).toNatClampNeg = 10 * j + 2 := cx hj5 2 (by decide)
  have bv2 : vp_in ((10 : Int32) * nI j + 2) 52 := vx hj5 2 (by decide)
  have bx3 : ((10 : Int32) * nI j + 3).toNatClampNeg = 10 * j + 3 := cx hj5 3 (by decide)
  have bv3 : vp_in ((10 : Int32) * nI j + 3) 52 := vx hj5 3 (by decide)
  have bx4 : ((10 : Int32) * nI j + 4).toNatClampNeg = 10 * j + 4 := cx hj5 4 (by decide)
  have bv4 : vp_in ((10 : Int32) * nI j + 4) 52 := vx hj5 4 (by decide)
  have bx5 : ((10 : Int32) * nI j + 5).toNatClampNeg = 10 * j + 5 := cx hj5 5 (by decide)
  have bv5 : vp_in ((10 : Int32) * nI j + 5) 52 := vx hj5 5 (by decide)
  have bx6 : ((10 : Int32) * nI j + 6).toNatClampNeg = 10 * j + 6 := cx hj5 6 (by decide)
  have bv6 : vp_in ((10 : Int32) * nI j + 6) 52 := vx hj5 6 (by decide)
  have bx7 : ((10 : Int32) * nI j + 7).toNatClampNeg = 10 * j + 7 := cx hj5 7 (by decide)
  have bv7 : vp_in ((10 : Int32) * nI j + 7) 52 := vx hj5 7 (by decide)
  have bx8 : ((10 : Int32) * nI j + 8).toNatClampNeg = 10 * j + 8 := cx hj5 8 (by decide)
  have bv8 : vp_in ((10 : Int32) * nI j + 8) 52 := vx hj5 8 (by decide)
  have bx9 : ((10 : Int32) * nI j + 9).toNatClampNeg = 10 * j + 9 := cx hj5 9 (by decide)
  have bv9 : vp_in ((10 : Int32) * nI j + 9) 52 := vx hj5 9 (by decide)
  simp only [fn_X12_isDue, isd, idL, ei, ej] at hQ
  (apply h0; simp only [BX12_isDue_0, s_mth, s_mab, s_at, s_iconst, s_lconst, s_iload, s_lload, s_aload, s_istore, s_lstore, s_astore, s_iinc, s_bin, s_binG, s_un, s_lbin, s_lbinG, s_lsh, s_lcmp, s_i2l, s_l2i, s_dup, s_dup2, s_pop, s_if, s_icmp, s_geti, s_getl, s_getr, s_puti, s_putz, s_putl, s_iald, s_zald, s_iast, s_zast, s_aaldS, s_aaldU, s_gets, s_tald, s_tsw, tsw, s_iret, s_zret, s_lret, s_aret, s_vret, s_callV, s_callS, c1, nl1, keepL, csum, pushR, inL, List.getD_cons_zero, List.getD_cons_succ, List.set_cons_zero, List.set_cons_succ, List.cons_append, List.nil_append, List.append_nil, List.replicate, List.length_cons, List.length_nil, List.take_succ_cons, List.take_zero, List.drop_succ_cons, List.drop_zero, List.reverse_cons, List.reverse_nil, true_and, and_true, forall_const, not_true_eq_false, not_false_eq_true, false_implies, true_implies, implies_true, one0, m10, Nat.reduceAdd, Nat.reduceSub, Nat.reduceLeDiff, Nat.zero_add, Nat.add_zero, fn_X12_rateOf])
  simp only [hl, ei, ej, ax1, ax6, bx1, bx6, cmpL]
  refine ⟨⟨_, _, _, rfl, hPM, hPG, i, hi, rfl⟩, av1, bv6, ⟨_, _, _, rfl, hPM, hPG, j, hj, rfl⟩, bv1, av6, fun h => ?_, fun h => ?_⟩
  · rw [if_pos h] at hQ
    (apply h76; simp only [BX12_isDue_76, s_mth, s_mab, s_at, s_iconst, s_lconst, s_iload, s_lload, s_aload, s_istore, s_lstore, s_astore, s_iinc, s_bin, s_binG, s_un, s_lbin, s_lbinG, s_lsh, s_lcmp, s_i2l, s_l2i, s_dup, s_dup2, s_pop, s_if, s_icmp, s_geti, s_getl, s_getr, s_puti, s_putz, s_putl, s_iald, s_zald, s_iast, s_zast, s_aaldS, s_aaldU, s_gets, s_tald, s_tsw, tsw, s_iret, s_zret, s_lret, s_aret, s_vret, s_callV, s_callS, c1, nl1, keepL, csum, pushR, inL, List.getD_cons_zero, List.getD_cons_succ, List.set_cons_zero, List.set_cons_succ, List.cons_append, List.nil_append, List.append_nil, List.replicate, List.length_cons, List.length_nil, List.take_succ_cons, List.take_zero, List.drop_succ_cons, List.drop_zero, List.reverse_cons, List.reverse_nil, true_and, and_true, forall_const, not_true_eq_false, not_false_eq_true, false_implies, true_implies, implies_true, one0, m10, Nat.reduceAdd, Nat.reduceSub, Nat.reduceLeDiff, Nat.zero_add, Nat.add_zero, fn_X12_rateOf])
    (apply h77; simp only [BX12_isDue_77, s_mth, s_mab, s_at, s_iconst, s_lconst, s_iload, s_lload, s_aload, s_istore, s_lstore, s_astore, s_iinc, s_bin, s_binG, s_un, s_lbin, s_lbinG, s_lsh, s_lcmp, s_i2l, s_l2i, s_dup, s_dup2, s_pop, s_if, s_icmp, s_geti, s_getl, s_getr, s_puti, s_putz, s_putl, s_iald, s_zald, s_iast, s_zast, s_aaldS, s_aaldU, s_gets, s_tald, s_tsw, tsw, s_iret, s_zret, s_lret, s_aret, s_vret, s_callV, s_callS, c1, nl1, keepL, csum, pushR, inL, List.getD_cons_zero, List.getD_cons_succ, List.set_cons_zero, List.set_cons_succ, List.cons_append, List.nil_append, List.append_nil, List.replicate, List.length_cons, List.length_nil, List.take_succ_cons, List.take_zero, List.drop_succ_cons, List.drop_zero, List.reverse_cons, List.reverse_nil, true_and, and_true, forall_const, not_true_eq_false, not_false_eq_true, false_implies, true_implies, implies_true, one0, m10, Nat.reduceAdd, Nat.reduceSub, Nat.reduceLeDiff, Nat.zero_add, Nat.add_zero, fn_X12_rateOf])
    exact ⟨by simp, hQ⟩
  · rw [if_neg h] at hQ
    (apply h77; simp only [BX12_isDue_77, s_mth, s_mab, s_at, s_iconst, s_lconst, s_iload, s_lload, s_aload, s_istore, s_lstore, s_astore, s_iinc, s_bin, s_binG, s_un, s_lbin, s_lbinG, s_lsh, s_lcmp, s_i2l, s_l2i, s_dup, s_dup2, s_pop, s_if, s_icmp, s_geti, s_getl, s_getr, s_puti, s_putz, s_putl, s_iald, s_zald, s_iast, s_zast, s_aaldS, s_aaldU, s_gets, s_tald, s_tsw, tsw, s_iret, s_zret, s_lret, s_aret, s_vret, s_callV, s_callS, c1, nl1, keepL, csum, pushR, inL, List.getD_cons_zero, List.getD_cons_succ, List.set_cons_zero, List.set_cons_succ, List.cons_append, List.nil_append, List.append_nil, List.replicate, List.length_cons, List.length_nil, List.take_succ_cons, List.take_zero, List.drop_succ_cons, List.drop_zero, List.reverse_cons, List.reverse_nil, true_and, and_true, forall_const, not_true_eq_false, not_false_eq_true, false_implies, true_implies, implies_true, one0, m10, Nat.reduceAdd, Nat.reduceSub, Nat.reduceLeDiff, Nat.zero_add, Nat.add_zero, fn_X12_rateOf])
    exact ⟨by simp, hQ⟩
theorem ct_X12_isDue (l : Launch) : Con l yX12_isDue cX12_isDue 8 (Option.some FieldType.boolean) 1 pre_X12_isDue fn_X12_isDue := con_of (by decide +kernel) ok_X12_isDue len_X12_isDue (fun p e s m args below meth c D ca ad A as M hX hr hp ho => pf_X12_isDue _ _ (bsX12_isDue_0 hX hr) (bsX12_isDue_76 hX hr) (bsX12_isDue_77 hX hr) as M ho hp ⟨rfl, rfl⟩)
def ugW (M : mM) (r u : Nat) : Int32 := if M.1 r 50 ≤ 0 then 0 else if M.1 r (10 * u + 7) < M.1 r 50 then 0 else 1
def ug (M : mM) (r u : Nat) : Int32 := if M.1 r (10 * u + 5) ≤ 0 then (if ugW M r u = 0 then 0 else 1) else 2
def pre_X12_urgent (as : List mV) (M : mM) : Prop := ∃ c r u, as = [.inr (.inr (12, c)), .inr (.inr (13, r)), .inl u] ∧ ln r = 52 ∧ ∃ j, j < 5 ∧ u = nI j
def fn_X12_urgent : List mV → mM → Option mV × mM
  | [.inr (.inr (_, c)), .inr (.inr (_, r)), .inl u], M => (some (.inl (ug M r u.toNatClampNeg)), M)
  | _, M => (none, M)
theorem ok_X12_urgent (as : List mV) (M : mM) (h : pre_X12_urgent as M) (_ : ∀ v ∈ as, okV v) : okR (fn_X12_urgent as M).1 := by
  obtain ⟨c, r, u, rfl, -⟩ := h
  first | trivial | exact (by decide +kernel : kof 14 = 8)
theorem len_X12_urgent (as : List mV) (M : mM) (h : pre_X12_urgent as M) : (inL as).length ≤ 4 := by
  obtain ⟨c, r, u, rfl, -⟩ := h
  exact Nat.le_of_ble_eq_true rfl


theorem dX12_urgent_0 : decode cX12_urgent 0 = .ok (.aload_n 1, 1) := by decide +kernel
theorem dX12_urgent_1 : decode cX12_urgent 1 = .ok (.bipush 50, 2) := by decide +kernel
theorem dX12_urgent_3 : decode cX12_urgent 3 = .ok (.iaload, 1) := by decide +kernel
theorem dX12_urgent_4 : decode cX12_urgent 4 = .ok (.ifCond .le 23, 3) := by decide +kernel
theorem dX12_urgent_7 : decode cX12_urgent 7 = .ok (.aload_n 1, 1) := by decide +kernel
theorem dX12_urgent_8 : decode cX12_urgent 8 = .ok (.bipush 10, 2) := by decide +kernel
theorem dX12_urgent_10 : decode cX12_urgent 10 = .ok (.iload_n 2, 1) := by decide +kernel
theorem dX12_urgent_11 : decode cX12_urgent 11 = .ok (.imul, 1) := by decide +kernel
theorem dX12_urgent_12 : decode cX12_urgent 12 = .ok (.bipush 7, 2) := by decide +kernel
theorem dX12_urgent_14 : decode cX12_urgent 14 = .ok (.iadd, 1) := by decide +kernel
theorem dX12_urgent_15 : decode cX12_urgent 15 = .ok (.iaload, 1) := by decide +kernel
theorem dX12_urgent_16 : decode cX12_urgent 16 = .ok (.aload_n 1, 1) := by decide +kernel
theorem dX12_urgent_17 : decode cX12_urgent 17 = .ok (.bipush 50, 2) := by decide +kernel
theorem dX12_urgent_19 : decode cX12_urgent 19 = .ok (.iaload, 1) := by decide +kernel
theorem dX12_urgent_20 : decode cX12_urgent 20 = .ok (.if_icmp .lt 7, 3) := by decide +kernel
theorem dX12_urgent_23 : decode cX12_urgent 23 = .ok (.iconst 1, 1) := by decide +kernel
theorem dX12_urgent_24 : decode cX12_urgent 24 = .ok (.goto 4, 3) := by decide +kernel
theorem dX12_urgent_27 : decode cX12_urgent 27 = .ok (.iconst 0, 1) := by decide +kernel
theorem dX12_urgent_28 : decode cX12_urgent 28 = .ok (.istore_n 3, 1) := by decide +kernel
theorem dX12_urgent_29 : decode cX12_urgent 29 = .ok (.aload_n 1, 1) := by decide +kernel
theorem dX12_urgent_30 : decode cX12_urgent 30 = .ok (.bipush 10, 2) := by decide +kernel
theorem dX12_urgent_32 : decode cX12_urgent 32 = .ok (.iload_n 2, 1) := by decide +kernel
theorem dX12_urgent_33 : decode cX12_urgent 33 = .ok (.imul, 1) := by decide +kernel
theorem dX12_urgent_34 : decode cX12_urgent 34 = .ok (.iconst 5, 1) := by decide +kernel
theorem dX12_urgent_35 : decode cX12_urgent 35 = .ok (.iadd, 1) := by decide +kernel
theorem dX12_urgent_36 : decode cX12_urgent 36 = .ok (.iaload, 1) := by decide +kernel
theorem dX12_urgent_37 : decode cX12_urgent 37 = .ok (.ifCond .le 7, 3) := by decide +kernel
theorem dX12_urgent_40 : decode cX12_urgent 40 = .ok (.iconst 2, 1) := by decide +kernel
theorem dX12_urgent_41 : decode cX12_urgent 41 = .ok (.goto 12, 3) := by decide +kernel
theorem dX12_urgent_44 : decode cX12_urgent 44 = .ok (.iload_n 3, 1) := by decide +kernel
theorem dX12_urgent_45 : decode cX12_urgent 45 = .ok (.ifCond .eq 7, 3) := by decide +kernel
theorem dX12_urgent_48 : decode cX12_urgent 48 = .ok (.iconst 1, 1) := by decide +kernel
theorem dX12_urgent_49 : decode cX12_urgent 49 = .ok (.goto 4, 3) := by decide +kernel
theorem dX12_urgent_52 : decode cX12_urgent 52 = .ok (.iconst 0, 1) := by decide +kernel
theorem dX12_urgent_53 : decode cX12_urgent 53 = .ok (.ireturn, 1) := by decide +kernel
theorem mk_X12_urgent : MVk yX12_urgent "FairBlocksModel" cX12_urgent 4 (Option.some FieldType.int) 2 := ⟨w_904, w_903, wp_26, w_13, rfl, by decide +kernel, by decide +kernel, by decide +kernel⟩
def BX12_urgent_0 (G : Nat → KT) (Q : Option mV → mM → Prop) : KT := (s_aload 1 (s_iconst (50) (s_iald (s_if (fun x => x ≤ 0) (s_at G 27 [false, true, true, false]) (s_aload 1 (s_iconst (10) (s_iload 2 (s_bin (fun x y => x * y) (s_iconst (7) (s_bin (fun x y => x + y) (s_iald (s_aload 1 (s_iconst (50) (s_iald (s_icmp (fun x y => x < y) (s_at G 27 [false, true, true, false]) (s_iconst (1) (s_at G 28 [false, true, true, false])))))))))))))))))
set_option maxRecDepth 4000 in
theorem bsX12_urgent_0 {p : Program} {l : Launch} {e : Env} {s : State} {m : MethodId} {args : Array Value} {below : List Frame} {meth : Method} {c : Code} {D : va_G} {ca : Nat → ClassId} {ad : Nat → Nat} {A : Nat → Prop} {Q : Option mV → mM → Prop} (hX : CX p s m args meth c 4 cX12_urgent "FairBlocksModel" D ca ad A) (hr : meth.sig.returnType = (Option.some FieldType.int)) : ∀ lv st M, BX12_urgent_0 (Gd p l e (rmD 0) s m args below meth c 4 D ca ad A 0 0 (MQ below (QC D ca ad A Q) args s 0 0 A)) Q lv st M → Gd p l e (rmD 0) s m args below meth c 4 D ca ad A 0 0 (MQ below (QC D ca ad A Q) args s 0 0 A) 0 lv st M :=
  (sd_aload_n hX dX12_urgent_0 rfl (sd_bipush hX dX12_urgent_1 rfl (sd_iald hX dX12_urgent_3 (sd_if_le hX dX12_urgent_4 (by decide) sd_at (sd_aload_n hX dX12_urgent_7 rfl (sd_bipush hX dX12_urgent_8 rfl (sd_iload_n hX dX12_urgent_10 rfl (sd_imul hX dX12_urgent_11 (sd_bipush hX dX12_urgent_12 rfl (sd_iadd hX dX12_urgent_14 (sd_iald hX dX12_urgent_15 (sd_aload_n hX dX12_urgent_16 rfl (sd_bipush hX dX12_urgent_17 rfl (sd_iald hX dX12_urgent_19 (sd_icmp_lt hX dX12_urgent_20 (by decide) sd_at (sd_iconst hX dX12_urgent_23 rfl (sd_goto hX dX12_urgent_24 (by decide) sd_at)))))))))))))))))
def BX12_urgent_27 (G : Nat → KT) (Q : Option mV → mM → Prop) : KT := (s_iconst (0) (s_at G 28 [false, true, true, false]))
set_option maxRecDepth 4000 in
theorem bsX12_urgent_27 {p : Program} {l : Launch} {e : Env} {s : State} {m : MethodId} {args : Array Value} {below : List Frame} {meth : Method} {c : Code} {D : va_G} {ca : Nat → ClassId} {ad : Nat → Nat} {A : Nat → Prop} {Q : Option mV → mM → Prop} (hX : CX p s m args meth c 4 cX12_urgent "FairBlocksModel" D ca ad A) (hr : meth.sig.returnType = (Option.some FieldType.int)) : ∀ lv st M, BX12_urgent_27 (Gd p l e (rmD 0) s m args below meth c 4 D ca ad A 0 0 (MQ below (QC D ca ad A Q) args s 0 0 A)) Q lv st M → Gd p l e (rmD 0) s m args below meth c 4 D ca ad A 0 0 (MQ below (QC D ca ad A Q) args s 0 0 A) 27 lv st M :=
  (sd_iconst hX dX12_urgent_27 rfl sd_at)
def BX12_urgent_28 (G : Nat → KT) (Q : Option mV → mM → Prop) : KT := (s_istore 3 (s_aload 1 (s_iconst (10) (s_iload 2 (s_bin (fun x y => x * y) (s_iconst (5) (s_bin (fun x y => x + y) (s_iald (s_if (fun x => x ≤ 0) (s_at G 44 [false, false, false, true]) (s_iconst (2) (s_at G 53 [false, false, false, false])))))))))))
set_option maxRecDepth 4000 in
theorem bsX12_urgent_28 {p : Program} {l : Launch} {e : Env} {s : State} {m : MethodId} {args : Array Value} {below : List Frame} {meth : Method} {c : Code} {D : va_G} {ca : Nat → ClassId} {ad : Nat → Nat} {A : Nat → Prop} {Q : Option mV → mM → Prop} (hX : CX p s m args meth c 4 cX12_urgent "FairBlocksModel" D ca ad A) (hr : meth.sig.returnType = (Option.some FieldType.int)) : ∀ lv st M, BX12_urgent_28 (Gd p l e (rmD 0) s m args below meth c 4 D ca ad A 0 0 (MQ below (QC D ca ad A Q) args s 0 0 A)) Q lv st M → Gd p l e (rmD 0) s m args below meth c 4 D ca ad A 0 0 (MQ below (QC D ca ad A Q) args s 0 0 A) 28 lv st M :=
  (sd_istore_n hX (by decide) dX12_urgent_28 rfl (sd_aload_n hX dX12_urgent_29 rfl (sd_bipush hX dX12_urgent_30 rfl (sd_iload_n hX dX12_urgent_32 rfl (sd_imul hX dX12_urgent_33 (sd_iconst hX dX12_urgent_34 rfl (sd_iadd hX dX12_urgent_35 (sd_iald hX dX12_urgent_36 (sd_if_le hX dX12_urgent_37 (by decide) sd_at (sd_iconst hX dX12_urgent_40 rfl (sd_goto hX dX12_urgent_41 (by decide) sd_at)))))))))))
def BX12_urgent_44 (G : Nat → KT) (Q : Option mV → mM → Prop) : KT := (s_iload 3 (s_if (fun x => x = 0) (s_at G 52 [false, false, false, false]) (s_iconst (1) (s_at G 53 [false, false, false, false]))))
set_option maxRecDepth 4000 in
theorem bsX12_urgent_44 {p : Program} {l : Launch} {e : Env} {s : State} {m : MethodId} {args : Array Value} {below : List Frame} {meth : Method} {c : Code} {D : va_G} {ca : Nat → ClassId} {ad : Nat → Nat} {A : Nat → Prop} {Q : Option mV → mM → Prop} (hX : CX p s m args meth c 4 cX12_urgent "FairBlocksModel" D ca ad A) (hr : meth.sig.returnType = (Option.some FieldType.int)) : ∀ lv st M, BX12_urgent_44 (Gd p l e (rmD 0) s m args below meth c 4 D ca ad A 0 0 (MQ below (QC D ca ad A Q) args s 0 0 A)) Q lv st M → Gd p l e (rmD 0) s m args below meth c 4 D ca ad A 0 0 (MQ below (QC D ca ad A Q) args s 0 0 A) 44 lv st M :=
  (sd_iload_n hX dX12_urgent_44 rfl (sd_if_eq hX dX12_urgent_45 (by decide) sd_at (sd_iconst hX dX12_urgent_48 rfl (sd_goto hX dX12_urgent_49 (by decide) sd_at))))
def BX12_urgent_52 (G : Nat → KT) (Q : Option mV → mM → Prop) : KT := (s_iconst (0) (s_at G 53 [false, false, false, false]))
set_option maxRecDepth 4000 in
theorem bsX12_urgent_52 {p : Program} {l : Launch} {e : Env} {s : State} {m : MethodId} {args : Array Value} {below : List Frame} {meth : Method} {c : Code} {D : va_G} {ca : Nat → ClassId} {ad : Nat → Nat} {A : Nat → Prop} {Q : Option mV → mM → Prop} (hX : CX p s m args meth c 4 cX12_urgent "FairBlocksModel" D ca ad A) (hr : meth.sig.returnType = (Option.some FieldType.int)) : ∀ lv st M, BX12_urgent_52 (Gd p l e (rmD 0) s m args below meth c 4 D ca ad A 0 0 (MQ below (QC D ca ad A Q) args s 0 0 A)) Q lv st M → Gd p l e (rmD 0) s m args below meth c 4 D ca ad A 0 0 (MQ below (QC D ca ad A Q) args s 0 0 A) 52 lv st M :=
  (sd_iconst hX dX12_urgent_52 rfl sd_at)
def BX12_urgent_53 (G : Nat → KT) (Q : Option mV → mM → Prop) : KT := (s_iret Q)
set_option maxRecDepth 4000 in
theorem bsX12_urgent_53 {p : Program} {l : Launch} {e : Env} {s : State} {m : MethodId} {args : Array Value} {below : List Frame} {meth : Method} {c : Code} {D : va_G} {ca : Nat → ClassId} {ad : Nat → Nat} {A : Nat → Prop} {Q : Option mV → mM → Prop} (hX : CX p s m args meth c 4 cX12_urgent "FairBlocksModel" D ca ad A) (hr : meth.sig.returnType = (Option.some FieldType.int)) : ∀ lv st M, BX12_urgent_53 (Gd p l e (rmD 0) s m args below meth c 4 D ca ad A 0 0 (MQ below (QC D ca ad A Q) args s 0 0 A)) Q lv st M → Gd p l e (rmD 0) s m args below meth c 4 D ca ad A 0 0 (MQ below (QC D ca ad A Q) args s 0 0 A) 53 lv st M :=
  sd_iret hX hr dX12_urgent_53
set_option maxHeartbeats 400000 in
theorem pf_X12_urgent (G : Nat → KT) (Q : Option mV → mM → Prop) (h0 : ∀ lv st M, BX12_urgent_0 G Q lv st M → G 0 lv st M) (h27 : ∀ lv st M, BX12_urgent_27 G Q lv st M → G 27 lv st M) (h28 : ∀ lv st M, BX12_urgent_28 G Q lv st M → G 28 lv st M) (h44 : ∀ lv st M, BX12_urgent_44 G Q lv st M → G 44 lv st M) (h52 : ∀ lv st M, BX12_urgent_52 G Q lv st M → G 52 lv st M) (h53 : ∀ lv st M, BX12_urgent_53 G Q lv st M → G 53 lv st M) (as : List mV) (M : mM) (ho : ∀ v ∈ as, okV v) (hp : pre_X12_urgent as M) (hQ : Q (fn_X12_urgent as M).1 (fn_X12_urgent as M).2) : G 0 (inL as ++ List.replicate (4 - (inL as).length) none) [] M := by
  obtain ⟨c, r, u, rfl, hl, U, hU, rfl⟩ := hp
  have eU : (nI U).toNatClampNeg = U := nI_clamp (by omega)
  have c50 : Int32.toNatClampNeg 50 = 50 := by decide
  have v50 : vp_in 50 52 := vp_in_nI (n := 50) (by decide) (by decide)
  have x0 : ((10 : Int32) * nI U + 0).toNatClampNeg = 10 * U + 0 := cx hU 0 (by decide)
  have v0 : vp_in ((10 : Int32) * nI U + 0) 52 := vx hU 0 (by decide)
  have x1 : ((10 : Int32) * nI U + 1).toNatClampNeg = 10 * U + 1 := cx hU 1 (by decide)
  have v1 : vp_in ((10 : Int32) * nI U + 1) 52 := vx hU 1 (by decide)
  have x2 : ((10 : Int32) * nI U + 2).toNatClampNeg = 10 * U + 2 := cx hU 2 (by decide)
  have v2 : vp_in ((10 : Int32) * nI U + 2) 52 := vx hU 2 (by decide)
  have x3 : ((10 : Int32) * nI U + 3).toNatClampNeg = 10 * U + 3 := cx hU 3 (by decide)
  have v3 : vp_in ((10 : Int32) * nI U + 3) 52 := vx hU 3 (by decide)
  have x4 : ((10 : Int32) * nI U + 4).toNatClampNeg = 10 * U + 4 := cx hU 4 (by decide)
  have v4 : vp_in ((10 : Int32) * nI U + 4) 52 := vx hU 4 (by decide)
  have x5 : ((10 : Int32) * nI U + 5).toNatClampNeg = 10 * U + 5 := cx hU 5 (by decide)
  have v5 : vp_in ((10 : Int32) * nI U + 5) 52 := vx hU 5 (by decide)
  have x6 : ((10 : Int32) * nI U + 6).toNatClampNeg = 10 * U + 6 := cx hU 6 (by decide)
  have v6 : vp_in ((10 : Int32) * nI U + 6) 52 := vx hU 6 (by decide)
  have x7 : ((10 : Int32) * nI U + 7).toNatClampNeg = 10 * U + 7 := cx hU 7 (by decide)
  have v7 : vp_in ((10 : Int32) * nI U + 7) 52 := vx hU 7 (by decide)
  have x8 : ((10 : Int32) * nI U + 8).toNatClampNeg = 10 * U + 8 := cx hU 8 (by decide)
  have v8 : vp_in ((10 : Int32) * nI U + 8) 52 := vx hU 8 (by decide)
  have x9 : ((10 : Int32) * nI U + 9).toNatClampNeg = 10 * U + 9 := cx hU 9 (by decide)
  have v9 : vp_in ((10 : Int32) * nI U + 9) 52 := vx hU 9 (by decide)
  simp only [fn_X12_urgent, ug, eU] at hQ
  have L : ∀ w, w = ugW M r U → G 28 [none, some (.inr (.inr (13, r))), some (.inl (nI U)), none] [.inl w] M := by
    intro w ew
    rw [← ew] at hQ
    (apply h28; simp only [BX12_urgent_28, s_mth, s_mab, s_at, s_iconst, s_lconst, s_iload, s_lload, s_aload, s_istore, s_lstore, s_astore, s_iinc, s_bin, s_binG, s_un, s_lbin, s_lbinG, s_lsh, s_lcmp, s_i2l, s_l2i, s_dup, s_dup2, s_pop, s_if, s_icmp, s_geti, s_getl, s_getr, s_puti, s_putz, s_putl, s_iald, s_zald, s_iast, s_zast, s_aaldS, s_aaldU, s_gets, s_tald, s_tsw, tsw, s_iret, s_zret, s_lret, s_aret, s_vret, s_callV, s_callS, c1, nl1, keepL, csum, pushR, inL, List.getD_cons_zero, List.getD_cons_succ, List.set_cons_zero, List.set_cons_succ, List.cons_append, List.nil_append, List.append_nil, List.replicate, List.length_cons, List.length_nil, List.take_succ_cons, List.take_zero, List.drop_succ_cons, List.drop_zero, List.reverse_cons, List.reverse_nil, true_and, and_true, forall_const, not_true_eq_false, not_false_eq_true, false_implies, true_implies, implies_true, one0, m10, Nat.reduceAdd, Nat.reduceSub, Nat.reduceLeDiff, Nat.zero_add, Nat.add_zero])
    simp only [hl, x5]
    refine ⟨v5, fun h => ?_, fun h => ?_⟩
    · rw [if_pos h] at hQ
      (apply h44; simp only [BX12_urgent_44, s_mth, s_mab, s_at, s_iconst, s_lconst, s_iload, s_lload, s_aload, s_istore, s_lstore, s_astore, s_iinc, s_bin, s_binG, s_un, s_lbin, s_lbinG, s_lsh, s_lcmp, s_i2l, s_l2i, s_dup, s_dup2, s_pop, s_if, s_icmp, s_geti, s_getl, s_getr, s_puti, s_putz, s_putl, s_iald, s_zald, s_iast, s_zast, s_aaldS, s_aaldU, s_gets, s_tald, s_tsw, tsw, s_iret, s_zret, s_lret, s_aret, s_vret, s_callV, s_callS, c1, nl1, keepL, csum, pushR, inL, List.getD_cons_zero, List.getD_cons_succ, List.set_cons_zero, List.set_cons_succ, List.cons_append, List.nil_append, List.append_nil, List.replicate, List.length_cons, List.length_nil, List.take_succ_cons, List.take_zero, List.drop_succ_cons, List.drop_zero, List.reverse_cons, List.reverse_nil, true_and, and_true, forall_const, not_true_eq_false, not_false_eq_true, false_implies, true_implies, implies_true, one0, m10, Nat.reduceAdd, Nat.reduceSub, Nat.reduceLeDiff, Nat.zero_add, Nat.add_zero])
      refine ⟨fun h2 => ?_, fun h2 => ?_⟩
      · rw [if_pos h2] at hQ
        (apply h52; simp only [BX12_urgent_52, s_mth, s_mab, s_at, s_iconst, s_lconst, s_iload, s_lload, s_aload, s_istore, s_lstore, s_astore, s_iinc, s_bin, s_binG, s_un, s_lbin, s_lbinG, s_lsh, s_lcmp, s_i2l, s_l2i, s_dup, s_dup2, s_pop, s_if, s_icmp, s_geti, s_getl, s_getr, s_puti, s_putz, s_putl, s_iald, s_zald, s_iast, s_zast, s_aaldS, s_aaldU, s_gets, s_tald, s_tsw, tsw, s_iret, s_zret, s_lret, s_aret, s_vret, s_callV, s_callS, c1, nl1, keepL, csum, pushR, inL, List.getD_cons_zero, List.getD_cons_succ, List.set_cons_zero, List.set_cons_succ, List.cons_append, List.nil_append, List.append_nil, List.replicate, List.length_cons, List.length_nil, List.take_succ_cons, List.take_zero, List.drop_succ_cons, List.drop_zero, List.reverse_cons, List.reverse_nil, true_and, and_true, forall_const, not_true_eq_false, not_false_eq_true, false_implies, true_implies, implies_true, one0, m10, Nat.reduceAdd, Nat.reduceSub, Nat.reduceLeDiff, Nat.zero_add, Nat.add_zero])
        (apply h53; simp only [BX12_urgent_53, s_mth, s_mab, s_at, s_iconst, s_lconst, s_iload, s_lload, s_aload, s_istore, s_lstore, s_astore, s_iinc, s_bin, s_binG, s_un, s_lbin, s_lbinG, s_lsh, s_lcmp, s_i2l, s_l2i, s_dup, s_dup2, s_pop, s_if, s_icmp, s_geti, s_getl, s_getr, s_puti, s_putz, s_putl, s_iald, s_zald, s_iast, s_zast, s_aaldS, s_aaldU, s_gets, s_tald, s_tsw, tsw, s_iret, s_zret, s_lret, s_aret, s_vret, s_callV, s_callS, c1, nl1, keepL, csum, pushR, inL, List.getD_cons_zero, List.getD_cons_succ, List.set_cons_zero, List.set_cons_succ, List.cons_append, List.nil_append, List.append_nil, List.replicate, List.length_cons, List.length_nil, List.take_succ_cons, List.take_zero, List.drop_succ_cons, List.drop_zero, List.reverse_cons, List.reverse_nil, true_and, and_true, forall_const, not_true_eq_false, not_false_eq_true, false_implies, true_implies, implies_true, one0, m10, Nat.reduceAdd, Nat.reduceSub, Nat.reduceLeDiff, Nat.zero_add, Nat.add_zero])
        exact hQ
      · rw [if_neg h2] at hQ
        (apply h53; simp only [BX12_urgent_53, s_mth, s_mab, s_at, s_iconst, s_lconst, s_iload, s_lload, s_aload, s_istore, s_lstore, s_astore, s_iinc, s_bin, s_binG, s_un, s_lbin, s_lbinG, s_lsh, s_lcmp, s_i2l, s_l2i, s_dup, s_dup2, s_pop, s_if, s_icmp, s_geti, s_getl, s_getr, s_puti, s_putz, s_putl, s_iald, s_zald, s_iast, s_zast, s_aaldS, s_aaldU, s_gets, s_tald, s_tsw, tsw, s_iret, s_zret, s_lret, s_aret, s_vret, s_callV, s_callS, c1, nl1, keepL, csum, pushR, inL, List.getD_cons_zero, List.getD_cons_succ, List.set_cons_zero, List.set_cons_succ, List.cons_append, List.nil_append, List.append_nil, List.replicate, List.length_cons, List.length_nil, List.take_succ_cons, List.take_zero, List.drop_succ_cons, List.drop_zero, List.reverse_cons, List.reverse_nil, true_and, and_true, forall_const, not_true_eq_false, not_false_eq_true, false_implies, true_implies, implies_true, one0, m10, Nat.reduceAdd, Nat.reduceSub, Nat.reduceLeDiff, Nat.zero_add, Nat.add_zero])
        exact hQ
    · rw [if_neg h] at hQ
      (apply h53; simp only [BX12_urgent_53, s_mth, s_mab, s_at, s_iconst, s_lconst, s_iload, s_lload, s_aload, s_istore, s_lstore, s_astore, s_iinc, s_bin, s_binG, s_un, s_lbin, s_lbinG, s_lsh, s_lcmp, s_i2l, s_l2i, s_dup, s_dup2, s_pop, s_if, s_icmp, s_geti, s_getl, s_getr, s_puti, s_putz, s_putl, s_iald, s_zald, s_iast, s_zast, s_aaldS, s_aaldU, s_gets, s_tald, s_tsw, tsw, s_iret, s_zret, s_lret, s_aret, s_vret, s_callV, s_callS, c1, nl1, keepL, csum, pushR, inL, List.getD_cons_zero, List.getD_cons_succ, List.set_cons_zero, List.set_cons_succ, List.cons_append, List.nil_append, List.append_nil, List.replicate, List.length_cons, List.length_nil, List.take_succ_cons, List.take_zero, List.drop_succ_cons, List.drop_zero, List.reverse_cons, List.reverse_nil, true_and, and_true, forall_const, not_true_eq_false, not_false_eq_true, false_implies, true_implies, implies_true, one0, m10, Nat.reduceAdd, Nat.reduceSub, Nat.reduceLeDiff, Nat.zero_add, Nat.add_zero])
      exact hQ
  (apply h0; simp only [BX12_urgent_0, s_mth, s_mab, s_at, s_iconst, s_lconst, s_iload, s_lload, s_aload, s_istore, s_lstore, s_astore, s_iinc, s_bin, s_binG, s_un, s_lbin, s_lbinG, s_lsh, s_lcmp, s_i2l, s_l2i, s_dup, s_dup2, s_pop, s_if, s_icmp, s_geti, s_getl, s_getr, s_puti, s_putz, s_putl, s_iald, s_zald, s_iast, s_zast, s_aaldS, s_aaldU, s_gets, s_tald, s_tsw, tsw, s_iret, s_zret, s_lret, s_aret, s_vret, s_callV, s_callS, c1, nl1, keepL, csum, pushR, inL, List.getD_cons_zero, List.getD_cons_succ, List.set_cons_zero, List.set_cons_succ, List.cons_append, List.nil_append, List.append_nil, List.replicate, List.length_cons, List.length_nil, List.take_succ_cons, List.take_zero, List.drop_succ_cons, List.drop_zero, List.reverse_cons, List.reverse_nil, true_and, and_true, forall_const, not_true_eq_false, not_false_eq_true, false_implies, true_implies, implies_true, one0, m10, Nat.reduceAdd, Nat.reduceSub, Nat.reduceLeDiff, Nat.zero_add, Nat.add_zero])
  simp only [hl, x7, c50]
  refine ⟨v50, fun h => ?_, fun h => ⟨v7, v50, fun h2 => ?_, fun h2 => ?_⟩⟩
  · (apply h27; simp only [BX12_urgent_27, s_mth, s_mab, s_at, s_iconst, s_lconst, s_iload, s_lload, s_aload, s_istore, s_lstore, s_astore, s_iinc, s_bin, s_binG, s_un, s_lbin, s_lbinG, s_lsh, s_lcmp, s_i2l, s_l2i, s_dup, s_dup2, s_pop, s_if, s_icmp, s_geti, s_getl, s_getr, s_puti, s_putz, s_putl, s_iald, s_zald, s_iast, s_zast, s_aaldS, s_aaldU, s_gets, s_tald, s_tsw, tsw, s_iret, s_zret, s_lret, s_aret, s_vret, s_callV, s_callS, c1, nl1, keepL, csum, pushR, inL, List.getD_cons_zero, List.getD_cons_succ, List.set_cons_zero, List.set_cons_succ, List.cons_append, List.nil_append, List.append_nil, List.replicate, List.length_cons, List.length_nil, List.take_succ_cons, List.take_zero, List.drop_succ_cons, List.drop_zero, List.reverse_cons, List.reverse_nil, true_and, and_true, forall_const, not_true_eq_false, not_false_eq_true, false_implies, true_implies, implies_true, one0, m10, Nat.reduceAdd, Nat.reduceSub, Nat.reduceLeDiff, Nat.zero_add, Nat.add_zero])
    exact L 0 (by rw [ugW, if_pos h])
  · (apply h27; simp only [BX12_urgent_27, s_mth, s_mab, s_at, s_iconst, s_lconst, s_iload, s_lload, s_aload, s_istore, s_lstore, s_astore, s_iinc, s_bin, s_binG, s_un, s_lbin, s_lbinG, s_lsh, s_lcmp, s_i2l, s_l2i, s_dup, s_dup2, s_pop, s_if, s_icmp, s_geti, s_getl, s_getr, s_puti, s_putz, s_putl, s_iald, s_zald, s_iast, s_zast, s_aaldS, s_aaldU, s_gets, s_tald, s_tsw, tsw, s_iret, s_zret, s_lret, s_aret, s_vret, s_callV, s_callS, c1, nl1, keepL, csum, pushR, inL, List.getD_cons_zero, List.getD_cons_succ, List.set_cons_zero, List.set_cons_succ, List.cons_append, List.nil_append, List.append_nil, List.replicate, List.length_cons, List.length_nil, List.take_succ_cons, List.take_zero, List.drop_succ_cons, List.drop_zero, List.reverse_cons, List.reverse_nil, true_and, and_true, forall_const, not_true_eq_false, not_false_eq_true, false_implies, true_implies, implies_true, one0, m10, Nat.reduceAdd, Nat.reduceSub, Nat.reduceLeDiff, Nat.zero_add, Nat.add_zero])
    exact L 0 (by rw [ugW, if_neg h, if_pos h2])
  · exact L 1 (by rw [ugW, if_neg h, if_neg h2])
theorem ct_X12_urgent (l : Launch) : Con l yX12_urgent cX12_urgent 4 (Option.some FieldType.int) 0 pre_X12_urgent fn_X12_urgent := con_of (by decide +kernel) ok_X12_urgent len_X12_urgent (fun p e s m args below meth c D ca ad A as M hX hr hp ho => pf_X12_urgent _ _ (bsX12_urgent_0 hX hr) (bsX12_urgent_27 hX hr) (bsX12_urgent_28 hX hr) (bsX12_urgent_44 hX hr) (bsX12_urgent_52 hX hr) (bsX12_urgent_53 hX hr) as M ho hp ⟨rfl, rfl⟩)
