theorem one0 : ((1 : Int32) = 0) = False := by decide
theorem m10 : ((-1 : Int32) = 0) = False := by decide
theorem l1_11 : ∀ i, i ≠ 11 → (fTL.getD 11 [])[i]? ≠ some 2 := by
  intro i hi h
  have hl := (List.getElem?_eq_some_iff.mp h).1
  have h2 : ∀ j, j < 12 → j ≠ 11 → (fTL.getD 11 [])[j]? ≠ some 2 := by decide +kernel
  exact h2 i hl hi h
theorem l1_12 : ∀ i, i ≠ 29 → (fTL.getD 12 [])[i]? ≠ some 2 := by
  intro i hi h
  have hl := (List.getElem?_eq_some_iff.mp h).1
  have h2 : ∀ j, j < 32 → j ≠ 29 → (fTL.getD 12 [])[j]? ≠ some 2 := by decide +kernel
  exact h2 i hl hi h
def bI (c : Prop) [Decidable c] : Int32 := if c then 1 else 0
theorem bI_0 {c : Prop} [Decidable c] : bI c = 0 ↔ ¬ c := by unfold bI; split <;> simp_all
theorem bI_t {c : Prop} [Decidable c] (h : c) : bI c = 1 := by unfold bI; rw [if_pos h]
theorem bI_f {c : Prop} [Decidable c] (h : ¬ c) : bI c = 0 := by unfold bI; rw [if_neg h]
theorem bI_z {c : Prop} [Decidable c] : bI c = 0 ∨ bI c = 1 := by unfold bI; split <;> simp
def itr {S : Type} (f : Nat → S → S) : Nat → Nat → S → S
  | _, 0, s => s
  | i, n + 1, s => itr f (i + 1) n (f i s)
def rm (x y : Int32) : Int32 := x - x / y * y
theorem wm_min : Cond.code Lib.Math.min.name Lib.Math.min.code 2 (some .int) ∈ gw := gm 460 (by decide +kernel) rfl
theorem wm_max : Cond.code Lib.Math.max.name Lib.Math.max.code 2 (some .int) ∈ gw := gm 533 (by decide +kernel) rfl
theorem wm_abs : Cond.code Lib.Math.abs.name Lib.Math.abs.code 1 (some .int) ∈ gw := gm 666 (by decide +kernel) rfl
def us (x y : Int32) : Int32 := (x.toUInt32 >>> (y.toUInt32 &&& Int32.toUInt32 31)).toInt32
def bc1 (x : Int32) : Int32 := x - (us x 1 &&& 1431655765)
def bc2 (x : Int32) : Int32 := (x &&& 858993459) + (us x 2 &&& 858993459)
def bc3 (x : Int32) : Int32 := (x + us x 4) &&& 252645135
def bc (x : Int32) : Int32 := (bc3 (bc2 (bc1 x)) + us (bc3 (bc2 (bc1 x))) 8 + us (bc3 (bc2 (bc1 x)) + us (bc3 (bc2 (bc1 x))) 8) 16) &&& 63
def pre_J6_bitCount_0f7a4 (as : List mV) (M : mM) : Prop := ∃ x, as = [.inl x]
def fn_J6_bitCount_0f7a4 : List mV → mM → Option mV × mM
  | [.inl x], M => (some (.inl (bc x)), M)
  | _, M => (none, M)
theorem ok_J6_bitCount_0f7a4 (as : List mV) (M : mM) (h : pre_J6_bitCount_0f7a4 as M) (_ : ∀ v ∈ as, okV v) : okR (fn_J6_bitCount_0f7a4 as M).1 := by
  obtain ⟨x, rfl⟩ := h
  first | trivial | exact (by decide +kernel : kof 14 = 8)
theorem len_J6_bitCount_0f7a4 (as : List mV) (M : mM) (h : pre_J6_bitCount_0f7a4 as M) : (inL as).length ≤ 1 := by
  obtain ⟨x, rfl⟩ := h
  exact Nat.le_of_ble_eq_true rfl


theorem dJ6_bitCount_0f7a4_0 : decode cJ6_bitCount_0f7a4 0 = .ok (.iload_n 0, 1) := by decide +kernel
theorem dJ6_bitCount_0f7a4_1 : decode cJ6_bitCount_0f7a4 1 = .ok (.iload_n 0, 1) := by decide +kernel
theorem dJ6_bitCount_0f7a4_2 : decode cJ6_bitCount_0f7a4 2 = .ok (.iconst 1, 1) := by decide +kernel
theorem dJ6_bitCount_0f7a4_3 : decode cJ6_bitCount_0f7a4 3 = .ok (.iushr, 1) := by decide +kernel
theorem dJ6_bitCount_0f7a4_4 : decode cJ6_bitCount_0f7a4 4 = .ok (.ldc_w 265, 3) := by decide +kernel
theorem dJ6_bitCount_0f7a4_7 : decode cJ6_bitCount_0f7a4 7 = .ok (.iand, 1) := by decide +kernel
theorem dJ6_bitCount_0f7a4_8 : decode cJ6_bitCount_0f7a4 8 = .ok (.isub, 1) := by decide +kernel
theorem dJ6_bitCount_0f7a4_9 : decode cJ6_bitCount_0f7a4 9 = .ok (.istore_n 0, 1) := by decide +kernel
theorem dJ6_bitCount_0f7a4_10 : decode cJ6_bitCount_0f7a4 10 = .ok (.iload_n 0, 1) := by decide +kernel
theorem dJ6_bitCount_0f7a4_11 : decode cJ6_bitCount_0f7a4 11 = .ok (.ldc_w 266, 3) := by decide +kernel
theorem dJ6_bitCount_0f7a4_14 : decode cJ6_bitCount_0f7a4 14 = .ok (.iand, 1) := by decide +kernel
theorem dJ6_bitCount_0f7a4_15 : decode cJ6_bitCount_0f7a4 15 = .ok (.iload_n 0, 1) := by decide +kernel
theorem dJ6_bitCount_0f7a4_16 : decode cJ6_bitCount_0f7a4 16 = .ok (.iconst 2, 1) := by decide +kernel
theorem dJ6_bitCount_0f7a4_17 : decode cJ6_bitCount_0f7a4 17 = .ok (.iushr, 1) := by decide +kernel
theorem dJ6_bitCount_0f7a4_18 : decode cJ6_bitCount_0f7a4 18 = .ok (.ldc_w 266, 3) := by decide +kernel
theorem dJ6_bitCount_0f7a4_21 : decode cJ6_bitCount_0f7a4 21 = .ok (.iand, 1) := by decide +kernel
theorem dJ6_bitCount_0f7a4_22 : decode cJ6_bitCount_0f7a4 22 = .ok (.iadd, 1) := by decide +kernel
theorem dJ6_bitCount_0f7a4_23 : decode cJ6_bitCount_0f7a4 23 = .ok (.istore_n 0, 1) := by decide +kernel
theorem dJ6_bitCount_0f7a4_24 : decode cJ6_bitCount_0f7a4 24 = .ok (.iload_n 0, 1) := by decide +kernel
theorem dJ6_bitCount_0f7a4_25 : decode cJ6_bitCount_0f7a4 25 = .ok (.iload_n 0, 1) := by decide +kernel
theorem dJ6_bitCount_0f7a4_26 : decode cJ6_bitCount_0f7a4 26 = .ok (.iconst 4, 1) := by decide +kernel
theorem dJ6_bitCount_0f7a4_27 : decode cJ6_bitCount_0f7a4 27 = .ok (.iushr, 1) := by decide +kernel
theorem dJ6_bitCount_0f7a4_28 : decode cJ6_bitCount_0f7a4 28 = .ok (.iadd, 1) := by decide +kernel
theorem dJ6_bitCount_0f7a4_29 : decode cJ6_bitCount_0f7a4 29 = .ok (.ldc_w 267, 3) := by decide +kernel
theorem dJ6_bitCount_0f7a4_32 : decode cJ6_bitCount_0f7a4 32 = .ok (.iand, 1) := by decide +kernel
theorem dJ6_bitCount_0f7a4_33 : decode cJ6_bitCount_0f7a4 33 = .ok (.istore_n 0, 1) := by decide +kernel
theorem dJ6_bitCount_0f7a4_34 : decode cJ6_bitCount_0f7a4 34 = .ok (.iload_n 0, 1) := by decide +kernel
theorem dJ6_bitCount_0f7a4_35 : decode cJ6_bitCount_0f7a4 35 = .ok (.iload_n 0, 1) := by decide +kernel
theorem dJ6_bitCount_0f7a4_36 : decode cJ6_bitCount_0f7a4 36 = .ok (.bipush 8, 2) := by decide +kernel
theorem dJ6_bitCount_0f7a4_38 : decode cJ6_bitCount_0f7a4 38 = .ok (.iushr, 1) := by decide +kernel
theorem dJ6_bitCount_0f7a4_39 : decode cJ6_bitCount_0f7a4 39 = .ok (.iadd, 1) := by decide +kernel
theorem dJ6_bitCount_0f7a4_40 : decode cJ6_bitCount_0f7a4 40 = .ok (.istore_n 0, 1) := by decide +kernel
theorem dJ6_bitCount_0f7a4_41 : decode cJ6_bitCount_0f7a4 41 = .ok (.iload_n 0, 1) := by decide +kernel
theorem dJ6_bitCount_0f7a4_42 : decode cJ6_bitCount_0f7a4 42 = .ok (.iload_n 0, 1) := by decide +kernel
theorem dJ6_bitCount_0f7a4_43 : decode cJ6_bitCount_0f7a4 43 = .ok (.bipush 16, 2) := by decide +kernel
theorem dJ6_bitCount_0f7a4_45 : decode cJ6_bitCount_0f7a4 45 = .ok (.iushr, 1) := by decide +kernel
theorem dJ6_bitCount_0f7a4_46 : decode cJ6_bitCount_0f7a4 46 = .ok (.iadd, 1) := by decide +kernel
theorem dJ6_bitCount_0f7a4_47 : decode cJ6_bitCount_0f7a4 47 = .ok (.istore_n 0, 1) := by decide +kernel
theorem dJ6_bitCount_0f7a4_48 : decode cJ6_bitCount_0f7a4 48 = .ok (.iload_n 0, 1) := by decide +kernel
theorem dJ6_bitCount_0f7a4_49 : decode cJ6_bitCount_0f7a4 49 = .ok (.bipush 63, 2) := by decide +kernel
theorem dJ6_bitCount_0f7a4_51 : decode cJ6_bitCount_0f7a4 51 = .ok (.iand, 1) := by decide +kernel
theorem dJ6_bitCount_0f7a4_52 : decode cJ6_bitCount_0f7a4 52 = .ok (.ireturn, 1) := by decide +kernel
theorem mk_J6_bitCount_0f7a4 : MSk yJ6_bitCount_0f7a4 cJ6_bitCount_0f7a4 1 (Option.some FieldType.int) 1 := ⟨w_645, w_644, w_15, by decide +kernel, by decide +kernel, by decide +kernel⟩
def BJ6_bitCount_0f7a4_0 (G : Nat → KT) (Q : Option mV → mM → Prop) : KT := (s_iload 0 (s_iload 0 (s_iconst (1) (s_bin (fun x y => (x.toUInt32 >>> (y.toUInt32 &&& Int32.toUInt32 31)).toInt32) (s_iconst (1431655765) (s_bin (fun x y => x &&& y) (s_bin (fun x y => x - y) (s_istore 0 (s_iload 0 (s_iconst (858993459) (s_bin (fun x y => x &&& y) (s_iload 0 (s_iconst (2) (s_bin (fun x y => (x.toUInt32 >>> (y.toUInt32 &&& Int32.toUInt32 31)).toInt32) (s_iconst (858993459) (s_bin (fun x y => x &&& y) (s_bin (fun x y => x + y) (s_istore 0 (s_iload 0 (s_iload 0 (s_iconst (4) (s_bin (fun x y => (x.toUInt32 >>> (y.toUInt32 &&& Int32.toUInt32 31)).toInt32) (s_bin (fun x y => x + y) (s_iconst (252645135) (s_bin (fun x y => x &&& y) (s_istore 0 (s_iload 0 (s_iload 0 (s_iconst (8) (s_bin (fun x y => (x.toUInt32 >>> (y.toUInt32 &&& Int32.toUInt32 31)).toInt32) (s_bin (fun x y => x + y) (s_istore 0 (s_iload 0 (s_iload 0 (s_iconst (16) (s_bin (fun x y => (x.toUInt32 >>> (y.toUInt32 &&& Int32.toUInt32 31)).toInt32) (s_bin (fun x y => x + y) (s_istore 0 (s_iload 0 (s_iconst (63) (s_bin (fun x y => x &&& y) (s_iret Q))))))))))))))))))))))))))))))))))))))))))
set_option maxRecDepth 4000 in
theorem bsJ6_bitCount_0f7a4_0 {p : Program} {l : Launch} {e : Env} {s : State} {m : MethodId} {args : Array Value} {below : List Frame} {meth : Method} {c : Code} {D : va_G} {ca : Nat → ClassId} {ad : Nat → Nat} {A : Nat → Prop} {Q : Option mV → mM → Prop} (hX : CX p s m args meth c 1 cJ6_bitCount_0f7a4 "java/lang/Integer" D ca ad A) (hr : meth.sig.returnType = (Option.some FieldType.int)) : ∀ lv st M, BJ6_bitCount_0f7a4_0 (Gd p l e (rmD 0) s m args below meth c 1 D ca ad A 0 0 (MQ below (QC D ca ad A Q) args s 0 0 A)) Q lv st M → Gd p l e (rmD 0) s m args below meth c 1 D ca ad A 0 0 (MQ below (QC D ca ad A Q) args s 0 0 A) 0 lv st M :=
  (sd_iload_n hX dJ6_bitCount_0f7a4_0 rfl (sd_iload_n hX dJ6_bitCount_0f7a4_1 rfl (sd_iconst hX dJ6_bitCount_0f7a4_2 rfl (sd_iushr hX dJ6_bitCount_0f7a4_3 (sd_ldcw hX w_646 dJ6_bitCount_0f7a4_4 (sd_iand hX dJ6_bitCount_0f7a4_7 (sd_isub hX dJ6_bitCount_0f7a4_8 (sd_istore_n hX (by decide) dJ6_bitCount_0f7a4_9 rfl (sd_iload_n hX dJ6_bitCount_0f7a4_10 rfl (sd_ldcw hX w_647 dJ6_bitCount_0f7a4_11 (sd_iand hX dJ6_bitCount_0f7a4_14 (sd_iload_n hX dJ6_bitCount_0f7a4_15 rfl (sd_iconst hX dJ6_bitCount_0f7a4_16 rfl (sd_iushr hX dJ6_bitCount_0f7a4_17 (sd_ldcw hX w_647 dJ6_bitCount_0f7a4_18 (sd_iand hX dJ6_bitCount_0f7a4_21 (sd_iadd hX dJ6_bitCount_0f7a4_22 (sd_istore_n hX (by decide) dJ6_bitCount_0f7a4_23 rfl (sd_iload_n hX dJ6_bitCount_0f7a4_24 rfl (sd_iload_n hX dJ6_bitCount_0f7a4_25 rfl (sd_iconst hX dJ6_bitCount_0f7a4_26 rfl (sd_iushr hX dJ6_bitCount_0f7a4_27 (sd_iadd hX dJ6_bitCount_0f7a4_28 (sd_ldcw hX w_648 dJ6_bitCount_0f7a4_29 (sd_iand hX dJ6_bitCount_0f7a4_32 (sd_istore_n hX (by decide) dJ6_bitCount_0f7a4_33 rfl (sd_iload_n hX dJ6_bitCount_0f7a4_34 rfl (sd_iload_n hX dJ6_bitCount_0f7a4_35 rfl (sd_bipush hX dJ6_bitCount_0f7a4_36 rfl (sd_iushr hX dJ6_bitCount_0f7a4_38 (sd_iadd hX dJ6_bitCount_0f7a4_39 (sd_istore_n hX (by decide) dJ6_bitCount_0f7a4_40 rfl (sd_iload_n hX dJ6_bitCount_0f7a4_41 rfl (sd_iload_n hX dJ6_bitCount_0f7a4_42 rfl (sd_bipush hX dJ6_bitCount_0f7a4_43 rfl (sd_iushr hX dJ6_bitCount_0f7a4_45 (sd_iadd hX dJ6_bitCount_0f7a4_46 (sd_istore_n hX (by decide) dJ6_bitCount_0f7a4_47 rfl (sd_iload_n hX dJ6_bitCount_0f7a4_48 rfl (sd_bipush hX dJ6_bitCount_0f7a4_49 rfl (sd_iand hX dJ6_bitCount_0f7a4_51 (sd_iret hX hr dJ6_bitCount_0f7a4_52))))))))))))))))))))))))))))))))))))))))))
set_option maxHeartbeats 400000 in
theorem pf_J6_bitCount_0f7a4 (G : Nat → KT) (Q : Option mV → mM → Prop) (h0 : ∀ lv st M, BJ6_bitCount_0f7a4_0 G Q lv st M → G 0 lv st M) (as : List mV) (M : mM) (ho : ∀ v ∈ as, okV v) (hp : pre_J6_bitCount_0f7a4 as M) (hQ : Q (fn_J6_bitCount_0f7a4 as M).1 (fn_J6_bitCount_0f7a4 as M).2) : G 0 (inL as ++ List.replicate (1 - (inL as).length) none) [] M := by
  obtain ⟨x, rfl⟩ := hp
  (apply h0; simp only [BJ6_bitCount_0f7a4_0, s_mth, s_mab, s_at, s_iconst, s_lconst, s_iload, s_lload, s_aload, s_istore, s_lstore, s_astore, s_iinc, s_bin, s_binG, s_un, s_lbin, s_lbinG, s_lsh, s_lcmp, s_i2l, s_l2i, s_dup, s_dup2, s_pop, s_if, s_icmp, s_geti, s_getl, s_getr, s_puti, s_putz, s_putl, s_iald, s_zald, s_iast, s_zast, s_aaldS, s_aaldU, s_gets, s_tald, s_tsw, tsw, s_iret, s_zret, s_lret, s_aret, s_vret, s_callV, s_callS, c1, nl1, keepL, csum, pushR, inL, List.getD_cons_zero, List.getD_cons_succ, List.set_cons_zero, List.set_cons_succ, List.cons_append, List.nil_append, List.append_nil, List.replicate, List.length_cons, List.length_nil, List.take_succ_cons, List.take_zero, List.drop_succ_cons, List.drop_zero, List.reverse_cons, List.reverse_nil, true_and, and_true, forall_const, not_true_eq_false, not_false_eq_true, false_implies, true_implies, implies_true, one0, m10, Nat.reduceAdd, Nat.reduceSub, Nat.reduceLeDiff, Nat.zero_add, Nat.add_zero])
  exact hQ
theorem ct_J6_bitCount_0f7a4 (l : Launch) : Con l yJ6_bitCount_0f7a4 cJ6_bitCount_0f7a4 1 (Option.some FieldType.int) 0 pre_J6_bitCount_0f7a4 fn_J6_bitCount_0f7a4 := con_of (by decide +kernel) ok_J6_bitCount_0f7a4 len_J6_bitCount_0f7a4 (fun p e s m args below meth c D ca ad A as M hX hr hp ho => pf_J6_bitCount_0f7a4 _ _ (bsJ6_bitCount_0f7a4_0 hX hr) as M ho hp ⟨rfl, rfl⟩)
def wi (x y z : Int32) : Int32 := if x < y then 0 else if z < x then 0 else 1
def pre_X11_within (as : List mV) (M : mM) : Prop := ∃ x y z, as = [.inl x, .inl y, .inl z]
def fn_X11_within : List mV → mM → Option mV × mM
  | [.inl x, .inl y, .inl z], M => (some (.inl (wi x y z)), M)
  | _, M => (none, M)
theorem ok_X11_within (as : List mV) (M : mM) (h : pre_X11_within as M) (_ : ∀ v ∈ as, okV v) : okR (fn_X11_within as M).1 := by
  obtain ⟨x, y, z, rfl⟩ := h
  first | trivial | exact (by decide +kernel : kof 14 = 8)
theorem len_X11_within (as : List mV) (M : mM) (h : pre_X11_within as M) : (inL as).length ≤ 3 := by
  obtain ⟨x, y, z, rfl⟩ := h
  exact Nat.le_of_ble_eq_true rfl


theorem dX11_within_0 : decode cX11_within 0 = .ok (.iload_n 0, 1) := by decide +kernel
theorem dX11_within_1 : decode cX11_within 1 = .ok (.iload_n 1, 1) := by decide +kernel
theorem dX11_within_2 : decode cX11_within 2 = .ok (.if_icmp .lt 12, 3) := by decide +kernel
theorem dX11_within_5 : decode cX11_within 5 = .ok (.iload_n 0, 1) := by decide +kernel
theorem dX11_within_6 : decode cX11_within 6 = .ok (.iload_n 2, 1) := by decide +kernel
theorem dX11_within_7 : decode cX11_within 7 = .ok (.if_icmp .gt 7, 3) := by decide +kernel
theorem dX11_within_10 : decode cX11_within 10 = .ok (.iconst 1, 1) := by decide +kernel
theorem dX11_within_11 : decode cX11_within 11 = .ok (.goto 4, 3) := by decide +kernel
theorem dX11_within_14 : decode cX11_within 14 = .ok (.iconst 0, 1) := by decide +kernel
theorem dX11_within_15 : decode cX11_within 15 = .ok (.ireturn, 1) := by decide +kernel
theorem mk_X11_within : MSk yX11_within cX11_within 3 (Option.some FieldType.boolean) 3 := ⟨w_344, w_343, w_1, by decide +kernel, by decide +kernel, by decide +kernel⟩
def BX11_within_0 (G : Nat → KT) (Q : Option mV → mM → Prop) : KT := (s_iload 0 (s_iload 1 (s_icmp (fun x y => x < y) (s_at G 14 [false, false, false]) (s_iload 0 (s_iload 2 (s_icmp (fun x y => y < x) (s_at G 14 [false, false, false]) (s_iconst (1) (s_at G 15 [false, false, false]))))))))
set_option maxRecDepth 4000 in
theorem bsX11_within_0 {p : Program} {l : Launch} {e : Env} {s : State} {m : MethodId} {args : Array Value} {below : List Frame} {meth : Method} {c : Code} {D : va_G} {ca : Nat → ClassId} {ad : Nat → Nat} {A : Nat → Prop} {Q : Option mV → mM → Prop} (hX : CX p s m args meth c 3 cX11_within "FairBlocks" D ca ad A) (hr : meth.sig.returnType = (Option.some FieldType.boolean)) : ∀ lv st M, BX11_within_0 (Gd p l e (rmD 0) s m args below meth c 3 D ca ad A 0 0 (MQ below (QC D ca ad A Q) args s 0 0 A)) Q lv st M → Gd p l e (rmD 0) s m args below meth c 3 D ca ad A 0 0 (MQ below (QC D ca ad A Q) args s 0 0 A) 0 lv st M :=
  (sd_iload_n hX dX11_within_0 rfl (sd_iload_n hX dX11_within_1 rfl (sd_icmp_lt hX dX11_within_2 (by decide) sd_at (sd_iload_n hX dX11_within_5 rfl (sd_iload_n hX dX11_within_6 rfl (sd_icmp_gt hX dX11_within_7 (by decide) sd_at (sd_iconst hX dX11_within_10 rfl (sd_goto hX dX11_within_11 (by decide) sd_at))))))))
def BX11_within_14 (G : Nat → KT) (Q : Option mV → mM → Prop) : KT := (s_iconst (0) (s_at G 15 [false, false, false]))
set_option maxRecDepth 4000 in
theorem bsX11_within_14 {p : Program} {l : Launch} {e : Env} {s : State} {m : MethodId} {args : Array Value} {below : List Frame} {meth : Method} {c : Code} {D : va_G} {ca : Nat → ClassId} {ad : Nat → Nat} {A : Nat → Prop} {Q : Option mV → mM → Prop} (hX : CX p s m args meth c 3 cX11_within "FairBlocks" D ca ad A) (hr : meth.sig.returnType = (Option.some FieldType.boolean)) : ∀ lv st M, BX11_within_14 (Gd p l e (rmD 0) s m args below meth c 3 D ca ad A 0 0 (MQ below (QC D ca ad A Q) args s 0 0 A)) Q lv st M → Gd p l e (rmD 0) s m args below meth c 3 D ca ad A 0 0 (MQ below (QC D ca ad A Q) args s 0 0 A) 14 lv st M :=
  (sd_iconst hX dX11_within_14 rfl sd_at)
def BX11_within_15 (G : Nat → KT) (Q : Option mV → mM → Prop) : KT := (s_zret Q)
set_option maxRecDepth 4000 in
theorem bsX11_within_15 {p : Program} {l : Launch} {e : Env} {s : State} {m : MethodId} {args : Array Value} {below : List Frame} {meth : Method} {c : Code} {D : va_G} {ca : Nat → ClassId} {ad : Nat → Nat} {A : Nat → Prop} {Q : Option mV → mM → Prop} (hX : CX p s m args meth c 3 cX11_within "FairBlocks" D ca ad A) (hr : meth.sig.returnType = (Option.some FieldType.boolean)) : ∀ lv st M, BX11_within_15 (Gd p l e (rmD 0) s m args below meth c 3 D ca ad A 0 0 (MQ below (QC D ca ad A Q) args s 0 0 A)) Q lv st M → Gd p l e (rmD 0) s m args below meth c 3 D ca ad A 0 0 (MQ below (QC D ca ad A Q) args s 0 0 A) 15 lv st M :=
  sd_zret hX hr dX11_within_15
set_option maxHeartbeats 400000 in
theorem pf_X11_within (G : Nat → KT) (Q : Option mV → mM → Prop) (h0 : ∀ lv st M, BX11_within_0 G Q lv st M → G 0 lv st M) (h14 : ∀ lv st M, BX11_within_14 G Q lv st M → G 14 lv st M) (h15 : ∀ lv st M, BX11_within_15 G Q lv st M → G 15 lv st M) (as : List mV) (M : mM) (ho : ∀ v ∈ as, okV v) (hp : pre_X11_within as M) (hQ : Q (fn_X11_within as M).1 (fn_X11_within as M).2) : G 0 (inL as ++ List.replicate (3 - (inL as).length) none) [] M := by
  obtain ⟨x, y, z, rfl⟩ := hp
  simp only [fn_X11_within, wi] at hQ
  repeat' (first | (first | (apply h0; simp only [BX11_within_0, s_mth, s_mab, s_at, s_iconst, s_lconst, s_iload, s_lload, s_aload, s_istore, s_lstore, s_astore, s_iinc, s_bin, s_binG, s_un, s_lbin, s_lbinG, s_lsh, s_lcmp, s_i2l, s_l2i, s_dup, s_dup2, s_pop, s_if, s_icmp, s_geti, s_getl, s_getr, s_puti, s_putz, s_putl, s_iald, s_zald, s_iast, s_zast, s_aaldS, s_aaldU, s_gets, s_tald, s_tsw, tsw, s_iret, s_zret, s_lret, s_aret, s_vret, s_callV, s_callS, c1, nl1, keepL, csum, pushR, inL, List.getD_cons_zero, List.getD_cons_succ, List.set_cons_zero, List.set_cons_succ, List.cons_append, List.nil_append, List.append_nil, List.replicate, List.length_cons, List.length_nil, List.take_succ_cons, List.take_zero, List.drop_succ_cons, List.drop_zero, List.reverse_cons, List.reverse_nil, true_and, and_true, forall_const, not_true_eq_false, not_false_eq_true, false_implies, true_implies, implies_true, one0, m10, Nat.reduceAdd, Nat.reduceSub, Nat.reduceLeDiff, Nat.zero_add, Nat.add_zero]) | (apply h14; simp only [BX11_within_14, s_mth, s_mab, s_at, s_iconst, s_lconst, s_iload, s_lload, s_aload, s_istore, s_lstore, s_astore, s_iinc, s_bin, s_binG, s_un, s_lbin, s_lbinG, s_lsh, s_lcmp, s_i2l, s_l2i, s_dup, s_dup2, s_pop, s_if, s_icmp, s_geti, s_getl, s_getr, s_puti, s_putz, s_putl, s_iald, s_zald, s_iast, s_zast, s_aaldS, s_aaldU, s_gets, s_tald, s_tsw, tsw, s_iret, s_zret, s_lret, s_aret, s_vret, s_callV, s_callS, c1, nl1, keepL, csum, pushR, inL, List.getD_cons_zero, List.getD_cons_succ, List.set_cons_zero, List.set_cons_succ, List.cons_append, List.nil_append, List.append_nil, List.replicate, List.length_cons, List.length_nil, List.take_succ_cons, List.take_zero, List.drop_succ_cons, List.drop_zero, List.reverse_cons, List.reverse_nil, true_and, and_true, forall_const, not_true_eq_false, not_false_eq_true, false_implies, true_implies, implies_true, one0, m10, Nat.reduceAdd, Nat.reduceSub, Nat.reduceLeDiff, Nat.zero_add, Nat.add_zero]) | (apply h15; simp only [BX11_within_15, s_mth, s_mab, s_at, s_iconst, s_lconst, s_iload, s_lload, s_aload, s_istore, s_lstore, s_astore, s_iinc, s_bin, s_binG, s_un, s_lbin, s_lbinG, s_lsh, s_lcmp, s_i2l, s_l2i, s_dup, s_dup2, s_pop, s_if, s_icmp, s_geti, s_getl, s_getr, s_puti, s_putz, s_putl, s_iald, s_zald, s_iast, s_zast, s_aaldS, s_aaldU, s_gets, s_tald, s_tsw, tsw, s_iret, s_zret, s_lret, s_aret, s_vret, s_callV, s_callS, c1, nl1, keepL, csum, pushR, inL, List.getD_cons_zero, List.getD_cons_succ, List.set_cons_zero, List.set_cons_succ, List.cons_append, List.nil_append, List.append_nil, List.replicate, List.length_cons, List.length_nil, List.take_succ_cons, List.take_zero, List.drop_succ_cons, List.drop_zero, List.reverse_cons, List.reverse_nil, true_and, and_true, forall_const, not_true_eq_false, not_false_eq_true, false_implies, true_implies, implies_true, one0, m10, Nat.reduceAdd, Nat.reduceSub, Nat.reduceLeDiff, Nat.zero_add, Nat.add_zero])) | refine ⟨?_, ?_⟩ | intro hc)
  all_goals clear h0 h14 h15
  all_goals (first | exact hQ | (simp only [*, if_true, if_false] at hQ; exact hQ) | (simp [*] at hQ; simpa using hQ) | (exfalso; simp_all; done) | (simp_all; done))
theorem ct_X11_within (l : Launch) : Con l yX11_within cX11_within 3 (Option.some FieldType.boolean) 0 pre_X11_within fn_X11_within := con_of (by decide +kernel) ok_X11_within len_X11_within (fun p e s m args below meth c D ca ad A as M hX hr hp ho => pf_X11_within _ _ (bsX11_within_0 hX hr) (bsX11_within_14 hX hr) (bsX11_within_15 hX hr) as M ho hp ⟨rfl, rfl⟩)
/-! User -/
def pre_X10_takeIn (as : List mV) (M : mM) : Prop := ∃ k x, as = [.inr (.inr (10, k)), .inl x]
def fn_X10_takeIn : List mV → mM → Option mV × mM
  | [.inr (.inr (_, k)), .inl x], M => (none, mset M k 4 (if M.1 k 4 + x ≤ 999 then M.1 k 4 + x else 999))
  | _, M => (none, M)
theorem ok_X10_takeIn (as : List mV) (M : mM) (h : pre_X10_takeIn as M) (_ : ∀ v ∈ as, okV v) : okR (fn_X10_takeIn as M).1 := by
  obtain ⟨k, x, rfl⟩ := h
  first | trivial | exact (by decide +kernel : kof 14 = 8)
theorem len_X10_takeIn (as : List mV) (M : mM) (h : pre_X10_takeIn as M) : (inL as).length ≤ 3 := by
  obtain ⟨k, x, rfl⟩ := h
  exact Nat.le_of_ble_eq_true rfl

theorem fl_107 : FLk "FairBlocks$User" 25 10 4 0 := ⟨RX10, TX10, 10, rfl, inX10, by decide, w_107, by decide, rfl⟩
theorem fp_107 : FPk "FairBlocks$User" 25 10 4 0 .int := ⟨RX10, TX10, 10, tyX10, rfl, inX10, by decide, w_107, by decide, rfl, tyX10_ok, nmX10, rfl, rfl⟩
theorem dX10_takeIn_0 : decode cX10_takeIn 0 = .ok (.aload_n 0, 1) := by decide +kernel
theorem dX10_takeIn_1 : decode cX10_takeIn 1 = .ok (.getfield 25, 3) := by decide +kernel
theorem dX10_takeIn_4 : decode cX10_takeIn 4 = .ok (.iload_n 1, 1) := by decide +kernel
theorem dX10_takeIn_5 : decode cX10_takeIn 5 = .ok (.iadd, 1) := by decide +kernel
theorem dX10_takeIn_6 : decode cX10_takeIn 6 = .ok (.istore_n 2, 1) := by decide +kernel
theorem dX10_takeIn_7 : decode cX10_takeIn 7 = .ok (.aload_n 0, 1) := by decide +kernel
theorem dX10_takeIn_8 : decode cX10_takeIn 8 = .ok (.iload_n 2, 1) := by decide +kernel
theorem dX10_takeIn_9 : decode cX10_takeIn 9 = .ok (.sipush 999, 3) := by decide +kernel
theorem dX10_takeIn_12 : decode cX10_takeIn 12 = .ok (.if_icmp .le 9, 3) := by decide +kernel
theorem dX10_takeIn_15 : decode cX10_takeIn 15 = .ok (.sipush 999, 3) := by decide +kernel
theorem dX10_takeIn_18 : decode cX10_takeIn 18 = .ok (.goto 4, 3) := by decide +kernel
theorem dX10_takeIn_21 : decode cX10_takeIn 21 = .ok (.iload_n 2, 1) := by decide +kernel
theorem dX10_takeIn_22 : decode cX10_takeIn 22 = .ok (.putfield 25, 3) := by decide +kernel
theorem dX10_takeIn_25 : decode cX10_takeIn 25 = .ok (.return_, 1) := by decide +kernel
theorem mk_X10_takeIn : MVk yX10_takeIn "FairBlocks$User" cX10_takeIn 3 (Option.none : Option FieldType) 1 := ⟨w_440, w_438, w_439, w_6, rfl, by decide +kernel, by decide +kernel, by decide +kernel⟩
def BX10_takeIn_0 (G : Nat → KT) (Q : Option mV → mM → Prop) : KT := (s_aload 0 (s_geti 10 4 (s_iload 1 (s_bin (fun x y => x + y) (s_istore 2 (s_aload 0 (s_iload 2 (s_iconst (999) (s_icmp (fun x y => x ≤ y) (s_at G 21 [false, false, true]) (s_iconst (999) (s_at G 22 [false, false, false])))))))))))
set_option maxRecDepth 4000 in
theorem bsX10_takeIn_0 {p : Program} {l : Launch} {e : Env} {s : State} {m : MethodId} {args : Array Value} {below : List Frame} {meth : Method} {c : Code} {D : va_G} {ca : Nat → ClassId} {ad : Nat → Nat} {A : Nat → Prop} {Q : Option mV → mM → Prop} (hX : CX p s m args meth c 3 cX10_takeIn "FairBlocks$User" D ca ad A) (hr : meth.sig.returnType = (Option.none : Option FieldType)) : ∀ lv st M, BX10_takeIn_0 (Gd p l e (rmD 0) s m args below meth c 3 D ca ad A 0 0 (MQ below (QC D ca ad A Q) args s 0 0 A)) Q lv st M → Gd p l e (rmD 0) s m args below meth c 3 D ca ad A 0 0 (MQ below (QC D ca ad A Q) args s 0 0 A) 0 lv st M :=
  (sd_aload_n hX dX10_takeIn_0 rfl (sd_geti hX fl_107 (by decide) dX10_takeIn_1 (sd_iload_n hX dX10_takeIn_4 rfl (sd_iadd hX dX10_takeIn_5 (sd_istore_n hX (by decide) dX10_takeIn_6 rfl (sd_aload_n hX dX10_takeIn_7 rfl (sd_iload_n hX dX10_takeIn_8 rfl (sd_sipush hX dX10_takeIn_9 rfl (sd_icmp_le hX dX10_takeIn_12 (by decide) sd_at (sd_sipush hX dX10_takeIn_15 rfl (sd_goto hX dX10_takeIn_18 (by decide) sd_at)))))))))))
def BX10_takeIn_21 (G : Nat → KT) (Q : Option mV → mM → Prop) : KT := (s_iload 2 (s_at G 22 [false, false, false]))
set_option maxRecDepth 4000 in
theorem bsX10_takeIn_21 {p : Program} {l : Launch} {e : Env} {s : State} {m : MethodId} {args : Array Value} {below : List Frame} {meth : Method} {c : Code} {D : va_G} {ca : Nat → ClassId} {ad : Nat → Nat} {A : Nat → Prop} {Q : Option mV → mM → Prop} (hX : CX p s m args meth c 3 cX10_takeIn "FairBlocks$User" D ca ad A) (hr : meth.sig.returnType = (Option.none : Option FieldType)) : ∀ lv st M, BX10_takeIn_21 (Gd p l e (rmD 0) s m args below meth c 3 D ca ad A 0 0 (MQ below (QC D ca ad A Q) args s 0 0 A)) Q lv st M → Gd p l e (rmD 0) s m args below meth c 3 D ca ad A 0 0 (MQ below (QC D ca ad A Q) args s 0 0 A) 21 lv st M :=
  (sd_iload_n hX dX10_takeIn_21 rfl sd_at)
def BX10_takeIn_22 (G : Nat → KT) (Q : Option mV → mM → Prop) : KT := (s_puti 10 4 (s_vret Q))
set_option maxRecDepth 4000 in
theorem bsX10_takeIn_22 {p : Program} {l : Launch} {e : Env} {s : State} {m : MethodId} {args : Array Value} {below : List Frame} {meth : Method} {c : Code} {D : va_G} {ca : Nat → ClassId} {ad : Nat → Nat} {A : Nat → Prop} {Q : Option mV → mM → Prop} (hX : CX p s m args meth c 3 cX10_takeIn "FairBlocks$User" D ca ad A) (hr : meth.sig.returnType = (Option.none : Option FieldType)) : ∀ lv st M, BX10_takeIn_22 (Gd p l e (rmD 0) s m args below meth c 3 D ca ad A 0 0 (MQ below (QC D ca ad A Q) args s 0 0 A)) Q lv st M → Gd p l e (rmD 0) s m args below meth c 3 D ca ad A 0 0 (MQ below (QC D ca ad A Q) args s 0 0 A) 22 lv st M :=
  (sd_puti hX fp_107 dX10_takeIn_22 (sd_vret hX hr dX10_takeIn_25))
set_option maxHeartbeats 400000 in
theorem pf_X10_takeIn (G : Nat → KT) (Q : Option mV → mM → Prop) (h0 : ∀ lv st M, BX10_takeIn_0 G Q lv st M → G 0 lv st M) (h21 : ∀ lv st M, BX10_takeIn_21 G Q lv st M → G 21 lv st M) (h22 : ∀ lv st M, BX10_takeIn_22 G Q lv st M → G 22 lv st M) (as : List mV) (M : mM) (ho : ∀ v ∈ as, okV v) (hp : pre_X10_takeIn as M) (hQ : Q (fn_X10_takeIn as M).1 (fn_X10_takeIn as M).2) : G 0 (inL as ++ List.replicate (3 - (inL as).length) none) [] M := by
  obtain ⟨k, x, rfl⟩ := hp
  simp only [fn_X10_takeIn] at hQ
  repeat' (first | (first | (apply h0; simp only [BX10_takeIn_0, s_mth, s_mab, s_at, s_iconst, s_lconst, s_iload, s_lload, s_aload, s_istore, s_lstore, s_astore, s_iinc, s_bin, s_binG, s_un, s_lbin, s_lbinG, s_lsh, s_lcmp, s_i2l, s_l2i, s_dup, s_dup2, s_pop, s_if, s_icmp, s_geti, s_getl, s_getr, s_puti, s_putz, s_putl, s_iald, s_zald, s_iast, s_zast, s_aaldS, s_aaldU, s_gets, s_tald, s_tsw, tsw, s_iret, s_zret, s_lret, s_aret, s_vret, s_callV, s_callS, c1, nl1, keepL, csum, pushR, inL, List.getD_cons_zero, List.getD_cons_succ, List.set_cons_zero, List.set_cons_succ, List.cons_append, List.nil_append, List.append_nil, List.replicate, List.length_cons, List.length_nil, List.take_succ_cons, List.take_zero, List.drop_succ_cons, List.drop_zero, List.reverse_cons, List.reverse_nil, true_and, and_true, forall_const, not_true_eq_false, not_false_eq_true, false_implies, true_implies, implies_true, one0, m10, Nat.reduceAdd, Nat.reduceSub, Nat.reduceLeDiff, Nat.zero_add, Nat.add_zero]) | (apply h21; simp only [BX10_takeIn_21, s_mth, s_mab, s_at, s_iconst, s_lconst, s_iload, s_lload, s_aload, s_istore, s_lstore, s_astore, s_iinc, s_bin, s_binG, s_un, s_lbin, s_lbinG, s_lsh, s_lcmp, s_i2l, s_l2i, s_dup, s_dup2, s_pop, s_if, s_icmp, s_geti, s_getl, s_getr, s_puti, s_putz, s_putl, s_iald, s_zald, s_iast, s_zast, s_aaldS, s_aaldU, s_gets, s_tald, s_tsw, tsw, s_iret, s_zret, s_lret, s_aret, s_vret, s_callV, s_callS, c1, nl1, keepL, csum, pushR, inL, List.getD_cons_zero, List.getD_cons_succ, List.set_cons_zero, List.set_cons_succ, List.cons_append, List.nil_append, List.append_nil, List.replicate, List.length_cons, List.length_nil, List.take_succ_cons, List.take_zero, List.drop_succ_cons, List.drop_zero, List.reverse_cons, List.reverse_nil, true_and, and_true, forall_const, not_true_eq_false, not_false_eq_true, false_implies, true_implies, implies_true, one0, m10, Nat.reduceAdd, Nat.reduceSub, Nat.reduceLeDiff, Nat.zero_add, Nat.add_zero]) | (apply h22; simp only [BX10_takeIn_22, s_mth, s_mab, s_at, s_iconst, s_lconst, s_iload, s_lload, s_aload, s_istore, s_lstore, s_astore, s_iinc, s_bin, s_binG, s_un, s_lbin, s_lbinG, s_lsh, s_lcmp, s_i2l, s_l2i, s_dup, s_dup2, s_pop, s_if, s_icmp, s_geti, s_getl, s_getr, s_puti, s_putz, s_putl, s_iald, s_zald, s_iast, s_zast, s_aaldS, s_aaldU, s_gets, s_tald, s_tsw, tsw, s_iret, s_zret, s_lret, s_aret, s_vret, s_callV, s_callS, c1, nl1, keepL, csum, pushR, inL, List.getD_cons_zero, List.getD_cons_succ, List.set_cons_zero, List.set_cons_succ, List.cons_append, List.nil_append, List.append_nil, List.replicate, List.length_cons, List.length_nil, List.take_succ_cons, List.take_zero, List.drop_succ_cons, List.drop_zero, List.reverse_cons, List.reverse_nil, true_and, and_true, forall_const, not_true_eq_false, not_false_eq_true, false_implies, true_implies, implies_true, one0, m10, Nat.reduceAdd, Nat.reduceSub, Nat.reduceLeDiff, Nat.zero_add, Nat.add_zero])) | refine ⟨?_, ?_⟩ | intro hc)
  all_goals clear h0 h21 h22
  all_goals (simp only [*, if_true, if_false] at hQ; exact hQ)
theorem ct_X10_takeIn (l : Launch) : Con l yX10_takeIn cX10_takeIn 3 (Option.none : Option FieldType) 0 pre_X10_takeIn fn_X10_takeIn := con_of (by decide +kernel) ok_X10_takeIn len_X10_takeIn (fun p e s m args below meth c D ca ad A as M hX hr hp ho => pf_X10_takeIn _ _ (bsX10_takeIn_0 hX hr) (bsX10_takeIn_21 hX hr) (bsX10_takeIn_22 hX hr) as M ho hp ⟨rfl, rfl⟩)
def pre_X10_waiting (as : List mV) (M : mM) : Prop := ∃ k, as = [.inr (.inr (10, k))]
def fn_X10_waiting : List mV → mM → Option mV × mM
  | [.inr (.inr (_, k))], M => (some (.inl (M.1 k 4 + M.1 k 5)), M)
  | _, M => (none, M)
theorem ok_X10_waiting (as : List mV) (M : mM) (h : pre_X10_waiting as M) (_ : ∀ v ∈ as, okV v) : okR (fn_X10_waiting as M).1 := by
  obtain ⟨k, rfl⟩ := h
  first | trivial | exact (by decide +kernel : kof 14 = 8)
theorem len_X10_waiting (as : List mV) (M : mM) (h : pre_X10_waiting as M) : (inL as).length ≤ 1 := by
  obtain ⟨k, rfl⟩ := h
  exact Nat.le_of_ble_eq_true rfl

theorem fl_109 : FLk "FairBlocks$User" 28 10 5 0 := ⟨RX10, TX10, 10, rfl, inX10, by decide, w_109, by decide, rfl⟩
theorem dX10_waiting_0 : decode cX10_waiting 0 = .ok (.aload_n 0, 1) := by decide +kernel
theorem dX10_waiting_1 : decode cX10_waiting 1 = .ok (.getfield 25, 3) := by decide +kernel
theorem dX10_waiting_4 : decode cX10_waiting 4 = .ok (.aload_n 0, 1) := by decide +kernel
theorem dX10_waiting_5 : decode cX10_waiting 5 = .ok (.getfield 28, 3) := by decide +kernel
theorem dX10_waiting_8 : decode cX10_waiting 8 = .ok (.iadd, 1) := by decide +kernel
theorem dX10_waiting_9 : decode cX10_waiting 9 = .ok (.ireturn, 1) := by decide +kernel
theorem mk_X10_waiting : MVk yX10_waiting "FairBlocks$User" cX10_waiting 1 (Option.some FieldType.int) 0 := ⟨w_468, w_466, w_467, w_6, rfl, by decide +kernel, by decide +kernel, by decide +kernel⟩
def BX10_waiting_0 (G : Nat → KT) (Q : Option mV → mM → Prop) : KT := (s_aload 0 (s_geti 10 4 (s_aload 0 (s_geti 10 5 (s_bin (fun x y => x + y) (s_iret Q))))))
set_option maxRecDepth 4000 in
theorem bsX10_waiting_0 {p : Program} {l : Launch} {e : Env} {s : State} {m : MethodId} {args : Array Value} {below : List Frame} {meth : Method} {c : Code} {D : va_G} {ca : Nat → ClassId} {ad : Nat → Nat} {A : Nat → Prop} {Q : Option mV → mM → Prop} (hX : CX p s m args meth c 1 cX10_waiting "FairBlocks$User" D ca ad A) (hr : meth.sig.returnType = (Option.some FieldType.int)) : ∀ lv st M, BX10_waiting_0 (Gd p l e (rmD 0) s m args below meth c 1 D ca ad A 0 0 (MQ below (QC D ca ad A Q) args s 0 0 A)) Q lv st M → Gd p l e (rmD 0) s m args below meth c 1 D ca ad A 0 0 (MQ below (QC D ca ad A Q) args s 0 0 A) 0 lv st M :=
  (sd_aload_n hX dX10_waiting_0 rfl (sd_geti hX fl_107 (by decide) dX10_waiting_1 (sd_aload_n hX dX10_waiting_4 rfl (sd_geti hX fl_109 (by decide) dX10_waiting_5 (sd_iadd hX dX10_waiting_8 (sd_iret hX hr dX10_waiting_9))))))
set_option maxHeartbeats 400000 in
theorem pf_X10_waiting (G : Nat → KT) (Q : Option mV → mM → Prop) (h0 : ∀ lv st M, BX10_waiting_0 G Q lv st M → G 0 lv st M) (as : List mV) (M : mM) (ho : ∀ v ∈ as, okV v) (hp : pre_X10_waiting as M) (hQ : Q (fn_X10_waiting as M).1 (fn_X10_waiting as M).2) : G 0 (inL as ++ List.replicate (1 - (inL as).length) none) [] M := by
  obtain ⟨k, rfl⟩ := hp
  (apply h0; simp only [BX10_waiting_0, s_mth, s_mab, s_at, s_iconst, s_lconst, s_iload, s_lload, s_aload, s_istore, s_lstore, s_astore, s_iinc, s_bin, s_binG, s_un, s_lbin, s_lbinG, s_lsh, s_lcmp, s_i2l, s_l2i, s_dup, s_dup2, s_pop, s_if, s_icmp, s_geti, s_getl, s_getr, s_puti, s_putz, s_putl, s_iald, s_zald, s_iast, s_zast, s_aaldS, s_aaldU, s_gets, s_tald, s_tsw, tsw, s_iret, s_zret, s_lret, s_aret, s_vret, s_callV, s_callS, c1, nl1, keepL, csum, pushR, inL, List.getD_cons_zero, List.getD_cons_succ, List.set_cons_zero, List.set_cons_succ, List.cons_append, List.nil_append, List.append_nil, List.replicate, List.length_cons, List.length_nil, List.take_succ_cons, List.take_zero, List.drop_succ_cons, List.drop_zero, List.reverse_cons, List.reverse_nil, true_and, and_true, forall_const, not_true_eq_false, not_false_eq_true, false_implies, true_implies, implies_true, one0, m10, Nat.reduceAdd, Nat.reduceSub, Nat.reduceLeDiff, Nat.zero_add, Nat.add_zero])
  exact hQ
theorem ct_X10_waiting (l : Launch) : Con l yX10_waiting cX10_waiting 1 (Option.some FieldType.int) 0 pre_X10_waiting fn_X10_waiting := con_of (by decide +kernel) ok_X10_waiting len_X10_waiting (fun p e s m args below meth c D ca ad A as M hX hr hp ho => pf_X10_waiting _ _ (bsX10_waiting_0 hX hr) as M ho hp ⟨rfl, rfl⟩)
def pre_X10_dropAll (as : List mV) (M : mM) : Prop := ∃ k, as = [.inr (.inr (10, k))]
def fn_X10_dropAll : List mV → mM → Option mV × mM
  | [.inr (.inr (_, k))], M => (none, mset (mset M k 4 0) k 5 0)
  | _, M => (none, M)
theorem ok_X10_dropAll (as : List mV) (M : mM) (h : pre_X10_dropAll as M) (_ : ∀ v ∈ as, okV v) : okR (fn_X10_dropAll as M).1 := by
  obtain ⟨k, rfl⟩ := h
  first | trivial | exact (by decide +kernel : kof 14 = 8)
theorem len_X10_dropAll (as : List mV) (M : mM) (h : pre_X10_dropAll as M) : (inL as).length ≤ 1 := by
  obtain ⟨k, rfl⟩ := h
  exact Nat.le_of_ble_eq_true rfl

theorem fp_109 : FPk "FairBlocks$User" 28 10 5 0 .int := ⟨RX10, TX10, 10, tyX10, rfl, inX10, by decide, w_109, by decide, rfl, tyX10_ok, nmX10, rfl, rfl⟩
theorem dX10_dropAll_0 : decode cX10_dropAll 0 = .ok (.aload_n 0, 1) := by decide +kernel
theorem dX10_dropAll_1 : decode cX10_dropAll 1 = .ok (.iconst 0, 1) := by decide +kernel
theorem dX10_dropAll_2 : decode cX10_dropAll 2 = .ok (.putfield 25, 3) := by decide +kernel
theorem dX10_dropAll_5 : decode cX10_dropAll 5 = .ok (.aload_n 0, 1) := by decide +kernel
theorem dX10_dropAll_6 : decode cX10_dropAll 6 = .ok (.iconst 0, 1) := by decide +kernel
theorem dX10_dropAll_7 : decode cX10_dropAll 7 = .ok (.putfield 28, 3) := by decide +kernel
theorem dX10_dropAll_10 : decode cX10_dropAll 10 = .ok (.return_, 1) := by decide +kernel
theorem mk_X10_dropAll : MVk yX10_dropAll "FairBlocks$User" cX10_dropAll 1 (Option.none : Option FieldType) 0 := ⟨w_481, w_479, w_480, w_6, rfl, by decide +kernel, by decide +kernel, by decide +kernel⟩
def BX10_dropAll_0 (G : Nat → KT) (Q : Option mV → mM → Prop) : KT := (s_aload 0 (s_iconst (0) (s_puti 10 4 (s_aload 0 (s_iconst (0) (s_puti 10 5 (s_vret Q)))))))
set_option maxRecDepth 4000 in
theorem bsX10_dropAll_0 {p : Program} {l : Launch} {e : Env} {s : State} {m : MethodId} {args : Array Value} {below : List Frame} {meth : Method} {c : Code} {D : va_G} {ca : Nat → ClassId} {ad : Nat → Nat} {A : Nat → Prop} {Q : Option mV → mM → Prop} (hX : CX p s m args meth c 1 cX10_dropAll "FairBlocks$User" D ca ad A) (hr : meth.sig.returnType = (Option.none : Option FieldType)) : ∀ lv st M, BX10_dropAll_0 (Gd p l e (rmD 0) s m args below meth c 1 D ca ad A 0 0 (MQ below (QC D ca ad A Q) args s 0 0 A)) Q lv st M → Gd p l e (rmD 0) s m args below meth c 1 D ca ad A 0 0 (MQ below (QC D ca ad A Q) args s 0 0 A) 0 lv st M :=
  (sd_aload_n hX dX10_dropAll_0 rfl (sd_iconst hX dX10_dropAll_1 rfl (sd_puti hX fp_107 dX10_dropAll_2 (sd_aload_n hX dX10_dropAll_5 rfl (sd_iconst hX dX10_dropAll_6 rfl (sd_puti hX fp_109 dX10_dropAll_7 (sd_vret hX hr dX10_dropAll_10)))))))
set_option maxHeartbeats 400000 in
theorem pf_X10_dropAll (G : Nat → KT) (Q : Option mV → mM → Prop) (h0 : ∀ lv st M, BX10_dropAll_0 G Q lv st M → G 0 lv st M) (as : List mV) (M : mM) (ho : ∀ v ∈ as, okV v) (hp : pre_X10_dropAll as M) (hQ : Q (fn_X10_dropAll as M).1 (fn_X10_dropAll as M).2) : G 0 (inL as ++ List.replicate (1 - (inL as).length) none) [] M := by
  obtain ⟨k, rfl⟩ := hp
  (apply h0; simp only [BX10_dropAll_0, s_mth, s_mab, s_at, s_iconst, s_lconst, s_iload, s_lload, s_aload, s_istore, s_lstore, s_astore, s_iinc, s_bin, s_binG, s_un, s_lbin, s_lbinG, s_lsh, s_lcmp, s_i2l, s_l2i, s_dup, s_dup2, s_pop, s_if, s_icmp, s_geti, s_getl, s_getr, s_puti, s_putz, s_putl, s_iald, s_zald, s_iast, s_zast, s_aaldS, s_aaldU, s_gets, s_tald, s_tsw, tsw, s_iret, s_zret, s_lret, s_aret, s_vret, s_callV, s_callS, c1, nl1, keepL, csum, pushR, inL, List.getD_cons_zero, List.getD_cons_succ, List.set_cons_zero, List.set_cons_succ, List.cons_append, List.nil_append, List.append_nil, List.replicate, List.length_cons, List.length_nil, List.take_succ_cons, List.take_zero, List.drop_succ_cons, List.drop_zero, List.reverse_cons, List.reverse_nil, true_and, and_true, forall_const, not_true_eq_false, not_false_eq_true, false_implies, true_implies, implies_true, one0, m10, Nat.reduceAdd, Nat.reduceSub, Nat.reduceLeDiff, Nat.zero_add, Nat.add_zero])
  exact hQ
theorem ct_X10_dropAll (l : Launch) : Con l yX10_dropAll cX10_dropAll 1 (Option.none : Option FieldType) 0 pre_X10_dropAll fn_X10_dropAll := con_of (by decide +kernel) ok_X10_dropAll len_X10_dropAll (fun p e s m args below meth c D ca ad A as M hX hr hp ho => pf_X10_dropAll _ _ (bsX10_dropAll_0 hX hr) as M ho hp ⟨rfl, rfl⟩)
def pre_X10_begin (as : List mV) (M : mM) : Prop := ∃ k x y z, as = [.inr (.inr (10, k)), .inl x, .inl y, .inl z]
def fn_X10_begin : List mV → mM → Option mV × mM
  | [.inr (.inr (_, k)), .inl x, .inl y, .inl z], M => (none, mset (mset (mset (mset (mset (mset (mset (mset (mset (mset M k 0 x) k 1 y) k 2 z) k 3 0) k 4 0) k 5 0) k 6 0) k 7 0) k 8 0) k 9 0)
  | _, M => (none, M)
theorem ok_X10_begin (as : List mV) (M : mM) (h : pre_X10_begin as M) (_ : ∀ v ∈ as, okV v) : okR (fn_X10_begin as M).1 := by
  obtain ⟨k, x, y, z, rfl⟩ := h
  first | trivial | exact (by decide +kernel : kof 14 = 8)
theorem len_X10_begin (as : List mV) (M : mM) (h : pre_X10_begin as M) : (inL as).length ≤ 4 := by
  obtain ⟨k, x, y, z, rfl⟩ := h
  exact Nat.le_of_ble_eq_true rfl

theorem fp_100 : FPk "FairBlocks$User" 21 10 3 1 .boolean := ⟨RX10, TX10, 10, tyX10, rfl, inX10, by decide, w_100, by decide, rfl, tyX10_ok, nmX10, rfl, rfl⟩
theorem fp_111 : FPk "FairBlocks$User" 31 10 6 0 .int := ⟨RX10, TX10, 10, tyX10, rfl, inX10, by decide, w_111, by decide, rfl, tyX10_ok, nmX10, rfl, rfl⟩
theorem fp_113 : FPk "FairBlocks$User" 34 10 7 0 .int := ⟨RX10, TX10, 10, tyX10, rfl, inX10, by decide, w_113, by decide, rfl, tyX10_ok, nmX10, rfl, rfl⟩
theorem fp_118 : FPk "FairBlocks$User" 37 10 8 0 .int := ⟨RX10, TX10, 10, tyX10, rfl, inX10, by decide, w_118, by decide, rfl, tyX10_ok, nmX10, rfl, rfl⟩
theorem fp_119 : FPk "FairBlocks$User" 40 10 9 0 .int := ⟨RX10, TX10, 10, tyX10, rfl, inX10, by decide, w_119, by decide, rfl, tyX10_ok, nmX10, rfl, rfl⟩
theorem fp_93 : FPk "FairBlocks$User" 9 10 0 0 .int := ⟨RX10, TX10, 10, tyX10, rfl, inX10, by decide, w_93, by decide, rfl, tyX10_ok, nmX10, rfl, rfl⟩
theorem fp_95 : FPk "FairBlocks$User" 15 10 1 0 .int := ⟨RX10, TX10, 10, tyX10, rfl, inX10, by decide, w_95, by decide, rfl, tyX10_ok, nmX10, rfl, rfl⟩
theorem fp_99 : FPk "FairBlocks$User" 18 10 2 0 .int := ⟨RX10, TX10, 10, tyX10, rfl, inX10, by decide, w_99, by decide, rfl, tyX10_ok, nmX10, rfl, rfl⟩
theorem dX10_begin_0 : decode cX10_begin 0 = .ok (.aload_n 0, 1) := by decide +kernel
theorem dX10_begin_1 : decode cX10_begin 1 = .ok (.iload_n 1, 1) := by decide +kernel
theorem dX10_begin_2 : decode cX10_begin 2 = .ok (.putfield 9, 3) := by decide +kernel
theorem dX10_begin_5 : decode cX10_begin 5 = .ok (.aload_n 0, 1) := by decide +kernel
theorem dX10_begin_6 : decode cX10_begin 6 = .ok (.iload_n 2, 1) := by decide +kernel
theorem dX10_begin_7 : decode cX10_begin 7 = .ok (.putfield 15, 3) := by decide +kernel
theorem dX10_begin_10 : decode cX10_begin 10 = .ok (.aload_n 0, 1) := by decide +kernel
theorem dX10_begin_11 : decode cX10_begin 11 = .ok (.iload_n 3, 1) := by decide +kernel
theorem dX10_begin_12 : decode cX10_begin 12 = .ok (.putfield 18, 3) := by decide +kernel
theorem dX10_begin_15 : decode cX10_begin 15 = .ok (.aload_n 0, 1) := by decide +kernel
theorem dX10_begin_16 : decode cX10_begin 16 = .ok (.iconst 0, 1) := by decide +kernel
theorem dX10_begin_17 : decode cX10_begin 17 = .ok (.putfield 21, 3) := by decide +kernel
theorem dX10_begin_20 : decode cX10_begin 20 = .ok (.aload_n 0, 1) := by decide +kernel
theorem dX10_begin_21 : decode cX10_begin 21 = .ok (.iconst 0, 1) := by decide +kernel
theorem dX10_begin_22 : decode cX10_begin 22 = .ok (.putfield 25, 3) := by decide +kernel
theorem dX10_begin_25 : decode cX10_begin 25 = .ok (.aload_n 0, 1) := by decide +kernel
theorem dX10_begin_26 : decode cX10_begin 26 = .ok (.iconst 0, 1) := by decide +kernel
theorem dX10_begin_27 : decode cX10_begin 27 = .ok (.putfield 28, 3) := by decide +kernel
theorem dX10_begin_30 : decode cX10_begin 30 = .ok (.aload_n 0, 1) := by decide +kernel
theorem dX10_begin_31 : decode cX10_begin 31 = .ok (.iconst 0, 1) := by decide +kernel
theorem dX10_begin_32 : decode cX10_begin 32 = .ok (.putfield 31, 3) := by decide +kernel
theorem dX10_begin_35 : decode cX10_begin 35 = .ok (.aload_n 0, 1) := by decide +kernel
theorem dX10_begin_36 : decode cX10_begin 36 = .ok (.iconst 0, 1) := by decide +kernel
theorem dX10_begin_37 : decode cX10_begin 37 = .ok (.putfield 34, 3) := by decide +kernel
theorem dX10_begin_40 : decode cX10_begin 40 = .ok (.aload_n 0, 1) := by decide +kernel
theorem dX10_begin_41 : decode cX10_begin 41 = .ok (.iconst 0, 1) := by decide +kernel
theorem dX10_begin_42 : decode cX10_begin 42 = .ok (.putfield 37, 3) := by decide +kernel
theorem dX10_begin_45 : decode cX10_begin 45 = .ok (.aload_n 0, 1) := by decide +kernel
theorem dX10_begin_46 : decode cX10_begin 46 = .ok (.iconst 0, 1) := by decide +kernel
theorem dX10_begin_47 : decode cX10_begin 47 = .ok (.putfield 40, 3) := by decide +kernel
theorem dX10_begin_50 : decode cX10_begin 50 = .ok (.return_, 1) := by decide +kernel
theorem mk_X10_begin : MVk yX10_begin "FairBlocks$User" cX10_begin 4 (Option.none : Option FieldType) 3 := ⟨w_383, w_381, w_382, w_6, rfl, by decide +kernel, by decide +kernel, by decide +kernel⟩
def BX10_begin_0 (G : Nat → KT) (Q : Option mV → mM → Prop) : KT := (s_aload 0 (s_iload 1 (s_puti 10 0 (s_aload 0 (s_iload 2 (s_puti 10 1 (s_aload 0 (s_iload 3 (s_puti 10 2 (s_aload 0 (s_iconst (0) (s_putz 10 3 (s_aload 0 (s_iconst (0) (s_puti 10 4 (s_aload 0 (s_iconst (0) (s_puti 10 5 (s_aload 0 (s_iconst (0) (s_puti 10 6 (s_aload 0 (s_iconst (0) (s_puti 10 7 (s_aload 0 (s_iconst (0) (s_puti 10 8 (s_aload 0 (s_iconst (0) (s_puti 10 9 (s_vret Q)))))))))))))))))))))))))))))))
set_option maxRecDepth 4000 in
theorem bsX10_begin_0 {p : Program} {l : Launch} {e : Env} {s : State} {m : MethodId} {args : Array Value} {below : List Frame} {meth : Method} {c : Code} {D : va_G} {ca : Nat → ClassId} {ad : Nat → Nat} {A : Nat → Prop} {Q : Option mV → mM → Prop} (hX : CX p s m args meth c 4 cX10_begin "FairBlocks$User" D ca ad A) (hr : meth.sig.returnType = (Option.none : Option FieldType)) : ∀ lv st M, BX10_begin_0 (Gd p l e (rmD 0) s m args below meth c 4 D ca ad A 0 0 (MQ below (QC D ca ad A Q) args s 0 0 A)) Q lv st M → Gd p l e (rmD 0) s m args below meth c 4 D ca ad A 0 0 (MQ below (QC D ca ad A Q) args s 0 0 A) 0 lv st M :=
  (sd_aload_n hX dX10_begin_0 rfl (sd_iload_n hX dX10_begin_1 rfl (sd_puti hX fp_93 dX10_begin_2 (sd_aload_n hX dX10_begin_5 rfl (sd_iload_n hX dX10_begin_6 rfl (sd_puti hX fp_95 dX10_begin_7 (sd_aload_n hX dX10_begin_10 rfl (sd_iload_n hX dX10_begin_11 rfl (sd_puti hX fp_99 dX10_begin_12 (sd_aload_n hX dX10_begin_15 rfl (sd_iconst hX dX10_begin_16 rfl (sd_putz hX fp_100 dX10_begin_17 (sd_aload_n hX dX10_begin_20 rfl (sd_iconst hX dX10_begin_21 rfl (sd_puti hX fp_107 dX10_begin_22 (sd_aload_n hX dX10_begin_25 rfl (sd_iconst hX dX10_begin_26 rfl (sd_puti hX fp_109 dX10_begin_27 (sd_aload_n hX dX10_begin_30 rfl (sd_iconst hX dX10_begin_31 rfl (sd_puti hX fp_111 dX10_begin_32 (sd_aload_n hX dX10_begin_35 rfl (sd_iconst hX dX10_begin_36 rfl (sd_puti hX fp_113 dX10_begin_37 (sd_aload_n hX dX10_begin_40 rfl (sd_iconst hX dX10_begin_41 rfl (sd_puti hX fp_118 dX10_begin_42 (sd_aload_n hX dX10_begin_45 rfl (sd_iconst hX dX10_begin_46 rfl (sd_puti hX fp_119 dX10_begin_47 (sd_vret hX hr dX10_begin_50)))))))))))))))))))))))))))))))
set_option maxHeartbeats 400000 in
theorem pf_X10_begin (G : Nat → KT) (Q : Option mV → mM → Prop) (h0 : ∀ lv st M, BX10_begin_0 G Q lv st M → G 0 lv st M) (as : List mV) (M : mM) (ho : ∀ v ∈ as, okV v) (hp : pre_X10_begin as M) (hQ : Q (fn_X10_begin as M).1 (fn_X10_begin as M).2) : G 0 (inL as ++ List.replicate (4 - (inL as).length) none) [] M := by
  obtain ⟨k, x, y, z, rfl⟩ := hp
  (apply h0; simp only [BX10_begin_0, s_mth, s_mab, s_at, s_iconst, s_lconst, s_iload, s_lload, s_aload, s_istore, s_lstore, s_astore, s_iinc, s_bin, s_binG, s_un, s_lbin, s_lbinG, s_lsh, s_lcmp, s_i2l, s_l2i, s_dup, s_dup2, s_pop, s_if, s_icmp, s_geti, s_getl, s_getr, s_puti, s_putz, s_putl, s_iald, s_zald, s_iast, s_zast, s_aaldS, s_aaldU, s_gets, s_tald, s_tsw, tsw, s_iret, s_zret, s_lret, s_aret, s_vret, s_callV, s_callS, c1, nl1, keepL, csum, pushR, inL, List.getD_cons_zero, List.getD_cons_succ, List.set_cons_zero, List.set_cons_succ, List.cons_append, List.nil_append, List.append_nil, List.replicate, List.length_cons, List.length_nil, List.take_succ_cons, List.take_zero, List.drop_succ_cons, List.drop_zero, List.reverse_cons, List.reverse_nil, true_and, and_true, forall_const, not_true_eq_false, not_false_eq_true, false_implies, true_implies, implies_true, one0, m10, Nat.reduceAdd, Nat.reduceSub, Nat.reduceLeDiff, Nat.zero_add, Nat.add_zero])
  exact ⟨Or.inl trivial, hQ⟩
theorem ct_X10_begin (l : Launch) : Con l yX10_begin cX10_begin 4 (Option.none : Option FieldType) 0 pre_X10_begin fn_X10_begin := con_of (by decide +kernel) ok_X10_begin len_X10_begin (fun p e s m args below meth c D ca ad A as M hX hr hp ho => pf_X10_begin _ _ (bsX10_begin_0 hX hr) as M ho hp ⟨rfl, rfl⟩)
def cpU (M : mM) (k o : Nat) : mM := mset (mset (mset (mset (mset (mset (mset (mset (mset (mset M k 0 (M.1 o 0)) k 1 (M.1 o 1)) k 2 (M.1 o 2)) k 3 (M.1 o 3)) k 4 (M.1 o 4)) k 5 (M.1 o 5)) k 6 (M.1 o 6)) k 7 (M.1 o 7)) k 8 (M.1 o 8)) k 9 (M.1 o 9)
def pre_X10_copyFrom (as : List mV) (M : mM) : Prop := ∃ k o, as = [.inr (.inr (10, k)), .inr (.inr (10, o))] ∧ (M.1 o 3 = 0 ∨ M.1 o 3 = 1)
def fn_X10_copyFrom : List mV → mM → Option mV × mM
  | [.inr (.inr (_, k)), .inr (.inr (_, o))], M => (none, cpU M k o)
  | _, M => (none, M)
theorem ok_X10_copyFrom (as : List mV) (M : mM) (h : pre_X10_copyFrom as M) (_ : ∀ v ∈ as, okV v) : okR (fn_X10_copyFrom as M).1 := by
  obtain ⟨k, o, rfl, -⟩ := h
  first | trivial | exact (by decide +kernel : kof 14 = 8)
theorem len_X10_copyFrom (as : List mV) (M : mM) (h : pre_X10_copyFrom as M) : (inL as).length ≤ 2 := by
  obtain ⟨k, o, rfl, -⟩ := h
  exact Nat.le_of_ble_eq_true rfl

theorem fl_100 : FLk "FairBlocks$User" 21 10 3 1 := ⟨RX10, TX10, 10, rfl, inX10, by decide, w_100, by decide, rfl⟩
theorem fl_111 : FLk "FairBlocks$User" 31 10 6 0 := ⟨RX10, TX10, 10, rfl, inX10, by decide, w_111, by decide, rfl⟩
theorem fl_113 : FLk "FairBlocks$User" 34 10 7 0 := ⟨RX10, TX10, 10, rfl, inX10, by decide, w_113, by decide, rfl⟩
theorem fl_118 : FLk "FairBlocks$User" 37 10 8 0 := ⟨RX10, TX10, 10, rfl, inX10, by decide, w_118, by decide, rfl⟩
theorem fl_119 : FLk "FairBlocks$User" 40 10 9 0 := ⟨RX10, TX10, 10, rfl, inX10, by decide, w_119, by decide, rfl⟩
theorem fl_93 : FLk "FairBlocks$User" 9 10 0 0 := ⟨RX10, TX10, 10, rfl, inX10, by decide, w_93, by decide, rfl⟩
theorem fl_95 : FLk "FairBlocks$User" 15 10 1 0 := ⟨RX10, TX10, 10, rfl, inX10, by decide, w_95, by decide, rfl⟩
theorem fl_99 : FLk "FairBlocks$User" 18 10 2 0 := ⟨RX10, TX10, 10, rfl, inX10, by decide, w_99, by decide, rfl⟩
theorem dX10_copyFrom_0 : decode cX10_copyFrom 0 = .ok (.aload_n 0, 1) := by decide +kernel
theorem dX10_copyFrom_1 : decode cX10_copyFrom 1 = .ok (.aload_n 1, 1) := by decide +kernel
theorem dX10_copyFrom_2 : decode cX10_copyFrom 2 = .ok (.getfield 9, 3) := by decide +kernel
theorem dX10_copyFrom_5 : decode cX10_copyFrom 5 = .ok (.putfield 9, 3) := by decide +kernel
theorem dX10_copyFrom_8 : decode cX10_copyFrom 8 = .ok (.aload_n 0, 1) := by decide +kernel
theorem dX10_copyFrom_9 : decode cX10_copyFrom 9 = .ok (.aload_n 1, 1) := by decide +kernel
theorem dX10_copyFrom_10 : decode cX10_copyFrom 10 = .ok (.getfield 15, 3) := by decide +kernel
theorem dX10_copyFrom_13 : decode cX10_copyFrom 13 = .ok (.putfield 15, 3) := by decide +kernel
theorem dX10_copyFrom_16 : decode cX10_copyFrom 16 = .ok (.aload_n 0, 1) := by decide +kernel
theorem dX10_copyFrom_17 : decode cX10_copyFrom 17 = .ok (.aload_n 1, 1) := by decide +kernel
theorem dX10_copyFrom_18 : decode cX10_copyFrom 18 = .ok (.getfield 18, 3) := by decide +kernel
theorem dX10_copyFrom_21 : decode cX10_copyFrom 21 = .ok (.putfield 18, 3) := by decide +kernel
theorem dX10_copyFrom_24 : decode cX10_copyFrom 24 = .ok (.aload_n 0, 1) := by decide +kernel
theorem dX10_copyFrom_25 : decode cX10_copyFrom 25 = .ok (.aload_n 1, 1) := by decide +kernel
theorem dX10_copyFrom_26 : decode cX10_copyFrom 26 = .ok (.getfield 21, 3) := by decide +kernel
theorem dX10_copyFrom_29 : decode cX10_copyFrom 29 = .ok (.putfield 21, 3) := by decide +kernel
theorem dX10_copyFrom_32 : decode cX10_copyFrom 32 = .ok (.aload_n 0, 1) := by decide +kernel
theorem dX10_copyFrom_33 : decode cX10_copyFrom 33 = .ok (.aload_n 1, 1) := by decide +kernel
theorem dX10_copyFrom_34 : decode cX10_copyFrom 34 = .ok (.getfield 25, 3) := by decide +kernel
theorem dX10_copyFrom_37 : decode cX10_copyFrom 37 = .ok (.putfield 25, 3) := by decide +kernel
theorem dX10_copyFrom_40 : decode cX10_copyFrom 40 = .ok (.aload_n 0, 1) := by decide +kernel
theorem dX10_copyFrom_41 : decode cX10_copyFrom 41 = .ok (.aload_n 1, 1) := by decide +kernel
theorem dX10_copyFrom_42 : decode cX10_copyFrom 42 = .ok (.getfield 28, 3) := by decide +kernel
theorem dX10_copyFrom_45 : decode cX10_copyFrom 45 = .ok (.putfield 28, 3) := by decide +kernel
theorem dX10_copyFrom_48 : decode cX10_copyFrom 48 = .ok (.aload_n 0, 1) := by decide +kernel
theorem dX10_copyFrom_49 : decode cX10_copyFrom 49 = .ok (.aload_n 1, 1) := by decide +kernel
theorem dX10_copyFrom_50 : decode cX10_copyFrom 50 = .ok (.getfield 31, 3) := by decide +kernel
theorem dX10_copyFrom_53 : decode cX10_copyFrom 53 = .ok (.putfield 31, 3) := by decide +kernel
theorem dX10_copyFrom_56 : decode cX10_copyFrom 56 = .ok (.aload_n 0, 1) := by decide +kernel
theorem dX10_copyFrom_57 : decode cX10_copyFrom 57 = .ok (.aload_n 1, 1) := by decide +kernel
theorem dX10_copyFrom_58 : decode cX10_copyFrom 58 = .ok (.getfield 34, 3) := by decide +kernel
theorem dX10_copyFrom_61 : decode cX10_copyFrom 61 = .ok (.putfield 34, 3) := by decide +kernel
theorem dX10_copyFrom_64 : decode cX10_copyFrom 64 = .ok (.aload_n 0, 1) := by decide +kernel
theorem dX10_copyFrom_65 : decode cX10_copyFrom 65 = .ok (.aload_n 1, 1) := by decide +kernel
theorem dX10_copyFrom_66 : decode cX10_copyFrom 66 = .ok (.getfield 37, 3) := by decide +kernel
theorem dX10_copyFrom_69 : decode cX10_copyFrom 69 = .ok (.putfield 37, 3) := by decide +kernel
theorem dX10_copyFrom_72 : decode cX10_copyFrom 72 = .ok (.aload_n 0, 1) := by decide +kernel
theorem dX10_copyFrom_73 : decode cX10_copyFrom 73 = .ok (.aload_n 1, 1) := by decide +kernel
theorem dX10_copyFrom_74 : decode cX10_copyFrom 74 = .ok (.getfield 40, 3) := by decide +kernel
theorem dX10_copyFrom_77 : decode cX10_copyFrom 77 = .ok (.putfield 40, 3) := by decide +kernel
theorem dX10_copyFrom_80 : decode cX10_copyFrom 80 = .ok (.return_, 1) := by decide +kernel
theorem mk_X10_copyFrom : MVk yX10_copyFrom "FairBlocks$User" cX10_copyFrom 2 (Option.none : Option FieldType) 1 := ⟨w_424, w_422, w_423, w_6, rfl, by decide +kernel, by decide +kernel, by decide +kernel⟩
def BX10_copyFrom_0 (G : Nat → KT) (Q : Option mV → mM → Prop) : KT := (s_aload 0 (s_aload 1 (s_geti 10 0 (s_puti 10 0 (s_aload 0 (s_aload 1 (s_geti 10 1 (s_puti 10 1 (s_aload 0 (s_aload 1 (s_geti 10 2 (s_puti 10 2 (s_aload 0 (s_aload 1 (s_geti 10 3 (s_putz 10 3 (s_aload 0 (s_aload 1 (s_geti 10 4 (s_puti 10 4 (s_aload 0 (s_aload 1 (s_geti 10 5 (s_puti 10 5 (s_aload 0 (s_aload 1 (s_geti 10 6 (s_puti 10 6 (s_aload 0 (s_aload 1 (s_geti 10 7 (s_puti 10 7 (s_aload 0 (s_aload 1 (s_geti 10 8 (s_puti 10 8 (s_aload 0 (s_aload 1 (s_geti 10 9 (s_puti 10 9 (s_vret Q)))))))))))))))))))))))))))))))))))))))))
set_option maxRecDepth 4000 in
theorem bsX10_copyFrom_0 {p : Program} {l : Launch} {e : Env} {s : State} {m : MethodId} {args : Array Value} {below : List Frame} {meth : Method} {c : Code} {D : va_G} {ca : Nat → ClassId} {ad : Nat → Nat} {A : Nat → Prop} {Q : Option mV → mM → Prop} (hX : CX p s m args meth c 2 cX10_copyFrom "FairBlocks$User" D ca ad A) (hr : meth.sig.returnType = (Option.none : Option FieldType)) : ∀ lv st M, BX10_copyFrom_0 (Gd p l e (rmD 0) s m args below meth c 2 D ca ad A 0 0 (MQ below (QC D ca ad A Q) args s 0 0 A)) Q lv st M → Gd p l e (rmD 0) s m args below meth c 2 D ca ad A 0 0 (MQ below (QC D ca ad A Q) args s 0 0 A) 0 lv st M :=
  (sd_aload_n hX dX10_copyFrom_0 rfl (sd_aload_n hX dX10_copyFrom_1 rfl (sd_geti hX fl_93 (by decide) dX10_copyFrom_2 (sd_puti hX fp_93 dX10_copyFrom_5 (sd_aload_n hX dX10_copyFrom_8 rfl (sd_aload_n hX dX10_copyFrom_9 rfl (sd_geti hX fl_95 (by decide) dX10_copyFrom_10 (sd_puti hX fp_95 dX10_copyFrom_13 (sd_aload_n hX dX10_copyFrom_16 rfl (sd_aload_n hX dX10_copyFrom_17 rfl (sd_geti hX fl_99 (by decide) dX10_copyFrom_18 (sd_puti hX fp_99 dX10_copyFrom_21 (sd_aload_n hX dX10_copyFrom_24 rfl (sd_aload_n hX dX10_copyFrom_25 rfl (sd_geti hX fl_100 (by decide) dX10_copyFrom_26 (sd_putz hX fp_100 dX10_copyFrom_29 (sd_aload_n hX dX10_copyFrom_32 rfl (sd_aload_n hX dX10_copyFrom_33 rfl (sd_geti hX fl_107 (by decide) dX10_copyFrom_34 (sd_puti hX fp_107 dX10_copyFrom_37 (sd_aload_n hX dX10_copyFrom_40 rfl (sd_aload_n hX dX10_copyFrom_41 rfl (sd_geti hX fl_109 (by decide) dX10_copyFrom_42 (sd_puti hX fp_109 dX10_copyFrom_45 (sd_aload_n hX dX10_copyFrom_48 rfl (sd_aload_n hX dX10_copyFrom_49 rfl (sd_geti hX fl_111 (by decide) dX10_copyFrom_50 (sd_puti hX fp_111 dX10_copyFrom_53 (sd_aload_n hX dX10_copyFrom_56 rfl (sd_aload_n hX dX10_copyFrom_57 rfl (sd_geti hX fl_113 (by decide) dX10_copyFrom_58 (sd_puti hX fp_113 dX10_copyFrom_61 (sd_aload_n hX dX10_copyFrom_64 rfl (sd_aload_n hX dX10_copyFrom_65 rfl (sd_geti hX fl_118 (by decide) dX10_copyFrom_66 (sd_puti hX fp_118 dX10_copyFrom_69 (sd_aload_n hX dX10_copyFrom_72 rfl (sd_aload_n hX dX10_copyFrom_73 rfl (sd_geti hX fl_119 (by decide) dX10_copyFrom_74 (sd_puti hX fp_119 dX10_copyFrom_77 (sd_vret hX hr dX10_copyFrom_80)))))))))))))))))))))))))))))))))))))))))
set_option maxHeartbeats 400000 in
theorem pf_X10_copyFrom (G : Nat → KT) (Q : Option mV → mM → Prop) (h0 : ∀ lv st M, BX10_copyFrom_0 G Q lv st M → G 0 lv st M) (as : List mV) (M : mM) (ho : ∀ v ∈ as, okV v) (hp : pre_X10_copyFrom as M) (hQ : Q (fn_X10_copyFrom as M).1 (fn_X10_copyFrom as M).2) : G 0 (inL as ++ List.replicate (2 - (inL as).length) none) [] M := by
  obtain ⟨k, o, rfl, h3⟩ := hp
  (apply h0; simp only [BX10_copyFrom_0, s_mth, s_mab, s_at, s_iconst, s_lconst, s_iload, s_lload, s_aload, s_istore, s_lstore, s_astore, s_iinc, s_bin, s_binG, s_un, s_lbin, s_lbinG, s_lsh, s_lcmp, s_i2l, s_l2i, s_dup, s_dup2, s_pop, s_if, s_icmp, s_geti, s_getl, s_getr, s_puti, s_putz, s_putl, s_iald, s_zald, s_iast, s_zast, s_aaldS, s_aaldU, s_gets, s_tald, s_tsw, tsw, s_iret, s_zret, s_lret, s_aret, s_vret, s_callV, s_callS, c1, nl1, keepL, csum, pushR, inL, List.getD_cons_zero, List.getD_cons_succ, List.set_cons_zero, List.set_cons_succ, List.cons_append, List.nil_append, List.append_nil, List.replicate, List.length_cons, List.length_nil, List.take_succ_cons, List.take_zero, List.drop_succ_cons, List.drop_zero, List.reverse_cons, List.reverse_nil, true_and, and_true, forall_const, not_true_eq_false, not_false_eq_true, false_implies, true_implies, implies_true, one0, m10, Nat.reduceAdd, Nat.reduceSub, Nat.reduceLeDiff, Nat.zero_add, Nat.add_zero])
  simp [mset_get]
  exact ⟨h3, hQ⟩
theorem ct_X10_copyFrom (l : Launch) : Con l yX10_copyFrom cX10_copyFrom 2 (Option.none : Option FieldType) 0 pre_X10_copyFrom fn_X10_copyFrom := con_of (by decide +kernel) ok_X10_copyFrom len_X10_copyFrom (fun p e s m args below meth c D ca ad A as M hX hr hp ho => pf_X10_copyFrom _ _ (bsX10_copyFrom_0 hX hr) as M ho hp ⟨rfl, rfl⟩)
def told (M : mM) (k : Nat) (w : Int32) : Int32 := if w.toInt < 1 ∨ 10 < w.toInt then -2 else if w.toInt = 4 then (if M.1 k 3 = 0 then 0 else 1) else M.1 k (w.toInt.toNat - 1)
def pre_X10_told (as : List mV) (M : mM) : Prop := ∃ k x, as = [.inr (.inr (10, k)), .inl x]
def fn_X10_told : List mV → mM → Option mV × mM
  | [.inr (.inr (_, k)), .inl x], M => (some (.inl (told M k x)), M)
  | _, M => (none, M)
theorem ok_X10_told (as : List mV) (M : mM) (h : pre_X10_told as M) (_ : ∀ v ∈ as, okV v) : okR (fn_X10_told as M).1 := by
  obtain ⟨k, x, rfl⟩ := h
  first | trivial | exact (by decide +kernel : kof 14 = 8)
theorem len_X10_told (as : List mV) (M : mM) (h : pre_X10_told as M) : (inL as).length ≤ 2 := by
  obtain ⟨k, x, rfl⟩ := h
  exact Nat.le_of_ble_eq_true rfl


theorem dX10_told_0 : decode cX10_told 0 = .ok (.iload_n 1, 1) := by decide +kernel
theorem dX10_told_1 : decode cX10_told 1 = .ok (.tableswitch 113 1 10 #[55, 60, 65, 70, 83, 88, 93, 98, 103, 108], 55) := by decide +kernel
theorem dX10_told_56 : decode cX10_told 56 = .ok (.aload_n 0, 1) := by decide +kernel
theorem dX10_told_57 : decode cX10_told 57 = .ok (.getfield 9, 3) := by decide +kernel
theorem dX10_told_60 : decode cX10_told 60 = .ok (.ireturn, 1) := by decide +kernel
theorem dX10_told_61 : decode cX10_told 61 = .ok (.aload_n 0, 1) := by decide +kernel
theorem dX10_told_62 : decode cX10_told 62 = .ok (.getfield 15, 3) := by decide +kernel
theorem dX10_told_65 : decode cX10_told 65 = .ok (.ireturn, 1) := by decide +kernel
theorem dX10_told_66 : decode cX10_told 66 = .ok (.aload_n 0, 1) := by decide +kernel
theorem dX10_told_67 : decode cX10_told 67 = .ok (.getfield 18, 3) := by decide +kernel
theorem dX10_told_70 : decode cX10_told 70 = .ok (.ireturn, 1) := by decide +kernel
theorem dX10_told_71 : decode cX10_told 71 = .ok (.aload_n 0, 1) := by decide +kernel
theorem dX10_told_72 : decode cX10_told 72 = .ok (.getfield 21, 3) := by decide +kernel
theorem dX10_told_75 : decode cX10_told 75 = .ok (.ifCond .eq 7, 3) := by decide +kernel
theorem dX10_told_78 : decode cX10_told 78 = .ok (.iconst 1, 1) := by decide +kernel
theorem dX10_told_79 : decode cX10_told 79 = .ok (.goto 4, 3) := by decide +kernel
theorem dX10_told_82 : decode cX10_told 82 = .ok (.iconst 0, 1) := by decide +kernel
theorem dX10_told_83 : decode cX10_told 83 = .ok (.ireturn, 1) := by decide +kernel
theorem dX10_told_84 : decode cX10_told 84 = .ok (.aload_n 0, 1) := by decide +kernel
theorem dX10_told_85 : decode cX10_told 85 = .ok (.getfield 25, 3) := by decide +kernel
theorem dX10_told_88 : decode cX10_told 88 = .ok (.ireturn, 1) := by decide +kernel
theorem dX10_told_89 : decode cX10_told 89 = .ok (.aload_n 0, 1) := by decide +kernel
theorem dX10_told_90 : decode cX10_told 90 = .ok (.getfield 28, 3) := by decide +kernel
theorem dX10_told_93 : decode cX10_told 93 = .ok (.ireturn, 1) := by decide +kernel
theorem dX10_told_94 : decode cX10_told 94 = .ok (.aload_n 0, 1) := by decide +kernel
theorem dX10_told_95 : decode cX10_told 95 = .ok (.getfield 31, 3) := by decide +kernel
theorem dX10_told_98 : decode cX10_told 98 = .ok (.ireturn, 1) := by decide +kernel
theorem dX10_told_99 : decode cX10_told 99 = .ok (.aload_n 0, 1) := by decide +kernel
theorem dX10_told_100 : decode cX10_told 100 = .ok (.getfield 34, 3) := by decide +kernel
theorem dX10_told_103 : decode cX10_told 103 = .ok (.ireturn, 1) := by decide +kernel
theorem dX10_told_104 : decode cX10_told 104 = .ok (.aload_n 0, 1) := by decide +kernel
theorem dX10_told_105 : decode cX10_told 105 = .ok (.getfield 37, 3) := by decide +kernel
theorem dX10_told_108 : decode cX10_told 108 = .ok (.ireturn, 1) := by decide +kernel
theorem dX10_told_109 : decode cX10_told 109 = .ok (.aload_n 0, 1) := by decide +kernel
theorem dX10_told_110 : decode cX10_told 110 = .ok (.getfield 40, 3) := by decide +kernel
theorem dX10_told_113 : decode cX10_told 113 = .ok (.ireturn, 1) := by decide +kernel
theorem dX10_told_114 : decode cX10_told 114 = .ok (.bipush (-2), 2) := by decide +kernel
theorem dX10_told_116 : decode cX10_told 116 = .ok (.ireturn, 1) := by decide +kernel
theorem mk_X10_told : MVk yX10_told "FairBlocks$User" cX10_told 2 (Option.some FieldType.int) 1 := ⟨w_408, w_406, w_407, w_6, rfl, by decide +kernel, by decide +kernel, by decide +kernel⟩
def BX10_told_0 (G : Nat → KT) (Q : Option mV → mM → Prop) : KT := (s_iload 1 (s_tsw (1) (10) [s_at G 56 [true, false], s_at G 61 [true, false], s_at G 66 [true, false], s_at G 71 [true, false], s_at G 84 [true, false], s_at G 89 [true, false], s_at G 94 [true, false], s_at G 99 [true, false], s_at G 104 [true, false], s_at G 109 [true, false]] (s_at G 114 [false, false])))
set_option maxRecDepth 4000 in
theorem bsX10_told_0 {p : Program} {l : Launch} {e : Env} {s : State} {m : MethodId} {args : Array Value} {below : List Frame} {meth : Method} {c : Code} {D : va_G} {ca : Nat → ClassId} {ad : Nat → Nat} {A : Nat → Prop} {Q : Option mV → mM → Prop} (hX : CX p s m args meth c 2 cX10_told "FairBlocks$User" D ca ad A) (hr : meth.sig.returnType = (Option.some FieldType.int)) : ∀ lv st M, BX10_told_0 (Gd p l e (rmD 0) s m args below meth c 2 D ca ad A 0 0 (MQ below (QC D ca ad A Q) args s 0 0 A)) Q lv st M → Gd p l e (rmD 0) s m args below meth c 2 D ca ad A 0 0 (MQ below (QC D ca ad A Q) args s 0 0 A) 0 lv st M :=
  (sd_iload_n hX dX10_told_0 rfl (sd_tsw hX dX10_told_1 (ts := [56, 61, 66, 71, 84, 89, 94, 99, 104, 109]) (td := 114) (by decide) (by decide) rfl ⟨sd_at, sd_at, sd_at, sd_at, sd_at, sd_at, sd_at, sd_at, sd_at, sd_at, trivial⟩ sd_at))
def BX10_told_56 (G : Nat → KT) (Q : Option mV → mM → Prop) : KT := (s_aload 0 (s_geti 10 0 (s_iret Q)))
set_option maxRecDepth 4000 in
theorem bsX10_told_56 {p : Program} {l : Launch} {e : Env} {s : State} {m : MethodId} {args : Array Value} {below : List Frame} {meth : Method} {c : Code} {D : va_G} {ca : Nat → ClassId} {ad : Nat → Nat} {A : Nat → Prop} {Q : Option mV → mM → Prop} (hX : CX p s m args meth c 2 cX10_told "FairBlocks$User" D ca ad A) (hr : meth.sig.returnType = (Option.some FieldType.int)) : ∀ lv st M, BX10_told_56 (Gd p l e (rmD 0) s m args below meth c 2 D ca ad A 0 0 (MQ below (QC D ca ad A Q) args s 0 0 A)) Q lv st M → Gd p l e (rmD 0) s m args below meth c 2 D ca ad A 0 0 (MQ below (QC D ca ad A Q) args s 0 0 A) 56 lv st M :=
  (sd_aload_n hX dX10_told_56 rfl (sd_geti hX fl_93 (by decide) dX10_told_57 (sd_iret hX hr dX10_told_60)))
def BX10_told_61 (G : Nat → KT) (Q : Option mV → mM → Prop) : KT := (s_aload 0 (s_geti 10 1 (s_iret Q)))
set_option maxRecDepth 4000 in
theorem bsX10_told_61 {p : Program} {l : Launch} {e : Env} {s : State} {m : MethodId} {args : Array Value} {below : List Frame} {meth : Method} {c : Code} {D : va_G} {ca : Nat → ClassId} {ad : Nat → Nat} {A : Nat → Prop} {Q : Option mV → mM → Prop} (hX : CX p s m args meth c 2 cX10_told "FairBlocks$User" D ca ad A) (hr : meth.sig.returnType = (Option.some FieldType.int)) : ∀ lv st M, BX10_told_61 (Gd p l e (rmD 0) s m args below meth c 2 D ca ad A 0 0 (MQ below (QC D ca ad A Q) args s 0 0 A)) Q lv st M → Gd p l e (rmD 0) s m args below meth c 2 D ca ad A 0 0 (MQ below (QC D ca ad A Q) args s 0 0 A) 61 lv st M :=
  (sd_aload_n hX dX10_told_61 rfl (sd_geti hX fl_95 (by decide) dX10_told_62 (sd_iret hX hr dX10_told_65)))
def BX10_told_66 (G : Nat → KT) (Q : Option mV → mM → Prop) : KT := (s_aload 0 (s_geti 10 2 (s_iret Q)))
set_option maxRecDepth 4000 in
theorem bsX10_told_66 {p : Program} {l : Launch} {e : Env} {s : State} {m : MethodId} {args : Array Value} {below : List Frame} {meth : Method} {c : Code} {D : va_G} {ca : Nat → ClassId} {ad : Nat → Nat} {A : Nat → Prop} {Q : Option mV → mM → Prop} (hX : CX p s m args meth c 2 cX10_told "FairBlocks$User" D ca ad A) (hr : meth.sig.returnType = (Option.some FieldType.int)) : ∀ lv st M, BX10_told_66 (Gd p l e (rmD 0) s m args below meth c 2 D ca ad A 0 0 (MQ below (QC D ca ad A Q) args s 0 0 A)) Q lv st M → Gd p l e (rmD 0) s m args below meth c 2 D ca ad A 0 0 (MQ below (QC D ca ad A Q) args s 0 0 A) 66 lv st M :=
  (sd_aload_n hX dX10_told_66 rfl (sd_geti hX fl_99 (by decide) dX10_told_67 (sd_iret hX hr dX10_told_70)))
def BX10_told_71 (G : Nat → KT) (Q : Option mV → mM → Prop) : KT := (s_aload 0 (s_geti 10 3 (s_if (fun x => x = 0) (s_at G 82 [false, false]) (s_iconst (1) (s_at G 83 [false, false])))))
set_option maxRecDepth 4000 in
theorem bsX10_told_71 {p : Program} {l : Launch} {e : Env} {s : State} {m : MethodId} {args : Array Value} {below : List Frame} {meth : Method} {c : Code} {D : va_G} {ca : Nat → ClassId} {ad : Nat → Nat} {A : Nat → Prop} {Q : Option mV → mM → Prop} (hX : CX p s m args meth c 2 cX10_told "FairBlocks$User" D ca ad A) (hr : meth.sig.returnType = (Option.some FieldType.int)) : ∀ lv st M, BX10_told_71 (Gd p l e (rmD 0) s m args below meth c 2 D ca ad A 0 0 (MQ below (QC D ca ad A Q) args s 0 0 A)) Q lv st M → Gd p l e (rmD 0) s m args below meth c 2 D ca ad A 0 0 (MQ below (QC D ca ad A Q) args s 0 0 A) 71 lv st M :=
  (sd_aload_n hX dX10_told_71 rfl (sd_geti hX fl_100 (by decide) dX10_told_72 (sd_if_eq hX dX10_told_75 (by decide) sd_at (sd_iconst hX dX10_told_78 rfl (sd_goto hX dX10_told_79 (by decide) sd_at)))))
def BX10_told_82 (G : Nat → KT) (Q : Option mV → mM → Prop) : KT := (s_iconst (0) (s_at G 83 [false, false]))
set_option maxRecDepth 4000 in
theorem bsX10_told_82 {p : Program} {l : Launch} {e : Env} {s : State} {m : MethodId} {args : Array Value} {below : List Frame} {meth : Method} {c : Code} {D : va_G} {ca : Nat → ClassId} {ad : Nat → Nat} {A : Nat → Prop} {Q : Option mV → mM → Prop} (hX : CX p s m args meth c 2 cX10_told "FairBlocks$User" D ca ad A) (hr : meth.sig.returnType = (Option.some FieldType.int)) : ∀ lv st M, BX10_told_82 (Gd p l e (rmD 0) s m args below meth c 2 D ca ad A 0 0 (MQ below (QC D ca ad A Q) args s 0 0 A)) Q lv st M → Gd p l e (rmD 0) s m args below meth c 2 D ca ad A 0 0 (MQ below (QC D ca ad A Q) args s 0 0 A) 82 lv st M :=
  (sd_iconst hX dX10_told_82 rfl sd_at)
def BX10_told_83 (G : Nat → KT) (Q : Option mV → mM → Prop) : KT := (s_iret Q)
set_option maxRecDepth 4000 in
theorem bsX10_told_83 {p : Program} {l : Launch} {e : Env} {s : State} {m : MethodId} {args : Array Value} {below : List Frame} {meth : Method} {c : Code} {D : va_G} {ca : Nat → ClassId} {ad : Nat → Nat} {A : Nat → Prop} {Q : Option mV → mM → Prop} (hX : CX p s m args meth c 2 cX10_told "FairBlocks$User" D ca ad A) (hr : meth.sig.returnType = (Option.some FieldType.int)) : ∀ lv st M, BX10_told_83 (Gd p l e (rmD 0) s m args below meth c 2 D ca ad A 0 0 (MQ below (QC D ca ad A Q) args s 0 0 A)) Q lv st M → Gd p l e (rmD 0) s m args below meth c 2 D ca ad A 0 0 (MQ below (QC D ca ad A Q) args s 0 0 A) 83 lv st M :=
  sd_iret hX hr dX10_told_83
def BX10_told_84 (G : Nat → KT) (Q : Option mV → mM → Prop) : KT := (s_aload 0 (s_geti 10 4 (s_iret Q)))
set_option maxRecDepth 4000 in
theorem bsX10_told_84 {p : Program} {l : Launch} {e : Env} {s : State} {m : MethodId} {args : Array Value} {below : List Frame} {meth : Method} {c : Code} {D : va_G} {ca : Nat → ClassId} {ad : Nat → Nat} {A : Nat → Prop} {Q : Option mV → mM → Prop} (hX : CX p s m args meth c 2 cX10_told "FairBlocks$User" D ca ad A) (hr : meth.sig.returnType = (Option.some FieldType.int)) : ∀ lv st M, BX10_told_84 (Gd p l e (rmD 0) s m args below meth c 2 D ca ad A 0 0 (MQ below (QC D ca ad A Q) args s 0 0 A)) Q lv st M → Gd p l e (rmD 0) s m args below meth c 2 D ca ad A 0 0 (MQ below (QC D ca ad A Q) args s 0 0 A) 84 lv st M :=
  (sd_aload_n hX dX10_told_84 rfl (sd_geti hX fl_107 (by decide) dX10_told_85 (sd_iret hX hr dX10_told_88)))
def BX10_told_89 (G : Nat → KT) (Q : Option mV → mM → Prop) : KT := (s_aload 0 (s_geti 10 5 (s_iret Q)))
set_option maxRecDepth 4000 in
theorem bsX10_told_89 {p : Program} {l : Launch} {e : Env} {s : State} {m : MethodId} {args : Array Value} {below : List Frame} {meth : Method} {c : Code} {D : va_G} {ca : Nat → ClassId} {ad : Nat → Nat} {A : Nat → Prop} {Q : Option mV → mM → Prop} (hX : CX p s m args meth c 2 cX10_told "FairBlocks$User" D ca ad A) (hr : meth.sig.returnType = (Option.some FieldType.int)) : ∀ lv st M, BX10_told_89 (Gd p l e (rmD 0) s m args below meth c 2 D ca ad A 0 0 (MQ below (QC D ca ad A Q) args s 0 0 A)) Q lv st M → Gd p l e (rmD 0) s m args below meth c 2 D ca ad A 0 0 (MQ below (QC D ca ad A Q) args s 0 0 A) 89 lv st M :=
  (sd_aload_n hX dX10_told_89 rfl (sd_geti hX fl_109 (by decide) dX10_told_90 (sd_iret hX hr dX10_told_93)))
def BX10_told_94 (G : Nat → KT) (Q : Option mV → mM → Prop) : KT := (s_aload 0 (s_geti 10 6 (s_iret Q)))
set_option maxRecDepth 4000 in
theorem bsX10_told_94 {p : Program} {l : Launch} {e : Env} {s : State} {m : MethodId} {args : Array Value} {below : List Frame} {meth : Method} {c : Code} {D : va_G} {ca : Nat → ClassId} {ad : Nat → Nat} {A : Nat → Prop} {Q : Option mV → mM → Prop} (hX : CX p s m args meth c 2 cX10_told "FairBlocks$User" D ca ad A) (hr : meth.sig.returnType = (Option.some FieldType.int)) : ∀ lv st M, BX10_told_94 (Gd p l e (rmD 0) s m args below meth c 2 D ca ad A 0 0 (MQ below (QC D ca ad A Q) args s 0 0 A)) Q lv st M → Gd p l e (rmD 0) s m args below meth c 2 D ca ad A 0 0 (MQ below (QC D ca ad A Q) args s 0 0 A) 94 lv st M :=
  (sd_aload_n hX dX10_told_94 rfl (sd_geti hX fl_111 (by decide) dX10_told_95 (sd_iret hX hr dX10_told_98)))
def BX10_told_99 (G : Nat → KT) (Q : Option mV → mM → Prop) : KT := (s_aload 0 (s_geti 10 7 (s_iret Q)))
set_option maxRecDepth 4000 in
theorem bsX10_told_99 {p : Program} {l : Launch} {e : Env} {s : State} {m : MethodId} {args : Array Value} {below : List Frame} {meth : Method} {c : Code} {D : va_G} {ca : Nat → ClassId} {ad : Nat → Nat} {A : Nat → Prop} {Q : Option mV → mM → Prop} (hX : CX p s m args meth c 2 cX10_told "FairBlocks$User" D ca ad A) (hr : meth.sig.returnType = (Option.some FieldType.int)) : ∀ lv st M, BX10_told_99 (Gd p l e (rmD 0) s m args below meth c 2 D ca ad A 0 0 (MQ below (QC D ca ad A Q) args s 0 0 A)) Q lv st M → Gd p l e (rmD 0) s m args below meth c 2 D ca ad A 0 0 (MQ below (QC D ca ad A Q) args s 0 0 A) 99 lv st M :=
  (sd_aload_n hX dX10_told_99 rfl (sd_geti hX fl_113 (by decide) dX10_told_100 (sd_iret hX hr dX10_told_103)))
def BX10_told_104 (G : Nat → KT) (Q : Option mV → mM → Prop) : KT := (s_aload 0 (s_geti 10 8 (s_iret Q)))
set_option maxRecDepth 4000 in
theorem bsX10_told_104 {p : Program} {l : Launch} {e : Env} {s : State} {m : MethodId} {args : Array Value} {below : List Frame} {meth : Method} {c : Code} {D : va_G} {ca : Nat → ClassId} {ad : Nat → Nat} {A : Nat → Prop} {Q : Option mV → mM → Prop} (hX : CX p s m args meth c 2 cX10_told "FairBlocks$User" D ca ad A) (hr : meth.sig.returnType = (Option.some FieldType.int)) : ∀ lv st M, BX10_told_104 (Gd p l e (rmD 0) s m args below meth c 2 D ca ad A 0 0 (MQ below (QC D ca ad A Q) args s 0 0 A)) Q lv st M → Gd p l e (rmD 0) s m args below meth c 2 D ca ad A 0 0 (MQ below (QC D ca ad A Q) args s 0 0 A) 104 lv st M :=
  (sd_aload_n hX dX10_told_104 rfl (sd_geti hX fl_118 (by decide) dX10_told_105 (sd_iret hX hr dX10_told_108)))
def BX10_told_109 (G : Nat → KT) (Q : Option mV → mM → Prop) : KT := (s_aload 0 (s_geti 10 9 (s_iret Q)))
set_option maxRecDepth 4000 in
theorem bsX10_told_109 {p : Program} {l : Launch} {e : Env} {s : State} {m : MethodId} {args : Array Value} {below : List Frame} {meth : Method} {c : Code} {D : va_G} {ca : Nat → ClassId} {ad : Nat → Nat} {A : Nat → Prop} {Q : Option mV → mM → Prop} (hX : CX p s m args meth c 2 cX10_told "FairBlocks$User" D ca ad A) (hr : meth.sig.returnType = (Option.some FieldType.int)) : ∀ lv st M, BX10_told_109 (Gd p l e (rmD 0) s m args below meth c 2 D ca ad A 0 0 (MQ below (QC D ca ad A Q) args s 0 0 A)) Q lv st M → Gd p l e (rmD 0) s m args below meth c 2 D ca ad A 0 0 (MQ below (QC D ca ad A Q) args s 0 0 A) 109 lv st M :=
  (sd_aload_n hX dX10_told_109 rfl (sd_geti hX fl_119 (by decide) dX10_told_110 (sd_iret hX hr dX10_told_113)))
def BX10_told_114 (G : Nat → KT) (Q : Option mV → mM → Prop) : KT := (s_iconst (-2) (s_iret Q))
set_option maxRecDepth 4000 in
theorem bsX10_told_114 {p : Program} {l : Launch} {e : Env} {s : State} {m : MethodId} {args : Array Value} {below : List Frame} {meth : Method} {c : Code} {D : va_G} {ca : Nat → ClassId} {ad : Nat → Nat} {A : Nat → Prop} {Q : Option mV → mM → Prop} (hX : CX p s m args meth c 2 cX10_told "FairBlocks$User" D ca ad A) (hr : meth.sig.returnType = (Option.some FieldType.int)) : ∀ lv st M, BX10_told_114 (Gd p l e (rmD 0) s m args below meth c 2 D ca ad A 0 0 (MQ below (QC D ca ad A Q) args s 0 0 A)) Q lv st M → Gd p l e (rmD 0) s m args below meth c 2 D ca ad A 0 0 (MQ below (QC D ca ad A Q) args s 0 0 A) 114 lv st M :=
  (sd_bipush hX dX10_told_114 rfl (sd_iret hX hr dX10_told_116))
set_option maxHeartbeats 400000 in
theorem pf_X10_told (G : Nat → KT) (Q : Option mV → mM → Prop) (h0 : ∀ lv st M, BX10_told_0 G Q lv st M → G 0 lv st M) (h56 : ∀ lv st M, BX10_told_56 G Q lv st M → G 56 lv st M) (h61 : ∀ lv st M, BX10_told_61 G Q lv st M → G 61 lv st M) (h66 : ∀ lv st M, BX10_told_66 G Q lv st M → G 66 lv st M) (h71 : ∀ lv st M, BX10_told_71 G Q lv st M → G 71 lv st M) (h82 : ∀ lv st M, BX10_told_82 G Q lv st M → G 82 lv st M) (h83 : ∀ lv st M, BX10_told_83 G Q lv st M → G 83 lv st M) (h84 : ∀ lv st M, BX10_told_84 G Q lv st M → G 84 lv st M) (h89 : ∀ lv st M, BX10_told_89 G Q lv st M → G 89 lv st M) (h94 : ∀ lv st M, BX10_told_94 G Q lv st M → G 94 lv st M) (h99 : ∀ lv st M, BX10_told_99 G Q lv st M → G 99 lv st M) (h104 : ∀ lv st M, BX10_told_104 G Q lv st M → G 104 lv st M) (h109 : ∀ lv st M, BX10_told_109 G Q lv st M → G 109 lv st M) (h114 : ∀ lv st M, BX10_told_114 G Q lv st M → G 114 lv st M) (as : List mV) (M : mM) (ho : ∀ v ∈ as, okV v) (hp : pre_X10_told as M) (hQ : Q (fn_X10_told as M).1 (fn_X10_told as M).2) : G 0 (inL as ++ List.replicate (2 - (inL as).length) none) [] M := by
  obtain ⟨k, x, rfl⟩ := hp
  simp only [fn_X10_told, told] at hQ
  repeat' (first | (first | (apply h0; simp only [BX10_told_0, s_mth, s_mab, s_at, s_iconst, s_lconst, s_iload, s_lload, s_aload, s_istore, s_lstore, s_astore, s_iinc, s_bin, s_binG, s_un, s_lbin, s_lbinG, s_lsh, s_lcmp, s_i2l, s_l2i, s_dup, s_dup2, s_pop, s_if, s_icmp, s_geti, s_getl, s_getr, s_puti, s_putz, s_putl, s_iald, s_zald, s_iast, s_zast, s_aaldS, s_aaldU, s_gets, s_tald, s_tsw, tsw, s_iret, s_zret, s_lret, s_aret, s_vret, s_callV, s_callS, c1, nl1, keepL, csum, pushR, inL, List.getD_cons_zero, List.getD_cons_succ, List.set_cons_zero, List.set_cons_succ, List.cons_append, List.nil_append, List.append_nil, List.replicate, List.length_cons, List.length_nil, List.take_succ_cons, List.take_zero, List.drop_succ_cons, List.drop_zero, List.reverse_cons, List.reverse_nil, true_and, and_true, forall_const, not_true_eq_false, not_false_eq_true, false_implies, true_implies, implies_true, one0, m10, Nat.reduceAdd, Nat.reduceSub, Nat.reduceLeDiff, Nat.zero_add, Nat.add_zero]) | (apply h56; simp only [BX10_told_56, s_mth, s_mab, s_at, s_iconst, s_lconst, s_iload, s_lload, s_aload, s_istore, s_lstore, s_astore, s_iinc, s_bin, s_binG, s_un, s_lbin, s_lbinG, s_lsh, s_lcmp, s_i2l, s_l2i, s_dup, s_dup2, s_pop, s_if, s_icmp, s_geti, s_getl, s_getr, s_puti, s_putz, s_putl, s_iald, s_zald, s_iast, s_zast, s_aaldS, s_aaldU, s_gets, s_tald, s_tsw, tsw, s_iret, s_zret, s_lret, s_aret, s_vret, s_callV, s_callS, c1, nl1, keepL, csum, pushR, inL, List.getD_cons_zero, List.getD_cons_succ, List.set_cons_zero, List.set_cons_succ, List.cons_append, List.nil_append, List.append_nil, List.replicate, List.length_cons, List.length_nil, List.take_succ_cons, List.take_zero, List.drop_succ_cons, List.drop_zero, List.reverse_cons, List.reverse_nil, true_and, and_true, forall_const, not_true_eq_false, not_false_eq_true, false_implies, true_implies, implies_true, one0, m10, Nat.reduceAdd, Nat.reduceSub, Nat.reduceLeDiff, Nat.zero_add, Nat.add_zero]) | (apply h61; simp only [BX10_told_61, s_mth, s_mab, s_at, s_iconst, s_lconst, s_iload, s_lload, s_aload, s_istore, s_lstore, s_astore, s_iinc, s_bin, s_binG, s_un, s_lbin, s_lbinG, s_lsh, s_lcmp, s_i2l, s_l2i, s_dup, s_dup2, s_pop, s_if, s_icmp, s_geti, s_getl, s_getr, s_puti, s_putz, s_putl, s_iald, s_zald, s_iast, s_zast, s_aaldS, s_aaldU, s_gets, s_tald, s_tsw, tsw, s_iret, s_zret, s_lret, s_aret, s_vret, s_callV, s_callS, c1, nl1, keepL, csum, pushR, inL, List.getD_cons_zero, List.getD_cons_succ, List.set_cons_zero, List.set_cons_succ, List.cons_append, List.nil_append, List.append_nil, List.replicate, List.length_cons, List.length_nil, List.take_succ_cons, List.take_zero, List.drop_succ_cons, List.drop_zero, List.reverse_cons, List.reverse_nil, true_and, and_true, forall_const, not_true_eq_false, not_false_eq_true, false_implies, true_implies, implies_true, one0, m10, Nat.reduceAdd, Nat.reduceSub, Nat.reduceLeDiff, Nat.zero_add, Nat.add_zero]) | (apply h66; simp only [BX10_told_66, s_mth, s_mab, s_at, s_iconst, s_lconst, s_iload, s_lload, s_aload, s_istore, s_lstore, s_astore, s_iinc, s_bin, s_binG, s_un, s_lbin, s_lbinG, s_lsh, s_lcmp, s_i2l, s_l2i, s_dup, s_dup2, s_pop, s_if, s_icmp, s_geti, s_getl, s_getr, s_puti, s_putz, s_putl, s_iald, s_zald, s_iast, s_zast, s_aaldS, s_aaldU, s_gets, s_tald, s_tsw, tsw, s_iret, s_zret, s_lret, s_aret, s_vret, s_callV, s_callS, c1, nl1, keepL, csum, pushR, inL, List.getD_cons_zero, List.getD_cons_succ, List.set_cons_zero, List.set_cons_succ, List.cons_append, List.nil_append, List.append_nil, List.replicate, List.length_cons, List.length_nil, List.take_succ_cons, List.take_zero, List.drop_succ_cons, List.drop_zero, List.reverse_cons, List.reverse_nil, true_and, and_true, forall_const, not_true_eq_false, not_false_eq_true, false_implies, true_implies, implies_true, one0, m10, Nat.reduceAdd, Nat.reduceSub, Nat.reduceLeDiff, Nat.zero_add, Nat.add_zero]) | (apply h71; simp only [BX10_told_71, s_mth, s_mab, s_at, s_iconst, s_lconst, s_iload, s_lload, s_aload, s_istore, s_lstore, s_astore, s_iinc, s_bin, s_binG, s_un, s_lbin, s_lbinG, s_lsh, s_lcmp, s_i2l, s_l2i, s_dup, s_dup2, s_pop, s_if, s_icmp, s_geti, s_getl, s_getr, s_puti, s_putz, s_putl, s_iald, s_zald, s_iast, s_zast, s_aaldS, s_aaldU, s_gets, s_tald, s_tsw, tsw, s_iret, s_zret, s_lret, s_aret, s_vret, s_callV, s_callS, c1, nl1, keepL, csum, pushR, inL, List.getD_cons_zero, List.getD_cons_succ, List.set_cons_zero, List.set_cons_succ, List.cons_append, List.nil_append, List.append_nil, List.replicate, List.length_cons, List.length_nil, List.take_succ_cons, List.take_zero, List.drop_succ_cons, List.drop_zero, List.reverse_cons, List.reverse_nil, true_and, and_true, forall_const, not_true_eq_false, not_false_eq_true, false_implies, true_implies, implies_true, one0, m10, Nat.reduceAdd, Nat.reduceSub, Nat.reduceLeDiff, Nat.zero_add, Nat.add_zero]) | (apply h82; simp only [BX10_told_82, s_mth, s_mab, s_at, s_iconst, s_lconst, s_iload, s_lload, s_aload, s_istore, s_lstore, s_astore, s_iinc, s_bin, s_binG, s_un, s_lbin, s_lbinG, s_lsh, s_lcmp, s_i2l, s_l2i, s_dup, s_dup2, s_pop, s_if, s_icmp, s_geti, s_getl, s_getr, s_puti, s_putz, s_putl, s_iald, s_zald, s_iast, s_zast, s_aaldS, s_aaldU, s_gets, s_tald, s_tsw, tsw, s_iret, s_zret, s_lret, s_aret, s_vret, s_callV, s_callS, c1, nl1, keepL, csum, pushR, inL, List.getD_cons_zero, List.getD_cons_succ, List.set_cons_zero, List.set_cons_succ, List.cons_append, List.nil_append, List.append_nil, List.replicate, List.length_cons, List.length_nil, List.take_succ_cons, List.take_zero, List.drop_succ_cons, List.drop_zero, List.reverse_cons, List.reverse_nil, true_and, and_true, forall_const, not_true_eq_false, not_false_eq_true, false_implies, true_implies, implies_true, one0, m10, Nat.reduceAdd, Nat.reduceSub, Nat.reduceLeDiff, Nat.zero_add, Nat.add_zero]) | (apply h83; simp only [BX10_told_83, s_mth, s_mab, s_at, s_iconst, s_lconst, s_iload, s_lload, s_aload, s_istore, s_lstore, s_astore, s_iinc, s_bin, s_binG, s_un, s_lbin, s_lbinG, s_lsh, s_lcmp, s_i2l, s_l2i, s_dup, s_dup2, s_pop, s_if, s_icmp, s_geti, s_getl, s_getr, s_puti, s_putz, s_putl, s_iald, s_zald, s_iast, s_zast, s_aaldS, s_aaldU, s_gets, s_tald, s_tsw, tsw, s_iret, s_zret, s_lret, s_aret, s_vret, s_callV, s_callS, c1, nl1, keepL, csum, pushR, inL, List.getD_cons_zero, List.getD_cons_succ, List.set_cons_zero, List.set_cons_succ, List.cons_append, List.nil_append, List.append_nil, List.replicate, List.length_cons, List.length_nil, List.take_succ_cons, List.take_zero, List.drop_succ_cons, List.drop_zero, List.reverse_cons, List.reverse_nil, true_and, and_true, forall_const, not_true_eq_false, not_false_eq_true, false_implies, true_implies, implies_true, one0, m10, Nat.reduceAdd, Nat.reduceSub, Nat.reduceLeDiff, Nat.zero_add, Nat.add_zero]) | (apply h84; simp only [BX10_told_84, s_mth, s_mab, s_at, s_iconst, s_lconst, s_iload, s_lload, s_aload, s_istore, s_lstore, s_astore, s_iinc, s_bin, s_binG, s_un, s_lbin, s_lbinG, s_lsh, s_lcmp, s_i2l, s_l2i, s_dup, s_dup2, s_pop, s_if, s_icmp, s_geti, s_getl, s_getr, s_puti, s_putz, s_putl, s_iald, s_zald, s_iast, s_zast, s_aaldS, s_aaldU, s_gets, s_tald, s_tsw, tsw, s_iret, s_zret, s_lret, s_aret, s_vret, s_callV, s_callS, c1, nl1, keepL, csum, pushR, inL, List.getD_cons_zero, List.getD_cons_succ, List.set_cons_zero, List.set_cons_succ, List.cons_append, List.nil_append, List.append_nil, List.replicate, List.length_cons, List.length_nil, List.take_succ_cons, List.take_zero, List.drop_succ_cons, List.drop_zero, List.reverse_cons, List.reverse_nil, true_and, and_true, forall_const, not_true_eq_false, not_false_eq_true, false_implies, true_implies, implies_true, one0, m10, Nat.reduceAdd, Nat.reduceSub, Nat.reduceLeDiff, Nat.zero_add, Nat.add_zero]) | (apply h89; simp only [BX10_told_89, s_mth, s_mab, s_at, s_iconst, s_lconst, s_iload, s_lload, s_aload, s_istore, s_lstore, s_astore, s_iinc, s_bin, s_binG, s_un, s_lbin, s_lbinG, s_lsh, s_lcmp, s_i2l, s_l2i, s_dup, s_dup2, s_pop, s_if, s_icmp, s_geti, s_getl, s_getr, s_puti, s_putz, s_putl, s_iald, s_zald, s_iast, s_zast, s_aaldS, s_aaldU, s_gets, s_tald, s_tsw, tsw, s_iret, s_zret, s_lret, s_aret, s_vret, s_callV, s_callS, c1, nl1, keepL, csum, pushR, inL, List.getD_cons_zero, List.getD_cons_succ, List.set_cons_zero, List.set_cons_succ, List.cons_append, List.nil_append, List.append_nil, List.replicate, List.length_cons, List.length_nil, List.take_succ_cons, List.take_zero, List.drop_succ_cons, List.drop_zero, List.reverse_cons, List.reverse_nil, true_and, and_true, forall_const, not_true_eq_false, not_false_eq_true, false_implies, true_implies, implies_true, one0, m10, Nat.reduceAdd, Nat.reduceSub, Nat.reduceLeDiff, Nat.zero_add, Nat.add_zero]) | (apply h94; simp only [BX10_told_94, s_mth, s_mab, s_at, s_iconst, s_lconst, s_iload, s_lload, s_aload, s_istore, s_lstore, s_astore, s_iinc, s_bin, s_binG, s_un, s_lbin, s_lbinG, s_lsh, s_lcmp, s_i2l, s_l2i, s_dup, s_dup2, s_pop, s_if, s_icmp, s_geti, s_getl, s_getr, s_puti, s_putz, s_putl, s_iald, s_zald, s_iast, s_zast, s_aaldS, s_aaldU, s_gets, s_tald, s_tsw, tsw, s_iret, s_zret, s_lret, s_aret, s_vret, s_callV, s_callS, c1, nl1, keepL, csum, pushR, inL, List.getD_cons_zero, List.getD_cons_succ, List.set_cons_zero, List.set_cons_succ, List.cons_append, List.nil_append, List.append_nil, List.replicate, List.length_cons, List.length_nil, List.take_succ_cons, List.take_zero, List.drop_succ_cons, List.drop_zero, List.reverse_cons, List.reverse_nil, true_and, and_true, forall_const, not_true_eq_false, not_false_eq_true, false_implies, true_implies, implies_true, one0, m10, Nat.reduceAdd, Nat.reduceSub, Nat.reduceLeDiff, Nat.zero_add, Nat.add_zero]) | (apply h99; simp only [BX10_told_99, s_mth, s_mab, s_at, s_iconst, s_lconst, s_iload, s_lload, s_aload, s_istore, s_lstore, s_astore, s_iinc, s_bin, s_binG, s_un, s_lbin, s_lbinG, s_lsh, s_lcmp, s_i2l, s_l2i, s_dup, s_dup2, s_pop, s_if, s_icmp, s_geti, s_getl, s_getr, s_puti, s_putz, s_putl, s_iald, s_zald, s_iast, s_zast, s_aaldS, s_aaldU, s_gets, s_tald, s_tsw, tsw, s_iret, s_zret, s_lret, s_aret, s_vret, s_callV, s_callS, c1, nl1, keepL, csum, pushR, inL, List.getD_cons_zero, List.getD_cons_succ, List.set_cons_zero, List.set_cons_succ, List.cons_append, List.nil_append, List.append_nil, List.replicate, List.length_cons, List.length_nil, List.take_succ_cons, List.take_zero, List.drop_succ_cons, List.drop_zero, List.reverse_cons, List.reverse_nil, true_and, and_true, forall_const, not_true_eq_false, not_false_eq_true, false_implies, true_implies, implies_true, one0, m10, Nat.reduceAdd, Nat.reduceSub, Nat.reduceLeDiff, Nat.zero_add, Nat.add_zero]) | (apply h104; simp only [BX10_told_104, s_mth, s_mab, s_at, s_iconst, s_lconst, s_iload, s_lload, s_aload, s_istore, s_lstore, s_astore, s_iinc, s_bin, s_binG, s_un, s_lbin, s_lbinG, s_lsh, s_lcmp, s_i2l, s_l2i, s_dup, s_dup2, s_pop, s_if, s_icmp, s_geti, s_getl, s_getr, s_puti, s_putz, s_putl, s_iald, s_zald, s_iast, s_zast, s_aaldS, s_aaldU, s_gets, s_tald, s_tsw, tsw, s_iret, s_zret, s_lret, s_aret, s_vret, s_callV, s_callS, c1, nl1, keepL, csum, pushR, inL, List.getD_cons_zero, List.getD_cons_succ, List.set_cons_zero, List.set_cons_succ, List.cons_append, List.nil_append, List.append_nil, List.replicate, List.length_cons, List.length_nil, List.take_succ_cons, List.take_zero, List.drop_succ_cons, List.drop_zero, List.reverse_cons, List.reverse_nil, true_and, and_true, forall_const, not_true_eq_false, not_false_eq_true, false_implies, true_implies, implies_true, one0, m10, Nat.reduceAdd, Nat.reduceSub, Nat.reduceLeDiff, Nat.zero_add, Nat.add_zero]) | (apply h109; simp only [BX10_told_109, s_mth, s_mab, s_at, s_iconst, s_lconst, s_iload, s_lload, s_aload, s_istore, s_lstore, s_astore, s_iinc, s_bin, s_binG, s_un, s_lbin, s_lbinG, s_lsh, s_lcmp, s_i2l, s_l2i, s_dup, s_dup2, s_pop, s_if, s_icmp, s_geti, s_getl, s_getr, s_puti, s_putz, s_putl, s_iald, s_zald, s_iast, s_zast, s_aaldS, s_aaldU, s_gets, s_tald, s_tsw, tsw, s_iret, s_zret, s_lret, s_aret, s_vret, s_callV, s_callS, c1, nl1, keepL, csum, pushR, inL, List.getD_cons_zero, List.getD_cons_succ, List.set_cons_zero, List.set_cons_succ, List.cons_append, List.nil_append, List.append_nil, List.replicate, List.length_cons, List.length_nil, List.take_succ_cons, List.take_zero, List.drop_succ_cons, List.drop_zero, List.reverse_cons, List.reverse_nil, true_and, and_true, forall_const, not_true_eq_false, not_false_eq_true, false_implies, true_implies, implies_true, one0, m10, Nat.reduceAdd, Nat.reduceSub, Nat.reduceLeDiff, Nat.zero_add, Nat.add_zero]) | (apply h114; simp only [BX10_told_114, s_mth, s_mab, s_at, s_iconst, s_lconst, s_iload, s_lload, s_aload, s_istore, s_lstore, s_astore, s_iinc, s_bin, s_binG, s_un, s_lbin, s_lbinG, s_lsh, s_lcmp, s_i2l, s_l2i, s_dup, s_dup2, s_pop, s_if, s_icmp, s_geti, s_getl, s_getr, s_puti, s_putz, s_putl, s_iald, s_zald, s_iast, s_zast, s_aaldS, s_aaldU, s_gets, s_tald, s_tsw, tsw, s_iret, s_zret, s_lret, s_aret, s_vret, s_callV, s_callS, c1, nl1, keepL, csum, pushR, inL, List.getD_cons_zero, List.getD_cons_succ, List.set_cons_zero, List.set_cons_succ, List.cons_append, List.nil_append, List.append_nil, List.replicate, List.length_cons, List.length_nil, List.take_succ_cons, List.take_zero, List.drop_succ_cons, List.drop_zero, List.reverse_cons, List.reverse_nil, true_and, and_true, forall_const, not_true_eq_false, not_false_eq_true, false_implies, true_implies, implies_true, one0, m10, Nat.reduceAdd, Nat.reduceSub, Nat.reduceLeDiff, Nat.zero_add, Nat.add_zero])) | refine ⟨?_, ?_⟩ | intro hc)
  all_goals clear h0 h56 h61 h66 h71 h82 h83 h84 h89 h94 h99 h104 h109 h114
  all_goals (first | exact hQ | (simp only [*, if_true, if_false] at hQ; exact hQ) | (simp [*] at hQ; simpa using hQ) | (exfalso; simp_all; done) | (simp_all; done))
theorem ct_X10_told (l : Launch) : Con l yX10_told cX10_told 2 (Option.some FieldType.int) 0 pre_X10_told fn_X10_told := con_of (by decide +kernel) ok_X10_told len_X10_told (fun p e s m args below meth c D ca ad A as M hX hr hp ho => pf_X10_told _ _ (bsX10_told_0 hX hr) (bsX10_told_56 hX hr) (bsX10_told_61 hX hr) (bsX10_told_66 hX hr) (bsX10_told_71 hX hr) (bsX10_told_82 hX hr) (bsX10_told_83 hX hr) (bsX10_told_84 hX hr) (bsX10_told_89 hX hr) (bsX10_told_94 hX hr) (bsX10_told_99 hX hr) (bsX10_told_104 hX hr) (bsX10_told_109 hX hr) (bsX10_told_114 hX hr) as M ho hp ⟨rfl, rfl⟩)
def chg (M : mM) (k : Nat) (w v : Int32) : Int32 × mM := if w = 0 then (M.1 k 0, mset M k 0 v) else if w = 1 then (M.1 k 1, mset M k 1 v) else (M.1 k 2, mset M k 2 v)
def pre_X10_change (as : List mV) (M : mM) : Prop := ∃ k x v, as = [.inr (.inr (10, k)), .inl x, .inl v]
def fn_X10_change : List mV → mM → Option mV × mM
  | [.inr (.inr (_, k)), .inl x, .inl v], M => (some (.inl (chg M k x v).1), (chg M k x v).2)
  | _, M => (none, M)
theorem ok_X10_change (as : List mV) (M : mM) (h : pre_X10_change as M) (_ : ∀ v ∈ as, okV v) : okR (fn_X10_change as M).1 := by
  obtain ⟨k, x, v, rfl⟩ := h
  first | trivial | exact (by decide +kernel : kof 14 = 8)
theorem len_X10_change (as : List mV) (M : mM) (h : pre_X10_change as M) : (inL as).length ≤ 4 := by
  obtain ⟨k, x, v, rfl⟩ := h
  exact Nat.le_of_ble_eq_true rfl


theorem dX10_change_0 : decode cX10_change 0 = .ok (.iload_n 1, 1) := by decide +kernel
theorem dX10_change_1 : decode cX10_change 1 = .ok (.ifCond .ne 16, 3) := by decide +kernel
theorem dX10_change_4 : decode cX10_change 4 = .ok (.aload_n 0, 1) := by decide +kernel
theorem dX10_change_5 : decode cX10_change 5 = .ok (.getfield 9, 3) := by decide +kernel
theorem dX10_change_8 : decode cX10_change 8 = .ok (.istore_n 3, 1) := by decide +kernel
theorem dX10_change_9 : decode cX10_change 9 = .ok (.aload_n 0, 1) := by decide +kernel
theorem dX10_change_10 : decode cX10_change 10 = .ok (.iload_n 2, 1) := by decide +kernel
theorem dX10_change_11 : decode cX10_change 11 = .ok (.putfield 9, 3) := by decide +kernel
theorem dX10_change_14 : decode cX10_change 14 = .ok (.goto 31, 3) := by decide +kernel
theorem dX10_change_17 : decode cX10_change 17 = .ok (.iload_n 1, 1) := by decide +kernel
theorem dX10_change_18 : decode cX10_change 18 = .ok (.iconst 1, 1) := by decide +kernel
theorem dX10_change_19 : decode cX10_change 19 = .ok (.if_icmp .ne 16, 3) := by decide +kernel
theorem dX10_change_22 : decode cX10_change 22 = .ok (.aload_n 0, 1) := by decide +kernel
theorem dX10_change_23 : decode cX10_change 23 = .ok (.getfield 15, 3) := by decide +kernel
theorem dX10_change_26 : decode cX10_change 26 = .ok (.istore_n 3, 1) := by decide +kernel
theorem dX10_change_27 : decode cX10_change 27 = .ok (.aload_n 0, 1) := by decide +kernel
theorem dX10_change_28 : decode cX10_change 28 = .ok (.iload_n 2, 1) := by decide +kernel
theorem dX10_change_29 : decode cX10_change 29 = .ok (.putfield 15, 3) := by decide +kernel
theorem dX10_change_32 : decode cX10_change 32 = .ok (.goto 13, 3) := by decide +kernel
theorem dX10_change_35 : decode cX10_change 35 = .ok (.aload_n 0, 1) := by decide +kernel
theorem dX10_change_36 : decode cX10_change 36 = .ok (.getfield 18, 3) := by decide +kernel
theorem dX10_change_39 : decode cX10_change 39 = .ok (.istore_n 3, 1) := by decide +kernel
theorem dX10_change_40 : decode cX10_change 40 = .ok (.aload_n 0, 1) := by decide +kernel
theorem dX10_change_41 : decode cX10_change 41 = .ok (.iload_n 2, 1) := by decide +kernel
theorem dX10_change_42 : decode cX10_change 42 = .ok (.putfield 18, 3) := by decide +kernel
theorem dX10_change_45 : decode cX10_change 45 = .ok (.iload_n 3, 1) := by decide +kernel
theorem dX10_change_46 : decode cX10_change 46 = .ok (.ireturn, 1) := by decide +kernel
theorem mk_X10_change : MVk yX10_change "FairBlocks$User" cX10_change 4 (Option.some FieldType.int) 2 := ⟨w_489, w_487, w_488, w_6, rfl, by decide +kernel, by decide +kernel, by decide +kernel⟩
def BX10_change_0 (G : Nat → KT) (Q : Option mV → mM → Prop) : KT := (s_iload 1 (s_if (fun x => x = 0) ((s_aload 0 (s_geti 10 0 (s_istore 3 (s_aload 0 (s_iload 2 (s_puti 10 0 (s_at G 45 [false, false, false, true])))))))) (s_at G 17 [true, true, true, false])))
set_option maxRecDepth 4000 in
theorem bsX10_change_0 {p : Program} {l : Launch} {e : Env} {s : State} {m : MethodId} {args : Array Value} {below : List Frame} {meth : Method} {c : Code} {D : va_G} {ca : Nat → ClassId} {ad : Nat → Nat} {A : Nat → Prop} {Q : Option mV → mM → Prop} (hX : CX p s m args meth c 4 cX10_change "FairBlocks$User" D ca ad A) (hr : meth.sig.returnType = (Option.some FieldType.int)) : ∀ lv st M, BX10_change_0 (Gd p l e (rmD 0) s m args below meth c 4 D ca ad A 0 0 (MQ below (QC D ca ad A Q) args s 0 0 A)) Q lv st M → Gd p l e (rmD 0) s m args below meth c 4 D ca ad A 0 0 (MQ below (QC D ca ad A Q) args s 0 0 A) 0 lv st M :=
  (sd_iload_n hX dX10_change_0 rfl (sd_if_ne hX dX10_change_1 (by decide) sd_at (sd_aload_n hX dX10_change_4 rfl (sd_geti hX fl_93 (by decide) dX10_change_5 (sd_istore_n hX (by decide) dX10_change_8 rfl (sd_aload_n hX dX10_change_9 rfl (sd_iload_n hX dX10_change_10 rfl (sd_puti hX fp_93 dX10_change_11 (sd_goto hX dX10_change_14 (by decide) sd_at)))))))))
def BX10_change_17 (G : Nat → KT) (Q : Option mV → mM → Prop) : KT := (s_iload 1 (s_iconst (1) (s_icmp (fun x y => x = y) ((s_aload 0 (s_geti 10 1 (s_istore 3 (s_aload 0 (s_iload 2 (s_puti 10 1 (s_at G 45 [false, false, false, true])))))))) (s_at G 35 [true, false, true, false]))))
set_option maxRecDepth 4000 in
theorem bsX10_change_17 {p : Program} {l : Launch} {e : Env} {s : State} {m : MethodId} {args : Array Value} {below : List Frame} {meth : Method} {c : Code} {D : va_G} {ca : Nat → ClassId} {ad : Nat → Nat} {A : Nat → Prop} {Q : Option mV → mM → Prop} (hX : CX p s m args meth c 4 cX10_change "FairBlocks$User" D ca ad A) (hr : meth.sig.returnType = (Option.some FieldType.int)) : ∀ lv st M, BX10_change_17 (Gd p l e (rmD 0) s m args below meth c 4 D ca ad A 0 0 (MQ below (QC D ca ad A Q) args s 0 0 A)) Q lv st M → Gd p l e (rmD 0) s m args below meth c 4 D ca ad A 0 0 (MQ below (QC D ca ad A Q) args s 0 0 A) 17 lv st M :=
  (sd_iload_n hX dX10_change_17 rfl (sd_iconst hX dX10_change_18 rfl (sd_icmp_ne hX dX10_change_19 (by decide) sd_at (sd_aload_n hX dX10_change_22 rfl (sd_geti hX fl_95 (by decide) dX10_change_23 (sd_istore_n hX (by decide) dX10_change_26 rfl (sd_aload_n hX dX10_change_27 rfl (sd_iload_n hX dX10_change_28 rfl (sd_puti hX fp_95 dX10_change_29 (sd_goto hX dX10_change_32 (by decide) sd_at))))))))))
def BX10_change_35 (G : Nat → KT) (Q : Option mV → mM → Prop) : KT := (s_aload 0 (s_geti 10 2 (s_istore 3 (s_aload 0 (s_iload 2 (s_puti 10 2 (s_at G 45 [false, false, false, true])))))))
set_option maxRecDepth 4000 in
theorem bsX10_change_35 {p : Program} {l : Launch} {e : Env} {s : State} {m : MethodId} {args : Array Value} {below : List Frame} {meth : Method} {c : Code} {D : va_G} {ca : Nat → ClassId} {ad : Nat → Nat} {A : Nat → Prop} {Q : Option mV → mM → Prop} (hX : CX p s m args meth c 4 cX10_change "FairBlocks$User" D ca ad A) (hr : meth.sig.returnType = (Option.some FieldType.int)) : ∀ lv st M, BX10_change_35 (Gd p l e (rmD 0) s m args below meth c 4 D ca ad A 0 0 (MQ below (QC D ca ad A Q) args s 0 0 A)) Q lv st M → Gd p l e (rmD 0) s m args below meth c 4 D ca ad A 0 0 (MQ below (QC D ca ad A Q) args s 0 0 A) 35 lv st M :=
  (sd_aload_n hX dX10_change_35 rfl (sd_geti hX fl_99 (by decide) dX10_change_36 (sd_istore_n hX (by decide) dX10_change_39 rfl (sd_aload_n hX dX10_change_40 rfl (sd_iload_n hX dX10_change_41 rfl (sd_puti hX fp_99 dX10_change_42 sd_at))))))
def BX10_change_45 (G : Nat → KT) (Q : Option mV → mM → Prop) : KT := (s_iload 3 (s_iret Q))
set_option maxRecDepth 4000 in
theorem bsX10_change_45 {p : Program} {l : Launch} {e : Env} {s : State} {m : MethodId} {args : Array Value} {below : List Frame} {meth : Method} {c : Code} {D : va_G} {ca : Nat → ClassId} {ad : Nat → Nat} {A : Nat → Prop} {Q : Option mV → mM → Prop} (hX : CX p s m args meth c 4 cX10_change "FairBlocks$User" D ca ad A) (hr : meth.sig.returnType = (Option.some FieldType.int)) : ∀ lv st M, BX10_change_45 (Gd p l e (rmD 0) s m args below meth c 4 D ca ad A 0 0 (MQ below (QC D ca ad A Q) args s 0 0 A)) Q lv st M → Gd p l e (rmD 0) s m args below meth c 4 D ca ad A 0 0 (MQ below (QC D ca ad A Q) args s 0 0 A) 45 lv st M :=
  (sd_iload_n hX dX10_change_45 rfl (sd_iret hX hr dX10_change_46))
set_option maxHeartbeats 400000 in
theorem pf_X10_change (G : Nat → KT) (Q : Option mV → mM → Prop) (h0 : ∀ lv st M, BX10_change_0 G Q lv st M → G 0 lv st M) (h17 : ∀ lv st M, BX10_change_17 G Q lv st M → G 17 lv st M) (h35 : ∀ lv st M, BX10_change_35 G Q lv st M → G 35 lv st M) (h45 : ∀ lv st M, BX10_change_45 G Q lv st M → G 45 lv st M) (as : List mV) (M : mM) (ho : ∀ v ∈ as, okV v) (hp : pre_X10_change as M) (hQ : Q (fn_X10_change as M).1 (fn_X10_change as M).2) : G 0 (inL as ++ List.replicate (4 - (inL as).length) none) [] M := by
  obtain ⟨k, x, v, rfl⟩ := hp
  simp only [fn_X10_change, chg] at hQ
  repeat' (first | (first | (apply h0; simp only [BX10_change_0, s_mth, s_mab, s_at, s_iconst, s_lconst, s_iload, s_lload, s_aload, s_istore, s_lstore, s_astore, s_iinc, s_bin, s_binG, s_un, s_lbin, s_lbinG, s_lsh, s_lcmp, s_i2l, s_l2i, s_dup, s_dup2, s_pop, s_if, s_icmp, s_geti, s_getl, s_getr, s_puti, s_putz, s_putl, s_iald, s_zald, s_iast, s_zast, s_aaldS, s_aaldU, s_gets, s_tald, s_tsw, tsw, s_iret, s_zret, s_lret, s_aret, s_vret, s_callV, s_callS, c1, nl1, keepL, csum, pushR, inL, List.getD_cons_zero, List.getD_cons_succ, List.set_cons_zero, List.set_cons_succ, List.cons_append, List.nil_append, List.append_nil, List.replicate, List.length_cons, List.length_nil, List.take_succ_cons, List.take_zero, List.drop_succ_cons, List.drop_zero, List.reverse_cons, List.reverse_nil, true_and, and_true, forall_const, not_true_eq_false, not_false_eq_true, false_implies, true_implies, implies_true, one0, m10, Nat.reduceAdd, Nat.reduceSub, Nat.reduceLeDiff, Nat.zero_add, Nat.add_zero]) | (apply h17; simp only [BX10_change_17, s_mth, s_mab, s_at, s_iconst, s_lconst, s_iload, s_lload, s_aload, s_istore, s_lstore, s_astore, s_iinc, s_bin, s_binG, s_un, s_lbin, s_lbinG, s_lsh, s_lcmp, s_i2l, s_l2i, s_dup, s_dup2, s_pop, s_if, s_icmp, s_geti, s_getl, s_getr, s_puti, s_putz, s_putl, s_iald, s_zald, s_iast, s_zast, s_aaldS, s_aaldU, s_gets, s_tald, s_tsw, tsw, s_iret, s_zret, s_lret, s_aret, s_vret, s_callV, s_callS, c1, nl1, keepL, csum, pushR, inL, List.getD_cons_zero, List.getD_cons_succ, List.set_cons_zero, List.set_cons_succ, List.cons_append, List.nil_append, List.append_nil, List.replicate, List.length_cons, List.length_nil, List.take_succ_cons, List.take_zero, List.drop_succ_cons, List.drop_zero, List.reverse_cons, List.reverse_nil, true_and, and_true, forall_const, not_true_eq_false, not_false_eq_true, false_implies, true_implies, implies_true, one0, m10, Nat.reduceAdd, Nat.reduceSub, Nat.reduceLeDiff, Nat.zero_add, Nat.add_zero]) | (apply h35; simp only [BX10_change_35, s_mth, s_mab, s_at, s_iconst, s_lconst, s_iload, s_lload, s_aload, s_istore, s_lstore, s_astore, s_iinc, s_bin, s_binG, s_un, s_lbin, s_lbinG, s_lsh, s_lcmp, s_i2l, s_l2i, s_dup, s_dup2, s_pop, s_if, s_icmp, s_geti, s_getl, s_getr, s_puti, s_putz, s_putl, s_iald, s_zald, s_iast, s_zast, s_aaldS, s_aaldU, s_gets, s_tald, s_tsw, tsw, s_iret, s_zret, s_lret, s_aret, s_vret, s_callV, s_callS, c1, nl1, keepL, csum, pushR, inL, List.getD_cons_zero, List.getD_cons_succ, List.set_cons_zero, List.set_cons_succ, List.cons_append, List.nil_append, List.append_nil, List.replicate, List.length_cons, List.length_nil, List.take_succ_cons, List.take_zero, List.drop_succ_cons, List.drop_zero, List.reverse_cons, List.reverse_nil, true_and, and_true, forall_const, not_true_eq_false, not_false_eq_true, false_implies, true_implies, implies_true, one0, m10, Nat.reduceAdd, Nat.reduceSub, Nat.reduceLeDiff, Nat.zero_add, Nat.add_zero]) | (apply h45; simp only [BX10_change_45, s_mth, s_mab, s_at, s_iconst, s_lconst, s_iload, s_lload, s_aload, s_istore, s_lstore, s_astore, s_iinc, s_bin, s_binG, s_un, s_lbin, s_lbinG, s_lsh, s_lcmp, s_i2l, s_l2i, s_dup, s_dup2, s_pop, s_if, s_icmp, s_geti, s_getl, s_getr, s_puti, s_putz, s_putl, s_iald, s_zald, s_iast, s_zast, s_aaldS, s_aaldU, s_gets, s_tald, s_tsw, tsw, s_iret, s_zret, s_lret, s_aret, s_vret, s_callV, s_callS, c1, nl1, keepL, csum, pushR, inL, List.getD_cons_zero, List.getD_cons_succ, List.set_cons_zero, List.set_cons_succ, List.cons_append, List.nil_append, List.append_nil, List.replicate, List.length_cons, List.length_nil, List.take_succ_cons, List.take_zero, List.drop_succ_cons, List.drop_zero, List.reverse_cons, List.reverse_nil, true_and, and_true, forall_const, not_true_eq_false, not_false_eq_true, false_implies, true_implies, implies_true, one0, m10, Nat.reduceAdd, Nat.reduceSub, Nat.reduceLeDiff, Nat.zero_add, Nat.add_zero])) | refine ⟨?_, ?_⟩ | intro hc)
  all_goals clear h0 h17 h35 h45
  all_goals (simp only [*, if_true, if_false] at hQ; exact hQ)
theorem ct_X10_change (l : Launch) : Con l yX10_change cX10_change 4 (Option.some FieldType.int) 0 pre_X10_change fn_X10_change := con_of (by decide +kernel) ok_X10_change len_X10_change (fun p e s m args below meth c D ca ad A as M hX hr hp ho => pf_X10_change _ _ (bsX10_change_0 hX hr) (bsX10_change_17 hX hr) (bsX10_change_35 hX hr) (bsX10_change_45 hX hr) as M ho hp ⟨rfl, rfl⟩)
def sendA (M : mM) (k : Nat) (x : Int32) : Int32 := mn x (if M.1 k 5 ≤ 0 then M.1 k 4 else M.1 k 5)
def sendM (M : mM) (k : Nat) (x : Int32) : mM := if M.1 k 5 ≤ 0 then mset M k 4 (M.1 k 4 - sendA M k x) else mset M k 5 (M.1 k 5 - sendA M k x)
def send2 (M : mM) (k : Nat) (a : Int32) : Int32 × mM := if M.1 k 2 ≤ 0 then (a, mset M k 9 (M.1 k 9 + a)) else if rm (M.1 k 8) (M.1 k 2) = 0 then (0, mset M k 5 (M.1 k 5 + a)) else (a, mset M k 9 (M.1 k 9 + a))
def send (M : mM) (k : Nat) (x : Int32) : Int32 × mM := send2 (mset (sendM M k x) k 8 ((sendM M k x).1 k 8 + 1)) k (sendA M k x)
def pre_X10_send (as : List mV) (M : mM) : Prop := ∃ k x, as = [.inr (.inr (10, k)), .inl x]
def fn_X10_send : List mV → mM → Option mV × mM
  | [.inr (.inr (_, k)), .inl x], M => (some (.inl (send M k x).1), (send M k x).2)
  | _, M => (none, M)
theorem ok_X10_send (as : List mV) (M : mM) (h : pre_X10_send as M) (_ : ∀ v ∈ as, okV v) : okR (fn_X10_send as M).1 := by
  obtain ⟨k, x, rfl⟩ := h
  first | trivial | exact (by decide +kernel : kof 14 = 8)
theorem len_X10_send (as : List mV) (M : mM) (h : pre_X10_send as M) : (inL as).length ≤ 4 := by
  obtain ⟨k, x, rfl⟩ := h
  exact Nat.le_of_ble_eq_true rfl


theorem dX10_send_0 : decode cX10_send 0 = .ok (.aload_n 0, 1) := by decide +kernel
theorem dX10_send_1 : decode cX10_send 1 = .ok (.getfield 28, 3) := by decide +kernel
theorem dX10_send_4 : decode cX10_send 4 = .ok (.ifCond .le 7, 3) := by decide +kernel
theorem dX10_send_7 : decode cX10_send 7 = .ok (.iconst 1, 1) := by decide +kernel
theorem dX10_send_8 : decode cX10_send 8 = .ok (.goto 4, 3) := by decide +kernel
theorem dX10_send_11 : decode cX10_send 11 = .ok (.iconst 0, 1) := by decide +kernel
theorem dX10_send_12 : decode cX10_send 12 = .ok (.istore_n 2, 1) := by decide +kernel
theorem dX10_send_13 : decode cX10_send 13 = .ok (.iload_n 1, 1) := by decide +kernel
theorem dX10_send_14 : decode cX10_send 14 = .ok (.iload_n 2, 1) := by decide +kernel
theorem dX10_send_15 : decode cX10_send 15 = .ok (.ifCond .eq 10, 3) := by decide +kernel
theorem dX10_send_18 : decode cX10_send 18 = .ok (.aload_n 0, 1) := by decide +kernel
theorem dX10_send_19 : decode cX10_send 19 = .ok (.getfield 28, 3) := by decide +kernel
theorem dX10_send_22 : decode cX10_send 22 = .ok (.goto 7, 3) := by decide +kernel
theorem dX10_send_25 : decode cX10_send 25 = .ok (.aload_n 0, 1) := by decide +kernel
theorem dX10_send_26 : decode cX10_send 26 = .ok (.getfield 25, 3) := by decide +kernel
theorem dX10_send_29 : decode cX10_send 29 = .ok (.invokestatic 43, 3) := by decide +kernel
theorem dX10_send_32 : decode cX10_send 32 = .ok (.istore_n 3, 1) := by decide +kernel
theorem dX10_send_33 : decode cX10_send 33 = .ok (.iload_n 2, 1) := by decide +kernel
theorem dX10_send_34 : decode cX10_send 34 = .ok (.ifCond .eq 16, 3) := by decide +kernel
theorem dX10_send_37 : decode cX10_send 37 = .ok (.aload_n 0, 1) := by decide +kernel
theorem dX10_send_38 : decode cX10_send 38 = .ok (.dup, 1) := by decide +kernel
theorem dX10_send_39 : decode cX10_send 39 = .ok (.getfield 28, 3) := by decide +kernel
theorem dX10_send_42 : decode cX10_send 42 = .ok (.iload_n 3, 1) := by decide +kernel
theorem dX10_send_43 : decode cX10_send 43 = .ok (.isub, 1) := by decide +kernel
theorem dX10_send_44 : decode cX10_send 44 = .ok (.putfield 28, 3) := by decide +kernel
theorem dX10_send_47 : decode cX10_send 47 = .ok (.goto 13, 3) := by decide +kernel
theorem dX10_send_50 : decode cX10_send 50 = .ok (.aload_n 0, 1) := by decide +kernel
theorem dX10_send_51 : decode cX10_send 51 = .ok (.dup, 1) := by decide +kernel
theorem dX10_send_52 : decode cX10_send 52 = .ok (.getfield 25, 3) := by decide +kernel
theorem dX10_send_55 : decode cX10_send 55 = .ok (.iload_n 3, 1) := by decide +kernel
theorem dX10_send_56 : decode cX10_send 56 = .ok (.isub, 1) := by decide +kernel
theorem dX10_send_57 : decode cX10_send 57 = .ok (.putfield 25, 3) := by decide +kernel
theorem dX10_send_60 : decode cX10_send 60 = .ok (.aload_n 0, 1) := by decide +kernel
theorem dX10_send_61 : decode cX10_send 61 = .ok (.dup, 1) := by decide +kernel
theorem dX10_send_62 : decode cX10_send 62 = .ok (.getfield 37, 3) := by decide +kernel
theorem dX10_send_65 : decode cX10_send 65 = .ok (.iconst 1, 1) := by decide +kernel
theorem dX10_send_66 : decode cX10_send 66 = .ok (.iadd, 1) := by decide +kernel
theorem dX10_send_67 : decode cX10_send 67 = .ok (.putfield 37, 3) := by decide +kernel
theorem dX10_send_70 : decode cX10_send 70 = .ok (.aload_n 0, 1) := by decide +kernel
theorem dX10_send_71 : decode cX10_send 71 = .ok (.getfield 18, 3) := by decide +kernel
theorem dX10_send_74 : decode cX10_send 74 = .ok (.ifCond .le 27, 3) := by decide +kernel
theorem dX10_send_77 : decode cX10_send 77 = .ok (.aload_n 0, 1) := by decide +kernel
theorem dX10_send_78 : decode cX10_send 78 = .ok (.getfield 37, 3) := by decide +kernel
theorem dX10_send_81 : decode cX10_send 81 = .ok (.aload_n 0, 1) := by decide +kernel
theorem dX10_send_82 : decode cX10_send 82 = .ok (.getfield 18, 3) := by decide +kernel
theorem dX10_send_85 : decode cX10_send 85 = .ok (.irem, 1) := by decide +kernel
theorem dX10_send_86 : decode cX10_send 86 = .ok (.ifCond .ne 15, 3) := by decide +kernel
theorem dX10_send_89 : decode cX10_send 89 = .ok (.aload_n 0, 1) := by decide +kernel
theorem dX10_send_90 : decode cX10_send 90 = .ok (.dup, 1) := by decide +kernel
theorem dX10_send_91 : decode cX10_send 91 = .ok (.getfield 28, 3) := by decide +kernel
theorem dX10_send_94 : decode cX10_send 94 = .ok (.iload_n 3, 1) := by decide +kernel
theorem dX10_send_95 : decode cX10_send 95 = .ok (.iadd, 1) := by decide +kernel
theorem dX10_send_96 : decode cX10_send 96 = .ok (.putfield 28, 3) := by decide +kernel
theorem dX10_send_99 : decode cX10_send 99 = .ok (.iconst 0, 1) := by decide +kernel
theorem dX10_send_100 : decode cX10_send 100 = .ok (.ireturn, 1) := by decide +kernel
theorem dX10_send_101 : decode cX10_send 101 = .ok (.aload_n 0, 1) := by decide +kernel
theorem dX10_send_102 : decode cX10_send 102 = .ok (.dup, 1) := by decide +kernel
theorem dX10_send_103 : decode cX10_send 103 = .ok (.getfield 40, 3) := by decide +kernel
theorem dX10_send_106 : decode cX10_send 106 = .ok (.iload_n 3, 1) := by decide +kernel
theorem dX10_send_107 : decode cX10_send 107 = .ok (.iadd, 1) := by decide +kernel
theorem dX10_send_108 : decode cX10_send 108 = .ok (.putfield 40, 3) := by decide +kernel
theorem dX10_send_111 : decode cX10_send 111 = .ok (.iload_n 3, 1) := by decide +kernel
theorem dX10_send_112 : decode cX10_send 112 = .ok (.ireturn, 1) := by decide +kernel
theorem mk_X10_send : MVk yX10_send "FairBlocks$User" cX10_send 4 (Option.some FieldType.int) 1 := ⟨w_457, w_455, w_456, w_6, rfl, by decide +kernel, by decide +kernel, by decide +kernel⟩
def BX10_send_0 (G : Nat → KT) (Q : Option mV → mM → Prop) : KT := (s_aload 0 (s_geti 10 5 (s_if (fun x => x ≤ 0) (s_at G 11 [true, true, false, false]) (s_iconst (1) (s_at G 12 [true, true, false, false])))))
set_option maxRecDepth 4000 in
theorem bsX10_send_0 {p : Program} {l : Launch} {e : Env} {s : State} {m : MethodId} {args : Array Value} {below : List Frame} {meth : Method} {c : Code} {D : va_G} {ca : Nat → ClassId} {ad : Nat → Nat} {A : Nat → Prop} {Q : Option mV → mM → Prop} (hX : CX p s m args meth c 4 cX10_send "FairBlocks$User" D ca ad A) (hr : meth.sig.returnType = (Option.some FieldType.int)) : ∀ lv st M, BX10_send_0 (Gd p l e (rmD 1) s m args below meth c 4 D ca ad A 0 0 (MQ below (QC D ca ad A Q) args s 0 0 A)) Q lv st M → Gd p l e (rmD 1) s m args below meth c 4 D ca ad A 0 0 (MQ below (QC D ca ad A Q) args s 0 0 A) 0 lv st M :=
  (sd_aload_n hX dX10_send_0 rfl (sd_geti hX fl_109 (by decide) dX10_send_1 (sd_if_le hX dX10_send_4 (by decide) sd_at (sd_iconst hX dX10_send_7 rfl (sd_goto hX dX10_send_8 (by decide) sd_at)))))
def BX10_send_11 (G : Nat → KT) (Q : Option mV → mM → Prop) : KT := (s_iconst (0) (s_at G 12 [true, true, false, false]))
set_option maxRecDepth 4000 in
theorem bsX10_send_11 {p : Program} {l : Launch} {e : Env} {s : State} {m : MethodId} {args : Array Value} {below : List Frame} {meth : Method} {c : Code} {D : va_G} {ca : Nat → ClassId} {ad : Nat → Nat} {A : Nat → Prop} {Q : Option mV → mM → Prop} (hX : CX p s m args meth c 4 cX10_send "FairBlocks$User" D ca ad A) (hr : meth.sig.returnType = (Option.some FieldType.int)) : ∀ lv st M, BX10_send_11 (Gd p l e (rmD 1) s m args below meth c 4 D ca ad A 0 0 (MQ below (QC D ca ad A Q) args s 0 0 A)) Q lv st M → Gd p l e (rmD 1) s m args below meth c 4 D ca ad A 0 0 (MQ below (QC D ca ad A Q) args s 0 0 A) 11 lv st M :=
  (sd_iconst hX dX10_send_11 rfl sd_at)
def BX10_send_12 (G : Nat → KT) (Q : Option mV → mM → Prop) : KT := (s_istore 2 (s_iload 1 (s_iload 2 (s_if (fun x => x = 0) (s_at G 25 [true, false, true, false]) (s_aload 0 (s_geti 10 5 (s_at G 29 [true, false, true, false])))))))
set_option maxRecDepth 4000 in
theorem bsX10_send_12 {p : Program} {l : Launch} {e : Env} {s : State} {m : MethodId} {args : Array Value} {below : List Frame} {meth : Method} {c : Code} {D : va_G} {ca : Nat → ClassId} {ad : Nat → Nat} {A : Nat → Prop} {Q : Option mV → mM → Prop} (hX : CX p s m args meth c 4 cX10_send "FairBlocks$User" D ca ad A) (hr : meth.sig.returnType = (Option.some FieldType.int)) : ∀ lv st M, BX10_send_12 (Gd p l e (rmD 1) s m args below meth c 4 D ca ad A 0 0 (MQ below (QC D ca ad A Q) args s 0 0 A)) Q lv st M → Gd p l e (rmD 1) s m args below meth c 4 D ca ad A 0 0 (MQ below (QC D ca ad A Q) args s 0 0 A) 12 lv st M :=
  (sd_istore_n hX (by decide) dX10_send_12 rfl (sd_iload_n hX dX10_send_13 rfl (sd_iload_n hX dX10_send_14 rfl (sd_if_eq hX dX10_send_15 (by decide) sd_at (sd_aload_n hX dX10_send_18 rfl (sd_geti hX fl_109 (by decide) dX10_send_19 (sd_goto hX dX10_send_22 (by decide) sd_at)))))))
def BX10_send_25 (G : Nat → KT) (Q : Option mV → mM → Prop) : KT := (s_aload 0 (s_geti 10 4 (s_at G 29 [true, false, true, false])))
set_option maxRecDepth 4000 in
theorem bsX10_send_25 {p : Program} {l : Launch} {e : Env} {s : State} {m : MethodId} {args : Array Value} {below : List Frame} {meth : Method} {c : Code} {D : va_G} {ca : Nat → ClassId} {ad : Nat → Nat} {A : Nat → Prop} {Q : Option mV → mM → Prop} (hX : CX p s m args meth c 4 cX10_send "FairBlocks$User" D ca ad A) (hr : meth.sig.returnType = (Option.some FieldType.int)) : ∀ lv st M, BX10_send_25 (Gd p l e (rmD 1) s m args below meth c 4 D ca ad A 0 0 (MQ below (QC D ca ad A Q) args s 0 0 A)) Q lv st M → Gd p l e (rmD 1) s m args below meth c 4 D ca ad A 0 0 (MQ below (QC D ca ad A Q) args s 0 0 A) 25 lv st M :=
  (sd_aload_n hX dX10_send_25 rfl (sd_geti hX fl_107 (by decide) dX10_send_26 sd_at))
def BX10_send_29 (G : Nat → KT) (Q : Option mV → mM → Prop) : KT := (s_mth mn (s_istore 3 (s_iload 2 (s_if (fun x => x = 0) (s_at G 50 [true, false, false, true]) (s_aload 0 (s_dup (s_geti 10 5 (s_iload 3 (s_bin (fun x y => x - y) (s_puti 10 5 (s_at G 60 [true, false, false, true])))))))))))
set_option maxRecDepth 4000 in
theorem bsX10_send_29 {p : Program} {l : Launch} {e : Env} {s : State} {m : MethodId} {args : Array Value} {below : List Frame} {meth : Method} {c : Code} {D : va_G} {ca : Nat → ClassId} {ad : Nat → Nat} {A : Nat → Prop} {Q : Option mV → mM → Prop} (hX : CX p s m args meth c 4 cX10_send "FairBlocks$User" D ca ad A) (hr : meth.sig.returnType = (Option.some FieldType.int)) : ∀ lv st M, BX10_send_29 (Gd p l e (rmD 1) s m args below meth c 4 D ca ad A 0 0 (MQ below (QC D ca ad A Q) args s 0 0 A)) Q lv st M → Gd p l e (rmD 1) s m args below meth c 4 D ca ad A 0 0 (MQ below (QC D ca ad A Q) args s 0 0 A) 29 lv st M :=
  (sd_mth hX (Or.inl ⟨rfl, rfl, rfl⟩) w_458 w_459 w_14 wm_min ⟨⟨by decide, by decide⟩, by decide, by decide⟩ dX10_send_29 (sd_istore_n hX (by decide) dX10_send_32 rfl (sd_iload_n hX dX10_send_33 rfl (sd_if_eq hX dX10_send_34 (by decide) sd_at (sd_aload_n hX dX10_send_37 rfl (sd_dup hX dX10_send_38 (sd_geti hX fl_109 (by decide) dX10_send_39 (sd_iload_n hX dX10_send_42 rfl (sd_isub hX dX10_send_43 (sd_puti hX fp_109 dX10_send_44 (sd_goto hX dX10_send_47 (by decide) sd_at)))))))))))
def BX10_send_50 (G : Nat → KT) (Q : Option mV → mM → Prop) : KT := (s_aload 0 (s_dup (s_geti 10 4 (s_iload 3 (s_bin (fun x y => x - y) (s_puti 10 4 (s_at G 60 [true, false, false, true])))))))
set_option maxRecDepth 4000 in
theorem bsX10_send_50 {p : Program} {l : Launch} {e : Env} {s : State} {m : MethodId} {args : Array Value} {below : List Frame} {meth : Method} {c : Code} {D : va_G} {ca : Nat → ClassId} {ad : Nat → Nat} {A : Nat → Prop} {Q : Option mV → mM → Prop} (hX : CX p s m args meth c 4 cX10_send "FairBlocks$User" D ca ad A) (hr : meth.sig.returnType = (Option.some FieldType.int)) : ∀ lv st M, BX10_send_50 (Gd p l e (rmD 1) s m args below meth c 4 D ca ad A 0 0 (MQ below (QC D ca ad A Q) args s 0 0 A)) Q lv st M → Gd p l e (rmD 1) s m args below meth c 4 D ca ad A 0 0 (MQ below (QC D ca ad A Q) args s 0 0 A) 50 lv st M :=
  (sd_aload_n hX dX10_send_50 rfl (sd_dup hX dX10_send_51 (sd_geti hX fl_107 (by decide) dX10_send_52 (sd_iload_n hX dX10_send_55 rfl (sd_isub hX dX10_send_56 (sd_puti hX fp_107 dX10_send_57 sd_at))))))
def BX10_send_60 (G : Nat → KT) (Q : Option mV → mM → Prop) : KT := (s_aload 0 (s_dup (s_geti 10 8 (s_iconst (1) (s_bin (fun x y => x + y) (s_puti 10 8 (s_aload 0 (s_geti 10 2 (s_if (fun x => x ≤ 0) (s_at G 101 [true, false, false, true]) (s_aload 0 (s_geti 10 8 (s_aload 0 (s_geti 10 2 (s_binG (fun x y => x - x / y * y) (s_if (fun x => x = 0) ((s_aload 0 (s_dup (s_geti 10 5 (s_iload 3 (s_bin (fun x y => x + y) (s_puti 10 5 (s_iconst (0) (s_iret Q))))))))) (s_at G 101 [true, false, false, true]))))))))))))))))
set_option maxRecDepth 4000 in
theorem bsX10_send_60 {p : Program} {l : Launch} {e : Env} {s : State} {m : MethodId} {args : Array Value} {below : List Frame} {meth : Method} {c : Code} {D : va_G} {ca : Nat → ClassId} {ad : Nat → Nat} {A : Nat → Prop} {Q : Option mV → mM → Prop} (hX : CX p s m args meth c 4 cX10_send "FairBlocks$User" D ca ad A) (hr : meth.sig.returnType = (Option.some FieldType.int)) : ∀ lv st M, BX10_send_60 (Gd p l e (rmD 1) s m args below meth c 4 D ca ad A 0 0 (MQ below (QC D ca ad A Q) args s 0 0 A)) Q lv st M → Gd p l e (rmD 1) s m args below meth c 4 D ca ad A 0 0 (MQ below (QC D ca ad A Q) args s 0 0 A) 60 lv st M :=
  (sd_aload_n hX dX10_send_60 rfl (sd_dup hX dX10_send_61 (sd_geti hX fl_118 (by decide) dX10_send_62 (sd_iconst hX dX10_send_65 rfl (sd_iadd hX dX10_send_66 (sd_puti hX fp_118 dX10_send_67 (sd_aload_n hX dX10_send_70 rfl (sd_geti hX fl_99 (by decide) dX10_send_71 (sd_if_le hX dX10_send_74 (by decide) sd_at (sd_aload_n hX dX10_send_77 rfl (sd_geti hX fl_118 (by decide) dX10_send_78 (sd_aload_n hX dX10_send_81 rfl (sd_geti hX fl_99 (by decide) dX10_send_82 (sd_irem hX dX10_send_85 (sd_if_ne hX dX10_send_86 (by decide) sd_at (sd_aload_n hX dX10_send_89 rfl (sd_dup hX dX10_send_90 (sd_geti hX fl_109 (by decide) dX10_send_91 (sd_iload_n hX dX10_send_94 rfl (sd_iadd hX dX10_send_95 (sd_puti hX fp_109 dX10_send_96 (sd_iconst hX dX10_send_99 rfl (sd_iret hX hr dX10_send_100)))))))))))))))))))))))
def BX10_send_101 (G : Nat → KT) (Q : Option mV → mM → Prop) : KT := (s_aload 0 (s_dup (s_geti 10 9 (s_iload 3 (s_bin (fun x y => x + y) (s_puti 10 9 (s_iload 3 (s_iret Q))))))))
set_option maxRecDepth 4000 in
theorem bsX10_send_101 {p : Program} {l : Launch} {e : Env} {s : State} {m : MethodId} {args : Array Value} {below : List Frame} {meth : Method} {c : Code} {D : va_G} {ca : Nat → ClassId} {ad : Nat → Nat} {A : Nat → Prop} {Q : Option mV → mM → Prop} (hX : CX p s m args meth c 4 cX10_send "FairBlocks$User" D ca ad A) (hr : meth.sig.returnType = (Option.some FieldType.int)) : ∀ lv st M, BX10_send_101 (Gd p l e (rmD 1) s m args below meth c 4 D ca ad A 0 0 (MQ below (QC D ca ad A Q) args s 0 0 A)) Q lv st M → Gd p l e (rmD 1) s m args below meth c 4 D ca ad A 0 0 (MQ below (QC D ca ad A Q) args s 0 0 A) 101 lv st M :=
  (sd_aload_n hX dX10_send_101 rfl (sd_dup hX dX10_send_102 (sd_geti hX fl_119 (by decide) dX10_send_103 (sd_iload_n hX dX10_send_106 rfl (sd_iadd hX dX10_send_107 (sd_puti hX fp_119 dX10_send_108 (sd_iload_n hX dX10_send_111 rfl (sd_iret hX hr dX10_send_112))))))))
set_option maxHeartbeats 400000 in
theorem pf_X10_send (G : Nat → KT) (Q : Option mV → mM → Prop) (h0 : ∀ lv st M, BX10_send_0 G Q lv st M → G 0 lv st M) (h11 : ∀ lv st M, BX10_send_11 G Q lv st M → G 11 lv st M) (h12 : ∀ lv st M, BX10_send_12 G Q lv st M → G 12 lv st M) (h25 : ∀ lv st M, BX10_send_25 G Q lv st M → G 25 lv st M) (h29 : ∀ lv st M, BX10_send_29 G Q lv st M → G 29 lv st M) (h50 : ∀ lv st M, BX10_send_50 G Q lv st M → G 50 lv st M) (h60 : ∀ lv st M, BX10_send_60 G Q lv st M → G 60 lv st M) (h101 : ∀ lv st M, BX10_send_101 G Q lv st M → G 101 lv st M) (as : List mV) (M : mM) (ho : ∀ v ∈ as, okV v) (hp : pre_X10_send as M) (hQ : Q (fn_X10_send as M).1 (fn_X10_send as M).2) : G 0 (inL as ++ List.replicate (4 - (inL as).length) none) [] M := by
  obtain ⟨k, x, rfl⟩ := hp
  have L : ∀ (M : mM) (a : Int32), Q (some (.inl (send2 (mset M k 8 (M.1 k 8 + 1)) k a).1)) (send2 (mset M k 8 (M.1 k 8 + 1)) k a).2 → G 60 [some (.inr (.inr (10, k))), none, none, some (.inl a)] [] M := by
    intro M a hq
    simp only [send2, rm] at hq
    repeat' (first | (first | (apply h0; simp only [BX10_send_0, s_mth, s_mab, s_at, s_iconst, s_lconst, s_iload, s_lload, s_aload, s_istore, s_lstore, s_astore, s_iinc, s_bin, s_binG, s_un, s_lbin, s_lbinG, s_lsh, s_lcmp, s_i2l, s_l2i, s_dup, s_dup2, s_pop, s_if, s_icmp, s_geti, s_getl, s_getr, s_puti, s_putz, s_putl, s_iald, s_zald, s_iast, s_zast, s_aaldS, s_aaldU, s_gets, s_tald, s_tsw, tsw, s_iret, s_zret, s_lret, s_aret, s_vret, s_callV, s_callS, c1, nl1, keepL, csum, pushR, inL, List.getD_cons_zero, List.getD_cons_succ, List.set_cons_zero, List.set_cons_succ, List.cons_append, List.nil_append, List.append_nil, List.replicate, List.length_cons, List.length_nil, List.take_succ_cons, List.take_zero, List.drop_succ_cons, List.drop_zero, List.reverse_cons, List.reverse_nil, true_and, and_true, forall_const, not_true_eq_false, not_false_eq_true, false_implies, true_implies, implies_true, one0, m10, Nat.reduceAdd, Nat.reduceSub, Nat.reduceLeDiff, Nat.zero_add, Nat.add_zero]) | (apply h11; simp only [BX10_send_11, s_mth, s_mab, s_at, s_iconst, s_lconst, s_iload, s_lload, s_aload, s_istore, s_lstore, s_astore, s_iinc, s_bin, s_binG, s_un, s_lbin, s_lbinG, s_lsh, s_lcmp, s_i2l, s_l2i, s_dup, s_dup2, s_pop, s_if, s_icmp, s_geti, s_getl, s_getr, s_puti, s_putz, s_putl, s_iald, s_zald, s_iast, s_zast, s_aaldS, s_aaldU, s_gets, s_tald, s_tsw, tsw, s_iret, s_zret, s_lret, s_aret, s_vret, s_callV, s_callS, c1, nl1, keepL, csum, pushR, inL, List.getD_cons_zero, List.getD_cons_succ, List.set_cons_zero, List.set_cons_succ, List.cons_append, List.nil_append, List.append_nil, List.replicate, List.length_cons, List.length_nil, List.take_succ_cons, List.take_zero, List.drop_succ_cons, List.drop_zero, List.reverse_cons, List.reverse_nil, true_and, and_true, forall_const, not_true_eq_false, not_false_eq_true, false_implies, true_implies, implies_true, one0, m10, Nat.reduceAdd, Nat.reduceSub, Nat.reduceLeDiff, Nat.zero_add, Nat.add_zero]) | (apply h12; simp only [BX10_send_12, s_mth, s_mab, s_at, s_iconst, s_lconst, s_iload, s_lload, s_aload, s_istore, s_lstore, s_astore, s_iinc, s_bin, s_binG, s_un, s_lbin, s_lbinG, s_lsh, s_lcmp, s_i2l, s_l2i, s_dup, s_dup2, s_pop, s_if, s_icmp, s_geti, s_getl, s_getr, s_puti, s_putz, s_putl, s_iald, s_zald, s_iast, s_zast, s_aaldS, s_aaldU, s_gets, s_tald, s_tsw, tsw, s_iret, s_zret, s_lret, s_aret, s_vret, s_callV, s_callS, c1, nl1, keepL, csum, pushR, inL, List.getD_cons_zero, List.getD_cons_succ, List.set_cons_zero, List.set_cons_succ, List.cons_append, List.nil_append, List.append_nil, List.replicate, List.length_cons, List.length_nil, List.take_succ_cons, List.take_zero, List.drop_succ_cons, List.drop_zero, List.reverse_cons, List.reverse_nil, true_and, and_true, forall_const, not_true_eq_false, not_false_eq_true, false_implies, true_implies, implies_true, one0, m10, Nat.reduceAdd, Nat.reduceSub, Nat.reduceLeDiff, Nat.zero_add, Nat.add_zero]) | (apply h25; simp only [BX10_send_25, s_mth, s_mab, s_at, s_iconst, s_lconst, s_iload, s_lload, s_aload, s_istore, s_lstore, s_astore, s_iinc, s_bin, s_binG, s_un, s_lbin, s_lbinG, s_lsh, s_lcmp, s_i2l, s_l2i, s_dup, s_dup2, s_pop, s_if, s_icmp, s_geti, s_getl, s_getr, s_puti, s_putz, s_putl, s_iald, s_zald, s_iast, s_zast, s_aaldS, s_aaldU, s_gets, s_tald, s_tsw, tsw, s_iret, s_zret, s_lret, s_aret, s_vret, s_callV, s_callS, c1, nl1, keepL, csum, pushR, inL, List.getD_cons_zero, List.getD_cons_succ, List.set_cons_zero, List.set_cons_succ, List.cons_append, List.nil_append, List.append_nil, List.replicate, List.length_cons, List.length_nil, List.take_succ_cons, List.take_zero, List.drop_succ_cons, List.drop_zero, List.reverse_cons, List.reverse_nil, true_and, and_true, forall_const, not_true_eq_false, not_false_eq_true, false_implies, true_implies, implies_true, one0, m10, Nat.reduceAdd, Nat.reduceSub, Nat.reduceLeDiff, Nat.zero_add, Nat.add_zero]) | (apply h29; simp only [BX10_send_29, s_mth, s_mab, s_at, s_iconst, s_lconst, s_iload, s_lload, s_aload, s_istore, s_lstore, s_astore, s_iinc, s_bin, s_binG, s_un, s_lbin, s_lbinG, s_lsh, s_lcmp, s_i2l, s_l2i, s_dup, s_dup2, s_pop, s_if, s_icmp, s_geti, s_getl, s_getr, s_puti, s_putz, s_putl, s_iald, s_zald, s_iast, s_zast, s_aaldS, s_aaldU, s_gets, s_tald, s_tsw, tsw, s_iret, s_zret, s_lret, s_aret, s_vret, s_callV, s_callS, c1, nl1, keepL, csum, pushR, inL, List.getD_cons_zero, List.getD_cons_succ, List.set_cons_zero, List.set_cons_succ, List.cons_append, List.nil_append, List.append_nil, List.replicate, List.length_cons, List.length_nil, List.take_succ_cons, List.take_zero, List.drop_succ_cons, List.drop_zero, List.reverse_cons, List.reverse_nil, true_and, and_true, forall_const, not_true_eq_false, not_false_eq_true, false_implies, true_implies, implies_true, one0, m10, Nat.reduceAdd, Nat.reduceSub, Nat.reduceLeDiff, Nat.zero_add, Nat.add_zero]) | (apply h50; simp only [BX10_send_50, s_mth, s_mab, s_at, s_iconst, s_lconst, s_iload, s_lload, s_aload, s_istore, s_lstore, s_astore, s_iinc, s_bin, s_binG, s_un, s_lbin, s_lbinG, s_lsh, s_lcmp, s_i2l, s_l2i, s_dup, s_dup2, s_pop, s_if, s_icmp, s_geti, s_getl, s_getr, s_puti, s_putz, s_putl, s_iald, s_zald, s_iast, s_zast, s_aaldS, s_aaldU, s_gets, s_tald, s_tsw, tsw, s_iret, s_zret, s_lret, s_aret, s_vret, s_callV, s_callS, c1, nl1, keepL, csum, pushR, inL, List.getD_cons_zero, List.getD_cons_succ, List.set_cons_zero, List.set_cons_succ, List.cons_append, List.nil_append, List.append_nil, List.replicate, List.length_cons, List.length_nil, List.take_succ_cons, List.take_zero, List.drop_succ_cons, List.drop_zero, List.reverse_cons, List.reverse_nil, true_and, and_true, forall_const, not_true_eq_false, not_false_eq_true, false_implies, true_implies, implies_true, one0, m10, Nat.reduceAdd, Nat.reduceSub, Nat.reduceLeDiff, Nat.zero_add, Nat.add_zero]) | (apply h60; simp only [BX10_send_60, s_mth, s_mab, s_at, s_iconst, s_lconst, s_iload, s_lload, s_aload, s_istore, s_lstore, s_astore, s_iinc, s_bin, s_binG, s_un, s_lbin, s_lbinG, s_lsh, s_lcmp, s_i2l, s_l2i, s_dup, s_dup2, s_pop, s_if, s_icmp, s_geti, s_getl, s_getr, s_puti, s_putz, s_putl, s_iald, s_zald, s_iast, s_zast, s_aaldS, s_aaldU, s_gets, s_tald, s_tsw, tsw, s_iret, s_zret, s_lret, s_aret, s_vret, s_callV, s_callS, c1, nl1, keepL, csum, pushR, inL, List.getD_cons_zero, List.getD_cons_succ, List.set_cons_zero, List.set_cons_succ, List.cons_append, List.nil_append, List.append_nil, List.replicate, List.length_cons, List.length_nil, List.take_succ_cons, List.take_zero, List.drop_succ_cons, List.drop_zero, List.reverse_cons, List.reverse_nil, true_and, and_true, forall_const, not_true_eq_false, not_false_eq_true, false_implies, true_implies, implies_true, one0, m10, Nat.reduceAdd, Nat.reduceSub, Nat.reduceLeDiff, Nat.zero_add, Nat.add_zero]) | (apply h101; simp only [BX10_send_101, s_mth, s_mab, s_at, s_iconst, s_lconst, s_iload, s_lload, s_aload, s_istore, s_lstore, s_astore, s_iinc, s_bin, s_binG, s_un, s_lbin, s_lbinG, s_lsh, s_lcmp, s_i2l, s_l2i, s_dup, s_dup2, s_pop, s_if, s_icmp, s_geti, s_getl, s_getr, s_puti, s_putz, s_putl, s_iald, s_zald, s_iast, s_zast, s_aaldS, s_aaldU, s_gets, s_tald, s_tsw, tsw, s_iret, s_zret, s_lret, s_aret, s_vret, s_callV, s_callS, c1, nl1, keepL, csum, pushR, inL, List.getD_cons_zero, List.getD_cons_succ, List.set_cons_zero, List.set_cons_succ, List.cons_append, List.nil_append, List.append_nil, List.replicate, List.length_cons, List.length_nil, List.take_succ_cons, List.take_zero, List.drop_succ_cons, List.drop_zero, List.reverse_cons, List.reverse_nil, true_and, and_true, forall_const, not_true_eq_false, not_false_eq_true, false_implies, true_implies, implies_true, one0, m10, Nat.reduceAdd, Nat.reduceSub, Nat.reduceLeDiff, Nat.zero_add, Nat.add_zero])) | refine ⟨?_, ?_⟩ | intro hc)
    all_goals clear h0 h11 h12 h25 h29 h50 h60 h101
    all_goals (first | (simp only [*, if_true, if_false] at hq; exact hq) | (exfalso; simp_all; done))
  simp only [fn_X10_send, send] at hQ
  by_cases h5 : M.1 k 5 ≤ 0
  · simp only [sendM, sendA, if_pos h5] at hQ
    (apply h0; simp only [BX10_send_0, s_mth, s_mab, s_at, s_iconst, s_lconst, s_iload, s_lload, s_aload, s_istore, s_lstore, s_astore, s_iinc, s_bin, s_binG, s_un, s_lbin, s_lbinG, s_lsh, s_lcmp, s_i2l, s_l2i, s_dup, s_dup2, s_pop, s_if, s_icmp, s_geti, s_getl, s_getr, s_puti, s_putz, s_putl, s_iald, s_zald, s_iast, s_zast, s_aaldS, s_aaldU, s_gets, s_tald, s_tsw, tsw, s_iret, s_zret, s_lret, s_aret, s_vret, s_callV, s_callS, c1, nl1, keepL, csum, pushR, inL, List.getD_cons_zero, List.getD_cons_succ, List.set_cons_zero, List.set_cons_succ, List.cons_append, List.nil_append, List.append_nil, List.replicate, List.length_cons, List.length_nil, List.take_succ_cons, List.take_zero, List.drop_succ_cons, List.drop_zero, List.reverse_cons, List.reverse_nil, true_and, and_true, forall_const, not_true_eq_false, not_false_eq_true, false_implies, true_implies, implies_true, one0, m10, Nat.reduceAdd, Nat.reduceSub, Nat.reduceLeDiff, Nat.zero_add, Nat.add_zero])
    refine ⟨fun _ => ?_, fun h => absurd h5 h⟩
    (apply h11; simp only [BX10_send_11, s_mth, s_mab, s_at, s_iconst, s_lconst, s_iload, s_lload, s_aload, s_istore, s_lstore, s_astore, s_iinc, s_bin, s_binG, s_un, s_lbin, s_lbinG, s_lsh, s_lcmp, s_i2l, s_l2i, s_dup, s_dup2, s_pop, s_if, s_icmp, s_geti, s_getl, s_getr, s_puti, s_putz, s_putl, s_iald, s_zald, s_iast, s_zast, s_aaldS, s_aaldU, s_gets, s_tald, s_tsw, tsw, s_iret, s_zret, s_lret, s_aret, s_vret, s_callV, s_callS, c1, nl1, keepL, csum, pushR, inL, List.getD_cons_zero, List.getD_cons_succ, List.set_cons_zero, List.set_cons_succ, List.cons_append, List.nil_append, List.append_nil, List.replicate, List.length_cons, List.length_nil, List.take_succ_cons, List.take_zero, List.drop_succ_cons, List.drop_zero, List.reverse_cons, List.reverse_nil, true_and, and_true, forall_const, not_true_eq_false, not_false_eq_true, false_implies, true_implies, implies_true, one0, m10, Nat.reduceAdd, Nat.reduceSub, Nat.reduceLeDiff, Nat.zero_add, Nat.add_zero])
    (apply h12; simp only [BX10_send_12, s_mth, s_mab, s_at, s_iconst, s_lconst, s_iload, s_lload, s_aload, s_istore, s_lstore, s_astore, s_iinc, s_bin, s_binG, s_un, s_lbin, s_lbinG, s_lsh, s_lcmp, s_i2l, s_l2i, s_dup, s_dup2, s_pop, s_if, s_icmp, s_geti, s_getl, s_getr, s_puti, s_putz, s_putl, s_iald, s_zald, s_iast, s_zast, s_aaldS, s_aaldU, s_gets, s_tald, s_tsw, tsw, s_iret, s_zret, s_lret, s_aret, s_vret, s_callV, s_callS, c1, nl1, keepL, csum, pushR, inL, List.getD_cons_zero, List.getD_cons_succ, List.set_cons_zero, List.set_cons_succ, List.cons_append, List.nil_append, List.append_nil, List.replicate, List.length_cons, List.length_nil, List.take_succ_cons, List.take_zero, List.drop_succ_cons, List.drop_zero, List.reverse_cons, List.reverse_nil, true_and, and_true, forall_const, not_true_eq_false, not_false_eq_true, false_implies, true_implies, implies_true, one0, m10, Nat.reduceAdd, Nat.reduceSub, Nat.reduceLeDiff, Nat.zero_add, Nat.add_zero])
    (apply h25; simp only [BX10_send_25, s_mth, s_mab, s_at, s_iconst, s_lconst, s_iload, s_lload, s_aload, s_istore, s_lstore, s_astore, s_iinc, s_bin, s_binG, s_un, s_lbin, s_lbinG, s_lsh, s_lcmp, s_i2l, s_l2i, s_dup, s_dup2, s_pop, s_if, s_icmp, s_geti, s_getl, s_getr, s_puti, s_putz, s_putl, s_iald, s_zald, s_iast, s_zast, s_aaldS, s_aaldU, s_gets, s_tald, s_tsw, tsw, s_iret, s_zret, s_lret, s_aret, s_vret, s_callV, s_callS, c1, nl1, keepL, csum, pushR, inL, List.getD_cons_zero, List.getD_cons_succ, List.set_cons_zero, List.set_cons_succ, List.cons_append, List.nil_append, List.append_nil, List.replicate, List.length_cons, List.length_nil, List.take_succ_cons, List.take_zero, List.drop_succ_cons, List.drop_zero, List.reverse_cons, List.reverse_nil, true_and, and_true, forall_const, not_true_eq_false, not_false_eq_true, false_implies, true_implies, implies_true, one0, m10, Nat.reduceAdd, Nat.reduceSub, Nat.reduceLeDiff, Nat.zero_add, Nat.add_zero])
    (apply h29; simp only [BX10_send_29, s_mth, s_mab, s_at, s_iconst, s_lconst, s_iload, s_lload, s_aload, s_istore, s_lstore, s_astore, s_iinc, s_bin, s_binG, s_un, s_lbin, s_lbinG, s_lsh, s_lcmp, s_i2l, s_l2i, s_dup, s_dup2, s_pop, s_if, s_icmp, s_geti, s_getl, s_getr, s_puti, s_putz, s_putl, s_iald, s_zald, s_iast, s_zast, s_aaldS, s_aaldU, s_gets, s_tald, s_tsw, tsw, s_iret, s_zret, s_lret, s_aret, s_vret, s_callV, s_callS, c1, nl1, keepL, csum, pushR, inL, List.getD_cons_zero, List.getD_cons_succ, List.set_cons_zero, List.set_cons_succ, List.cons_append, List.nil_append, List.append_nil, List.replicate, List.length_cons, List.length_nil, List.take_succ_cons, List.take_zero, List.drop_succ_cons, List.drop_zero, List.reverse_cons, List.reverse_nil, true_and, and_true, forall_const, not_true_eq_false, not_false_eq_true, false_implies, true_implies, implies_true, one0, m10, Nat.reduceAdd, Nat.reduceSub, Nat.reduceLeDiff, Nat.zero_add, Nat.add_zero])
    (apply h50; simp only [BX10_send_50, s_mth, s_mab, s_at, s_iconst, s_lconst, s_iload, s_lload, s_aload, s_istore, s_lstore, s_astore, s_iinc, s_bin, s_binG, s_un, s_lbin, s_lbinG, s_lsh, s_lcmp, s_i2l, s_l2i, s_dup, s_dup2, s_pop, s_if, s_icmp, s_geti, s_getl, s_getr, s_puti, s_putz, s_putl, s_iald, s_zald, s_iast, s_zast, s_aaldS, s_aaldU, s_gets, s_tald, s_tsw, tsw, s_iret, s_zret, s_lret, s_aret, s_vret, s_callV, s_callS, c1, nl1, keepL, csum, pushR, inL, List.getD_cons_zero, List.getD_cons_succ, List.set_cons_zero, List.set_cons_succ, List.cons_append, List.nil_append, List.append_nil, List.replicate, List.length_cons, List.length_nil, List.take_succ_cons, List.take_zero, List.drop_succ_cons, List.drop_zero, List.reverse_cons, List.reverse_nil, true_and, and_true, forall_const, not_true_eq_false, not_false_eq_true, false_implies, true_implies, implies_true, one0, m10, Nat.reduceAdd, Nat.reduceSub, Nat.reduceLeDiff, Nat.zero_add, Nat.add_zero])
    exact L _ _ hQ
  · simp only [sendM, sendA, if_neg h5] at hQ
    (apply h0; simp only [BX10_send_0, s_mth, s_mab, s_at, s_iconst, s_lconst, s_iload, s_lload, s_aload, s_istore, s_lstore, s_astore, s_iinc, s_bin, s_binG, s_un, s_lbin, s_lbinG, s_lsh, s_lcmp, s_i2l, s_l2i, s_dup, s_dup2, s_pop, s_if, s_icmp, s_geti, s_getl, s_getr, s_puti, s_putz, s_putl, s_iald, s_zald, s_iast, s_zast, s_aaldS, s_aaldU, s_gets, s_tald, s_tsw, tsw, s_iret, s_zret, s_lret, s_aret, s_vret, s_callV, s_callS, c1, nl1, keepL, csum, pushR, inL, List.getD_cons_zero, List.getD_cons_succ, List.set_cons_zero, List.set_cons_succ, List.cons_append, List.nil_append, List.append_nil, List.replicate, List.length_cons, List.length_nil, List.take_succ_cons, List.take_zero, List.drop_succ_cons, List.drop_zero, List.reverse_cons, List.reverse_nil, true_and, and_true, forall_const, not_true_eq_false, not_false_eq_true, false_implies, true_implies, implies_true, one0, m10, Nat.reduceAdd, Nat.reduceSub, Nat.reduceLeDiff, Nat.zero_add, Nat.add_zero])
    refine ⟨fun h => absurd h h5, fun h => ?_⟩
    (apply h12; simp only [BX10_send_12, s_mth, s_mab, s_at, s_iconst, s_lconst, s_iload, s_lload, s_aload, s_istore, s_lstore, s_astore, s_iinc, s_bin, s_binG, s_un, s_lbin, s_lbinG, s_lsh, s_lcmp, s_i2l, s_l2i, s_dup, s_dup2, s_pop, s_if, s_icmp, s_geti, s_getl, s_getr, s_puti, s_putz, s_putl, s_iald, s_zald, s_iast, s_zast, s_aaldS, s_aaldU, s_gets, s_tald, s_tsw, tsw, s_iret, s_zret, s_lret, s_aret, s_vret, s_callV, s_callS, c1, nl1, keepL, csum, pushR, inL, List.getD_cons_zero, List.getD_cons_succ, List.set_cons_zero, List.set_cons_succ, List.cons_append, List.nil_append, List.append_nil, List.replicate, List.length_cons, List.length_nil, List.take_succ_cons, List.take_zero, List.drop_succ_cons, List.drop_zero, List.reverse_cons, List.reverse_nil, true_and, and_true, forall_const, not_true_eq_false, not_false_eq_true, false_implies, true_implies, implies_true, one0, m10, Nat.reduceAdd, Nat.reduceSub, Nat.reduceLeDiff, Nat.zero_add, Nat.add_zero])
    (apply h29; simp only [BX10_send_29, s_mth, s_mab, s_at, s_iconst, s_lconst, s_iload, s_lload, s_aload, s_istore, s_lstore, s_astore, s_iinc, s_bin, s_binG, s_un, s_lbin, s_lbinG, s_lsh, s_lcmp, s_i2l, s_l2i, s_dup, s_dup2, s_pop, s_if, s_icmp, s_geti, s_getl, s_getr, s_puti, s_putz, s_putl, s_iald, s_zald, s_iast, s_zast, s_aaldS, s_aaldU, s_gets, s_tald, s_tsw, tsw, s_iret, s_zret, s_lret, s_aret, s_vret, s_callV, s_callS, c1, nl1, keepL, csum, pushR, inL, List.getD_cons_zero, List.getD_cons_succ, List.set_cons_zero, List.set_cons_succ, List.cons_append, List.nil_append, List.append_nil, List.replicate, List.length_cons, List.length_nil, List.take_succ_cons, List.take_zero, List.drop_succ_cons, List.drop_zero, List.reverse_cons, List.reverse_nil, true_and, and_true, forall_const, not_true_eq_false, not_false_eq_true, false_implies, true_implies, implies_true, one0, m10, Nat.reduceAdd, Nat.reduceSub, Nat.reduceLeDiff, Nat.zero_add, Nat.add_zero])
    exact L _ _ hQ
theorem ct_X10_send (l : Launch) : Con l yX10_send cX10_send 4 (Option.some FieldType.int) 1 pre_X10_send fn_X10_send := con_of (by decide +kernel) ok_X10_send len_X10_send (fun p e s m args below meth c D ca ad A as M hX hr hp ho => pf_X10_send _ _ (bsX10_send_0 hX hr) (bsX10_send_11 hX hr) (bsX10_send_12 hX hr) (bsX10_send_25 hX hr) (bsX10_send_29 hX hr) (bsX10_send_50 hX hr) (bsX10_send_60 hX hr) (bsX10_send_101 hX hr) as M ho hp ⟨rfl, rfl⟩)
