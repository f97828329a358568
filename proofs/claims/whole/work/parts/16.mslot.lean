/-! a slot of the model, from the choice on -/
def mo (q : Int32 × Int32) (w : Int32) : Int32 := if q.1 = -9 then 1 else if w ≤ q.2 then 0 else 1
def be (M : mM) (r u : Nat) (q : Int32 × Int32) (w : Int32) : Int32 := if mo q w = 0 then (if w = q.2 then (if w ≤ 0 then (if isd M r u q.1.toNatClampNeg = 0 then 0 else 1) else (if M.1 r (10 * u + 7) ≤ M.1 r (10 * q.1.toNatClampNeg + 7) then 0 else 1)) else 0) else 0
def whS (M : mM) (r b u : Nat) (q : Int32 × Int32) : Int32 × Int32 := if my M r u b = 0 then q else ((if mo q (ug M r u) = 0 then (if be M r u q (ug M r u) = 0 then q.1 else nI u) else nI u), (if mo q (ug M r u) = 0 then q.2 else ug M r u))
theorem whS_rng {M : mM} {r b u N : Nat} {q : Int32 × Int32} (hu : u < N) (h : q.1 = -9 ∨ ∃ j, j < N ∧ q.1 = nI j) : (whS M r b u q).1 = -9 ∨ ∃ j, j < N ∧ (whS M r b u q).1 = nI j := by
  unfold whS
  split
  · exact h
  · simp only
    split
    · split
      · exact h
      · exact Or.inr ⟨u, hu, rfl⟩
    · exact Or.inr ⟨u, hu, rfl⟩
def wh (M : mM) (r b : Nat) : Int32 := (itr (whS M r b) 0 (nM M) (-9, 0)).1
theorem wh_rng {M : mM} {r b : Nat} : wh M r b = -9 ∨ ∃ j, j < nM M ∧ wh M r b = nI j :=
  itr_inv (whS M r b) (fun q => q.1 = -9 ∨ ∃ j, j < nM M ∧ q.1 = nI j) (nM M) 0 (-9, 0) (fun j q _ h2 h => whS_rng (by omega) h) (Or.inl rfl)
def pre_X12_whoHas (as : List mV) (M : mM) : Prop := ∃ c r b, as = [.inr (.inr (12, c)), .inr (.inr (13, r)), .inl b] ∧ PM M ∧ PG M r 0 ∧ ∃ n, n ≤ 4 ∧ b = nI n
def fn_X12_whoHas : List mV → mM → Option mV × mM
  | [.inr (.inr (_, c)), .inr (.inr (_, r)), .inl b], M => (some (.inl (wh M r b.toNatClampNeg)), M)
  | _, M => (none, M)
theorem ok_X12_whoHas (as : List mV) (M : mM) (h : pre_X12_whoHas as M) (_ : ∀ v ∈ as, okV v) : okR (fn_X12_whoHas as M).1 := by
  obtain ⟨c, r, b, rfl, -⟩ := h
  first | trivial | exact (by decide +kernel : kof 14 = 8)
theorem len_X12_whoHas (as : List mV) (M : mM) (h : pre_X12_whoHas as M) : (inL as).length ≤ 9 := by
  obtain ⟨c, r, b, rfl, -⟩ := h
  exact Nat.le_of_ble_eq_true rfl


theorem dX12_whoHas_0 : decode cX12_whoHas 0 = .ok (.bipush (-9), 2) := by decide +kernel
theorem dX12_whoHas_2 : decode cX12_whoHas 2 = .ok (.istore_n 3, 1) := by decide +kernel
theorem dX12_whoHas_3 : decode cX12_whoHas 3 = .ok (.iconst 0, 1) := by decide +kernel
theorem dX12_whoHas_4 : decode cX12_whoHas 4 = .ok (.istore 4, 2) := by decide +kernel
theorem dX12_whoHas_6 : decode cX12_whoHas 6 = .ok (.iconst 0, 1) := by decide +kernel
theorem dX12_whoHas_7 : decode cX12_whoHas 7 = .ok (.istore 5, 2) := by decide +kernel
theorem dX12_whoHas_9 : decode cX12_whoHas 9 = .ok (.iload 5, 2) := by decide +kernel
theorem dX12_whoHas_11 : decode cX12_whoHas 11 = .ok (.aload_n 0, 1) := by decide +kernel
theorem dX12_whoHas_12 : decode cX12_whoHas 12 = .ok (.getfield 14, 3) := by decide +kernel
theorem dX12_whoHas_15 : decode cX12_whoHas 15 = .ok (.if_icmp .ge 140, 3) := by decide +kernel
theorem dX12_whoHas_18 : decode cX12_whoHas 18 = .ok (.aload_n 0, 1) := by decide +kernel
theorem dX12_whoHas_19 : decode cX12_whoHas 19 = .ok (.aload_n 1, 1) := by decide +kernel
theorem dX12_whoHas_20 : decode cX12_whoHas 20 = .ok (.iload 5, 2) := by decide +kernel
theorem dX12_whoHas_22 : decode cX12_whoHas 22 = .ok (.iload_n 2, 1) := by decide +kernel
theorem dX12_whoHas_23 : decode cX12_whoHas 23 = .ok (.invokevirtual 135, 3) := by decide +kernel
theorem dX12_whoHas_26 : decode cX12_whoHas 26 = .ok (.ifCond .eq 123, 3) := by decide +kernel
theorem dX12_whoHas_29 : decode cX12_whoHas 29 = .ok (.aload_n 0, 1) := by decide +kernel
theorem dX12_whoHas_30 : decode cX12_whoHas 30 = .ok (.aload_n 1, 1) := by decide +kernel
theorem dX12_whoHas_31 : decode cX12_whoHas 31 = .ok (.iload 5, 2) := by decide +kernel
theorem dX12_whoHas_33 : decode cX12_whoHas 33 = .ok (.invokevirtual 139, 3) := by decide +kernel
theorem dX12_whoHas_36 : decode cX12_whoHas 36 = .ok (.istore 6, 2) := by decide +kernel
theorem dX12_whoHas_38 : decode cX12_whoHas 38 = .ok (.iload_n 3, 1) := by decide +kernel
theorem dX12_whoHas_39 : decode cX12_whoHas 39 = .ok (.bipush (-9), 2) := by decide +kernel
theorem dX12_whoHas_41 : decode cX12_whoHas 41 = .ok (.if_icmp .eq 10, 3) := by decide +kernel
theorem dX12_whoHas_44 : decode cX12_whoHas 44 = .ok (.iload 6, 2) := by decide +kernel
theorem dX12_whoHas_46 : decode cX12_whoHas 46 = .ok (.iload 4, 2) := by decide +kernel
theorem dX12_whoHas_48 : decode cX12_whoHas 48 = .ok (.if_icmp .le 7, 3) := by decide +kernel
theorem dX12_whoHas_51 : decode cX12_whoHas 51 = .ok (.iconst 1, 1) := by decide +kernel
theorem dX12_whoHas_52 : decode cX12_whoHas 52 = .ok (.goto 4, 3) := by decide +kernel
theorem dX12_whoHas_55 : decode cX12_whoHas 55 = .ok (.iconst 0, 1) := by decide +kernel
theorem dX12_whoHas_56 : decode cX12_whoHas 56 = .ok (.istore 7, 2) := by decide +kernel
theorem dX12_whoHas_58 : decode cX12_whoHas 58 = .ok (.iload 7, 2) := by decide +kernel
theorem dX12_whoHas_60 : decode cX12_whoHas 60 = .ok (.ifCond .ne 55, 3) := by decide +kernel
theorem dX12_whoHas_63 : decode cX12_whoHas 63 = .ok (.iload 6, 2) := by decide +kernel
theorem dX12_whoHas_65 : decode cX12_whoHas 65 = .ok (.iload 4, 2) := by decide +kernel
theorem dX12_whoHas_67 : decode cX12_whoHas 67 = .ok (.if_icmp .ne 48, 3) := by decide +kernel
theorem dX12_whoHas_70 : decode cX12_whoHas 70 = .ok (.iload 6, 2) := by decide +kernel
theorem dX12_whoHas_72 : decode cX12_whoHas 72 = .ok (.ifCond .le 28, 3) := by decide +kernel
theorem dX12_whoHas_75 : decode cX12_whoHas 75 = .ok (.aload_n 1, 1) := by decide +kernel
theorem dX12_whoHas_76 : decode cX12_whoHas 76 = .ok (.bipush 10, 2) := by decide +kernel
theorem dX12_whoHas_78 : decode cX12_whoHas 78 = .ok (.iload 5, 2) := by decide +kernel
theorem dX12_whoHas_80 : decode cX12_whoHas 80 = .ok (.imul, 1) := by decide +kernel
theorem dX12_whoHas_81 : decode cX12_whoHas 81 = .ok (.bipush 7, 2) := by decide +kernel
theorem dX12_whoHas_83 : decode cX12_whoHas 83 = .ok (.iadd, 1) := by decide +kernel
theorem dX12_whoHas_84 : decode cX12_whoHas 84 = .ok (.iaload, 1) := by decide +kernel
theorem dX12_whoHas_85 : decode cX12_whoHas 85 = .ok (.aload_n 1, 1) := by decide +kernel
theorem dX12_whoHas_86 : decode cX12_whoHas 86 = .ok (.bipush 10, 2) := by decide +kernel
theorem dX12_whoHas_88 : decode cX12_whoHas 88 = .ok (.iload_n 3, 1) := by decide +kernel
theorem dX12_whoHas_89 : decode cX12_whoHas 89 = .ok (.imul, 1) := by decide +kernel
theorem dX12_whoHas_90 : decode cX12_whoHas 90 = .ok (.bipush 7, 2) := by decide +kernel
theorem dX12_whoHas_92 : decode cX12_whoHas 92 = .ok (.iadd, 1) := by decide +kernel
theorem dX12_whoHas_93 : decode cX12_whoHas 93 = .ok (.iaload, 1) := by decide +kernel
theorem dX12_whoHas_94 : decode cX12_whoHas 94 = .ok (.if_icmp .le 21, 3) := by decide +kernel
theorem dX12_whoHas_97 : decode cX12_whoHas 97 = .ok (.goto 14, 3) := by decide +kernel
theorem dX12_whoHas_100 : decode cX12_whoHas 100 = .ok (.aload_n 0, 1) := by decide +kernel
theorem dX12_whoHas_101 : decode cX12_whoHas 101 = .ok (.aload_n 1, 1) := by decide +kernel
theorem dX12_whoHas_102 : decode cX12_whoHas 102 = .ok (.iload 5, 2) := by decide +kernel
theorem dX12_whoHas_104 : decode cX12_whoHas 104 = .ok (.iload_n 3, 1) := by decide +kernel
theorem dX12_whoHas_105 : decode cX12_whoHas 105 = .ok (.invokevirtual 142, 3) := by decide +kernel
theorem dX12_whoHas_108 : decode cX12_whoHas 108 = .ok (.ifCond .eq 7, 3) := by decide +kernel
theorem dX12_whoHas_111 : decode cX12_whoHas 111 = .ok (.iconst 1, 1) := by decide +kernel
theorem dX12_whoHas_112 : decode cX12_whoHas 112 = .ok (.goto 4, 3) := by decide +kernel
theorem dX12_whoHas_115 : decode cX12_whoHas 115 = .ok (.iconst 0, 1) := by decide +kernel
theorem dX12_whoHas_116 : decode cX12_whoHas 116 = .ok (.istore 8, 2) := by decide +kernel
theorem dX12_whoHas_118 : decode cX12_whoHas 118 = .ok (.iload 7, 2) := by decide +kernel
theorem dX12_whoHas_120 : decode cX12_whoHas 120 = .ok (.ifCond .ne 8, 3) := by decide +kernel
theorem dX12_whoHas_123 : decode cX12_whoHas 123 = .ok (.iload 8, 2) := by decide +kernel
theorem dX12_whoHas_125 : decode cX12_whoHas 125 = .ok (.ifCond .eq 8, 3) := by decide +kernel
theorem dX12_whoHas_128 : decode cX12_whoHas 128 = .ok (.iload 5, 2) := by decide +kernel
theorem dX12_whoHas_130 : decode cX12_whoHas 130 = .ok (.goto 4, 3) := by decide +kernel
theorem dX12_whoHas_133 : decode cX12_whoHas 133 = .ok (.iload_n 3, 1) := by decide +kernel
theorem dX12_whoHas_134 : decode cX12_whoHas 134 = .ok (.istore_n 3, 1) := by decide +kernel
theorem dX12_whoHas_135 : decode cX12_whoHas 135 = .ok (.iload 7, 2) := by decide +kernel
theorem dX12_whoHas_137 : decode cX12_whoHas 137 = .ok (.ifCond .eq 8, 3) := by decide +kernel
theorem dX12_whoHas_140 : decode cX12_whoHas 140 = .ok (.iload 6, 2) := by decide +kernel
theorem dX12_whoHas_142 : decode cX12_whoHas 142 = .ok (.goto 5, 3) := by decide +kernel
theorem dX12_whoHas_145 : decode cX12_whoHas 145 = .ok (.iload 4, 2) := by decide +kernel
theorem dX12_whoHas_147 : decode cX12_whoHas 147 = .ok (.istore 4, 2) := by decide +kernel
theorem dX12_whoHas_149 : decode cX12_whoHas 149 = .ok (.iinc 5 1, 3) := by decide +kernel
theorem dX12_whoHas_152 : decode cX12_whoHas 152 = .ok (.goto (-143), 3) := by decide +kernel
theorem dX12_whoHas_155 : decode cX12_whoHas 155 = .ok (.iload_n 3, 1) := by decide +kernel
theorem dX12_whoHas_156 : decode cX12_whoHas 156 = .ok (.ireturn, 1) := by decide +kernel
theorem mk_X12_whoHas : MVk yX12_whoHas "FairBlocksModel" cX12_whoHas 9 (Option.some FieldType.int) 2 := ⟨w_889, w_888, wp_23, w_13, rfl, by decide +kernel, by decide +kernel, by decide +kernel⟩
def BX12_whoHas_0 (G : Nat → KT) (Q : Option mV → mM → Prop) : KT := (s_iconst (-9) (s_istore 3 (s_iconst (0) (s_istore 4 (s_iconst (0) (s_istore 5 (s_at G 9 [true, true, true, true, true, true, false, false, false])))))))
set_option maxRecDepth 4000 in
theorem bsX12_whoHas_0 {p : Program} {l : Launch} {e : Env} {s : State} {m : MethodId} {args : Array Value} {below : List Frame} {meth : Method} {c : Code} {D : va_G} {ca : Nat → ClassId} {ad : Nat → Nat} {A : Nat → Prop} {Q : Option mV → mM → Prop} (hX : CX p s m args meth c 9 cX12_whoHas "FairBlocksModel" D ca ad A) (hr : meth.sig.returnType = (Option.some FieldType.int)) : ∀ lv st M, BX12_whoHas_0 (Gd p l e (rmD 2) s m args below meth c 9 D ca ad A 0 0 (MQ below (QC D ca ad A Q) args s 0 0 A)) Q lv st M → Gd p l e (rmD 2) s m args below meth c 9 D ca ad A 0 0 (MQ below (QC D ca ad A Q) args s 0 0 A) 0 lv st M :=
  (sd_bipush hX dX12_whoHas_0 rfl (sd_istore_n hX (by decide) dX12_whoHas_2 rfl (sd_iconst hX dX12_whoHas_3 rfl (sd_istore hX (by decide) dX12_whoHas_4 (sd_iconst hX dX12_whoHas_6 rfl (sd_istore hX (by decide) dX12_whoHas_7 sd_at))))))
def BX12_whoHas_9 (G : Nat → KT) (Q : Option mV → mM → Prop) : KT := (s_iload 5 (s_aload 0 (s_geti 12 6 (s_icmp (fun x y => y ≤ x) (s_at G 155 [false, false, false, true, false, false, false, false, false]) (s_aload 0 (s_aload 1 (s_iload 5 (s_iload 2 (s_callV 12 3 pre_X12_may fn_X12_may (s_if (fun x => x = 0) (s_at G 149 [true, true, true, true, true, true, false, false, false]) (s_aload 0 (s_aload 1 (s_iload 5 (s_callV 12 2 pre_X12_urgent fn_X12_urgent (s_istore 6 (s_iload 3 (s_iconst (-9) (s_icmp (fun x y => x = y) (s_at G 51 [true, true, true, true, true, true, true, false, false]) (s_iload 6 (s_iload 4 (s_icmp (fun x y => x ≤ y) (s_at G 55 [true, true, true, true, true, true, true, false, false]) (s_at G 51 [true, true, true, true, true, true, true, false, false]))))))))))))))))))))))
set_option maxRecDepth 4000 in
theorem bsX12_whoHas_9 {p : Program} {l : Launch} {e : Env} {s : State} {m : MethodId} {args : Array Value} {below : List Frame} {meth : Method} {c : Code} {D : va_G} {ca : Nat → ClassId} {ad : Nat → Nat} {A : Nat → Prop} {Q : Option mV → mM → Prop} (hX : CX p s m args meth c 9 cX12_whoHas "FairBlocksModel" D ca ad A) (hr : meth.sig.returnType = (Option.some FieldType.int)) : ∀ lv st M, BX12_whoHas_9 (Gd p l e (rmD 2) s m args below meth c 9 D ca ad A 0 0 (MQ below (QC D ca ad A Q) args s 0 0 A)) Q lv st M → Gd p l e (rmD 2) s m args below meth c 9 D ca ad A 0 0 (MQ below (QC D ca ad A Q) args s 0 0 A) 9 lv st M :=
  (sd_iload hX dX12_whoHas_9 (sd_aload_n hX dX12_whoHas_11 rfl (sd_geti hX fl_729 (by decide) dX12_whoHas_12 (sd_icmp_ge hX dX12_whoHas_15 (by decide) sd_at (sd_aload_n hX dX12_whoHas_18 rfl (sd_aload_n hX dX12_whoHas_19 rfl (sd_iload hX dX12_whoHas_20 (sd_iload_n hX dX12_whoHas_22 rfl (sd_callV hX (kd := 12) rfl (by decide) (ct_X12_may l) mk_X12_may w_890 ⟨⟨by decide, by decide⟩, by decide, by decide⟩ dX12_whoHas_23 (sd_if_eq hX dX12_whoHas_26 (by decide) sd_at (sd_aload_n hX dX12_whoHas_29 rfl (sd_aload_n hX dX12_whoHas_30 rfl (sd_iload hX dX12_whoHas_31 (sd_callV hX (kd := 12) rfl (by decide) (ct_X12_urgent l) mk_X12_urgent w_901 ⟨⟨by decide, by decide⟩, by decide, by decide⟩ dX12_whoHas_33 (sd_istore hX (by decide) dX12_whoHas_36 (sd_iload_n hX dX12_whoHas_38 rfl (sd_bipush hX dX12_whoHas_39 rfl (sd_icmp_eq hX dX12_whoHas_41 (by decide) sd_at (sd_iload hX dX12_whoHas_44 (sd_iload hX dX12_whoHas_46 (sd_icmp_le hX dX12_whoHas_48 (by decide) sd_at sd_at)))))))))))))))))))))
def BX12_whoHas_51 (G : Nat → KT) (Q : Option mV → mM → Prop) : KT := (s_iconst (1) (s_at G 56 [true, true, true, true, true, true, true, false, false]))
set_option maxRecDepth 4000 in
theorem bsX12_whoHas_51 {p : Program} {l : Launch} {e : Env} {s : State} {m : MethodId} {args : Array Value} {below : List Frame} {meth : Method} {c : Code} {D : va_G} {ca : Nat → ClassId} {ad : Nat → Nat} {A : Nat → Prop} {Q : Option mV → mM → Prop} (hX : CX p s m args meth c 9 cX12_whoHas "FairBlocksModel" D ca ad A) (hr : meth.sig.returnType = (Option.some FieldType.int)) : ∀ lv st M, BX12_whoHas_51 (Gd p l e (rmD 2) s m args below meth c 9 D ca ad A 0 0 (MQ below (QC D ca ad A Q) args s 0 0 A)) Q lv st M → Gd p l e (rmD 2) s m args below meth c 9 D ca ad A 0 0 (MQ below (QC D ca ad A Q) args s 0 0 A) 51 lv st M :=
  (sd_iconst hX dX12_whoHas_51 rfl (sd_goto hX dX12_whoHas_52 (by decide) sd_at))
def BX12_whoHas_55 (G : Nat → KT) (Q : Option mV → mM → Prop) : KT := (s_iconst (0) (s_at G 56 [true, true, true, true, true, true, true, false, false]))
set_option maxRecDepth 4000 in
theorem bsX12_whoHas_55 {p : Program} {l : Launch} {e : Env} {s : State} {m : MethodId} {args : Array Value} {below : List Frame} {meth : Method} {c : Code} {D : va_G} {ca : Nat → ClassId} {ad : Nat → Nat} {A : Nat → Prop} {Q : Option mV → mM → Prop} (hX : CX p s m args meth c 9 cX12_whoHas "FairBlocksModel" D ca ad A) (hr : meth.sig.returnType = (Option.some FieldType.int)) : ∀ lv st M, BX12_whoHas_55 (Gd p l e (rmD 2) s m args below meth c 9 D ca ad A 0 0 (MQ below (QC D ca ad A Q) args s 0 0 A)) Q lv st M → Gd p l e (rmD 2) s m args below meth c 9 D ca ad A 0 0 (MQ below (QC D ca ad A Q) args s 0 0 A) 55 lv st M :=
  (sd_iconst hX dX12_whoHas_55 rfl sd_at)
def BX12_whoHas_56 (G : Nat → KT) (Q : Option mV → mM → Prop) : KT := (s_istore 7 (s_iload 7 (s_if (fun x => x = 0) ((s_iload 6 (s_iload 4 (s_icmp (fun x y => x = y) ((s_iload 6 (s_if (fun x => x ≤ 0) (s_at G 100 [true, true, true, true, true, true, true, true, false]) (s_aload 1 (s_iconst (10) (s_iload 5 (s_bin (fun x y => x * y) (s_iconst (7) (s_bin (fun x y => x + y) (s_iald (s_aload 1 (s_iconst (10) (s_iload 3 (s_bin (fun x y => x * y) (s_iconst (7) (s_bin (fun x y => x + y) (s_iald (s_icmp (fun x y => x ≤ y) (s_at G 115 [true, true, true, true, true, true, true, true, false]) (s_at G 111 [true, true, true, true, true, true, true, true, false]))))))))))))))))))) (s_at G 115 [true, true, true, true, true, true, true, true, false]))))) (s_at G 115 [true, true, true, true, true, true, true, true, false]))))
set_option maxRecDepth 4000 in
theorem bsX12_whoHas_56 {p : Program} {l : Launch} {e : Env} {s : State} {m : MethodId} {args : Array Value} {below : List Frame} {meth : Method} {c : Code} {D : va_G} {ca : Nat → ClassId} {ad : Nat → Nat} {A : Nat → Prop} {Q : Option mV → mM → Prop} (hX : CX p s m args meth c 9 cX12_whoHas "FairBlocksModel" D ca ad A) (hr : meth.sig.returnType = (Option.some FieldType.int)) : ∀ lv st M, BX12_whoHas_56 (Gd p l e (rmD 2) s m args below meth c 9 D ca ad A 0 0 (MQ below (QC D ca ad A Q) args s 0 0 A)) Q lv st M → Gd p l e (rmD 2) s m args below meth c 9 D ca ad A 0 0 (MQ below (QC D ca ad A Q) args s 0 0 A) 56 lv st M :=
  (sd_istore hX (by decide) dX12_whoHas_56 (sd_iload hX dX12_whoHas_58 (sd_if_ne hX dX12_whoHas_60 (by decide) sd_at (sd_iload hX dX12_whoHas_63 (sd_iload hX dX12_whoHas_65 (sd_icmp_ne hX dX12_whoHas_67 (by decide) sd_at (sd_iload hX dX12_whoHas_70 (sd_if_le hX dX12_whoHas_72 (by decide) sd_at (sd_aload_n hX dX12_whoHas_75 rfl (sd_bipush hX dX12_whoHas_76 rfl (sd_iload hX dX12_whoHas_78 (sd_imul hX dX12_whoHas_80 (sd_bipush hX dX12_whoHas_81 rfl (sd_iadd hX dX12_whoHas_83 (sd_iald hX dX12_whoHas_84 (sd_aload_n hX dX12_whoHas_85 rfl (sd_bipush hX dX12_whoHas_86 rfl (sd_iload_n hX dX12_whoHas_88 rfl (sd_imul hX dX12_whoHas_89 (sd_bipush hX dX12_whoHas_90 rfl (sd_iadd hX dX12_whoHas_92 (sd_iald hX dX12_whoHas_93 (sd_icmp_le hX dX12_whoHas_94 (by decide) sd_at (sd_goto hX dX12_whoHas_97 (by decide) sd_at))))))))))))))))))))))))
def BX12_whoHas_100 (G : Nat → KT) (Q : Option mV → mM → Prop) : KT := (s_aload 0 (s_aload 1 (s_iload 5 (s_iload 3 (s_callV 12 3 pre_X12_isDue fn_X12_isDue (s_if (fun x => x = 0) (s_at G 115 [true, true, true, true, true, true, true, true, false]) (s_at G 111 [true, true, true, true, true, true, true, true, false])))))))
set_option maxRecDepth 4000 in
theorem bsX12_whoHas_100 {p : Program} {l : Launch} {e : Env} {s : State} {m : MethodId} {args : Array Value} {below : List Frame} {meth : Method} {c : Code} {D : va_G} {ca : Nat → ClassId} {ad : Nat → Nat} {A : Nat → Prop} {Q : Option mV → mM → Prop} (hX : CX p s m args meth c 9 cX12_whoHas "FairBlocksModel" D ca ad A) (hr : meth.sig.returnType = (Option.some FieldType.int)) : ∀ lv st M, BX12_whoHas_100 (Gd p l e (rmD 2) s m args below meth c 9 D ca ad A 0 0 (MQ below (QC D ca ad A Q) args s 0 0 A)) Q lv st M → Gd p l e (rmD 2) s m args below meth c 9 D ca ad A 0 0 (MQ below (QC D ca ad A Q) args s 0 0 A) 100 lv st M :=
  (sd_aload_n hX dX12_whoHas_100 rfl (sd_aload_n hX dX12_whoHas_101 rfl (sd_iload hX dX12_whoHas_102 (sd_iload_n hX dX12_whoHas_104 rfl (sd_callV hX (kd := 12) rfl (by decide) (ct_X12_isDue l) mk_X12_isDue w_905 ⟨⟨by decide, by decide⟩, by decide, by decide⟩ dX12_whoHas_105 (sd_if_eq hX dX12_whoHas_108 (by decide) sd_at sd_at))))))
def BX12_whoHas_111 (G : Nat → KT) (Q : Option mV → mM → Prop) : KT := (s_iconst (1) (s_at G 116 [true, true, true, true, true, true, true, true, false]))
set_option maxRecDepth 4000 in
theorem bsX12_whoHas_111 {p : Program} {l : Launch} {e : Env} {s : State} {m : MethodId} {args : Array Value} {below : List Frame} {meth : Method} {c : Code} {D : va_G} {ca : Nat → ClassId} {ad : Nat → Nat} {A : Nat → Prop} {Q : Option mV → mM → Prop} (hX : CX p s m args meth c 9 cX12_whoHas "FairBlocksModel" D ca ad A) (hr : meth.sig.returnType = (Option.some FieldType.int)) : ∀ lv st M, BX12_whoHas_111 (Gd p l e (rmD 2) s m args below meth c 9 D ca ad A 0 0 (MQ below (QC D ca ad A Q) args s 0 0 A)) Q lv st M → Gd p l e (rmD 2) s m args below meth c 9 D ca ad A 0 0 (MQ below (QC D ca ad A Q) args s 0 0 A) 111 lv st M :=
  (sd_iconst hX dX12_whoHas_111 rfl (sd_goto hX dX12_whoHas_112 (by decide) sd_at))
def BX12_whoHas_115 (G : Nat → KT) (Q : Option mV → mM → Prop) : KT := (s_iconst (0) (s_at G 116 [true, true, true, true, true, true, true, true, false]))
set_option maxRecDepth 4000 in
theorem bsX12_whoHas_115 {p : Program} {l : Launch} {e : Env} {s : State} {m : MethodId} {args : Array Value} {below : List Frame} {meth : Method} {c : Code} {D : va_G} {ca : Nat → ClassId} {ad : Nat → Nat} {A : Nat → Prop} {Q : Option mV → mM → Prop} (hX : CX p s m args meth c 9 cX12_whoHas "FairBlocksModel" D ca ad A) (hr : meth.sig.returnType = (Option.some FieldType.int)) : ∀ lv st M, BX12_whoHas_115 (Gd p l e (rmD 2) s m args below meth c 9 D ca ad A 0 0 (MQ below (QC D ca ad A Q) args s 0 0 A)) Q lv st M → Gd p l e (rmD 2) s m args below meth c 9 D ca ad A 0 0 (MQ below (QC D ca ad A Q) args s 0 0 A) 115 lv st M :=
  (sd_iconst hX dX12_whoHas_115 rfl sd_at)
def BX12_whoHas_116 (G : Nat → KT) (Q : Option mV → mM → Prop) : KT := (s_istore 8 (s_iload 7 (s_if (fun x => x = 0) ((s_iload 8 (s_if (fun x => x = 0) (s_at G 133 [true, true, true, true, true, true, true, true, false]) (s_at G 128 [true, true, true, false, true, true, true, true, false])))) (s_at G 128 [true, true, true, false, true, true, true, true, false]))))
set_option maxRecDepth 4000 in
theorem bsX12_whoHas_116 {p : Program} {l : Launch} {e : Env} {s : State} {m : MethodId} {args : Array Value} {below : List Frame} {meth : Method} {c : Code} {D : va_G} {ca : Nat → ClassId} {ad : Nat → Nat} {A : Nat → Prop} {Q : Option mV → mM → Prop} (hX : CX p s m args meth c 9 cX12_whoHas "FairBlocksModel" D ca ad A) (hr : meth.sig.returnType = (Option.some FieldType.int)) : ∀ lv st M, BX12_whoHas_116 (Gd p l e (rmD 2) s m args below meth c 9 D ca ad A 0 0 (MQ below (QC D ca ad A Q) args s 0 0 A)) Q lv st M → Gd p l e (rmD 2) s m args below meth c 9 D ca ad A 0 0 (MQ below (QC D ca ad A Q) args s 0 0 A) 116 lv st M :=
  (sd_istore hX (by decide) dX12_whoHas_116 (sd_iload hX dX12_whoHas_118 (sd_if_ne hX dX12_whoHas_120 (by decide) sd_at (sd_iload hX dX12_whoHas_123 (sd_if_eq hX dX12_whoHas_125 (by decide) sd_at sd_at)))))
def BX12_whoHas_128 (G : Nat → KT) (Q : Option mV → mM → Prop) : KT := (s_iload 5 (s_at G 134 [true, true, true, false, true, true, true, true, false]))
set_option maxRecDepth 4000 in
theorem bsX12_whoHas_128 {p : Program} {l : Launch} {e : Env} {s : State} {m : MethodId} {args : Array Value} {below : List Frame} {meth : Method} {c : Code} {D : va_G} {ca : Nat → ClassId} {ad : Nat → Nat} {A : Nat → Prop} {Q : Option mV → mM → Prop} (hX : CX p s m args meth c 9 cX12_whoHas "FairBlocksModel" D ca ad A) (hr : meth.sig.returnType = (Option.some FieldType.int)) : ∀ lv st M, BX12_whoHas_128 (Gd p l e (rmD 2) s m args below meth c 9 D ca ad A 0 0 (MQ below (QC D ca ad A Q) args s 0 0 A)) Q lv st M → Gd p l e (rmD 2) s m args below meth c 9 D ca ad A 0 0 (MQ below (QC D ca ad A Q) args s 0 0 A) 128 lv st M :=
  (sd_iload hX dX12_whoHas_128 (sd_goto hX dX12_whoHas_130 (by decide) sd_at))
def BX12_whoHas_133 (G : Nat → KT) (Q : Option mV → mM → Prop) : KT := (s_iload 3 (s_at G 134 [true, true, true, false, true, true, true, true, false]))
set_option maxRecDepth 4000 in
theorem bsX12_whoHas_133 {p : Program} {l : Launch} {e : Env} {s : State} {m : MethodId} {args : Array Value} {below : List Frame} {meth : Method} {c : Code} {D : va_G} {ca : Nat → ClassId} {ad : Nat → Nat} {A : Nat → Prop} {Q : Option mV → mM → Prop} (hX : CX p s m args meth c 9 cX12_whoHas "FairBlocksModel" D ca ad A) (hr : meth.sig.returnType = (Option.some FieldType.int)) : ∀ lv st M, BX12_whoHas_133 (Gd p l e (rmD 2) s m args below meth c 9 D ca ad A 0 0 (MQ below (QC D ca ad A Q) args s 0 0 A)) Q lv st M → Gd p l e (rmD 2) s m args below meth c 9 D ca ad A 0 0 (MQ below (QC D ca ad A Q) args s 0 0 A) 133 lv st M :=
  (sd_iload_n hX dX12_whoHas_133 rfl sd_at)
def BX12_whoHas_134 (G : Nat → KT) (Q : Option mV → mM → Prop) : KT := (s_istore 3 (s_iload 7 (s_if (fun x => x = 0) (s_at G 145 [true, true, true, true, true, true, false, false, false]) (s_iload 6 (s_at G 147 [true, true, true, true, false, true, false, false, false])))))
set_option maxRecDepth 4000 in
theorem bsX12_whoHas_134 {p : Program} {l : Launch} {e : Env} {s : State} {m : MethodId} {args : Array Value} {below : List Frame} {meth : Method} {c : Code} {D : va_G} {ca : Nat → ClassId} {ad : Nat → Nat} {A : Nat → Prop} {Q : Option mV → mM → Prop} (hX : CX p s m args meth c 9 cX12_whoHas "FairBlocksModel" D ca ad A) (hr : meth.sig.returnType = (Option.some FieldType.int)) : ∀ lv st M, BX12_whoHas_134 (Gd p l e (rmD 2) s m args below meth c 9 D ca ad A 0 0 (MQ below (QC D ca ad A Q) args s 0 0 A)) Q lv st M → Gd p l e (rmD 2) s m args below meth c 9 D ca ad A 0 0 (MQ below (QC D ca ad A Q) args s 0 0 A) 134 lv st M :=
  (sd_istore_n hX (by decide) dX12_whoHas_134 rfl (sd_iload hX dX12_whoHas_135 (sd_if_eq hX dX12_whoHas_137 (by decide) sd_at (sd_iload hX dX12_whoHas_140 (sd_goto hX dX12_whoHas_142 (by decide) sd_at)))))
def BX12_whoHas_145 (G : Nat → KT) (Q : Option mV → mM → Prop) : KT := (s_iload 4 (s_at G 147 [true, true, true, true, false, true, false, false, false]))
set_option maxRecDepth 4000 in
theorem bsX12_whoHas_145 {p : Program} {l : Launch} {e : Env} {s : State} {m : MethodId} {args : Array Value} {below : List Frame} {meth : Method} {c : Code} {D : va_G} {ca : Nat → ClassId} {ad : Nat → Nat} {A : Nat → Prop} {Q : Option mV → mM → Prop} (hX : CX p s m args meth c 9 cX12_whoHas "FairBlocksModel" D ca ad A) (hr : meth.sig.returnType = (Option.some FieldType.int)) : ∀ lv st M, BX12_whoHas_145 (Gd p l e (rmD 2) s m args below meth c 9 D ca ad A 0 0 (MQ below (QC D ca ad A Q) args s 0 0 A)) Q lv st M → Gd p l e (rmD 2) s m args below meth c 9 D ca ad A 0 0 (MQ below (QC D ca ad A Q) args s 0 0 A) 145 lv st M :=
  (sd_iload hX dX12_whoHas_145 sd_at)
def BX12_whoHas_147 (G : Nat → KT) (Q : Option mV → mM → Prop) : KT := (s_istore 4 (s_at G 149 [true, true, true, true, true, true, false, false, false]))
set_option maxRecDepth 4000 in
theorem bsX12_whoHas_147 {p : Program} {l : Launch} {e : Env} {s : State} {m : MethodId} {args : Array Value} {below : List Frame} {meth : Method} {c : Code} {D : va_G} {ca : Nat → ClassId} {ad : Nat → Nat} {A : Nat → Prop} {Q : Option mV → mM → Prop} (hX : CX p s m args meth c 9 cX12_whoHas "FairBlocksModel" D ca ad A) (hr : meth.sig.returnType = (Option.some FieldType.int)) : ∀ lv st M, BX12_whoHas_147 (Gd p l e (rmD 2) s m args below meth c 9 D ca ad A 0 0 (MQ below (QC D ca ad A Q) args s 0 0 A)) Q lv st M → Gd p l e (rmD 2) s m args below meth c 9 D ca ad A 0 0 (MQ below (QC D ca ad A Q) args s 0 0 A) 147 lv st M :=
  (sd_istore hX (by decide) dX12_whoHas_147 sd_at)
def BX12_whoHas_149 (G : Nat → KT) (Q : Option mV → mM → Prop) : KT := (s_iinc 5 (1) (s_at G 9 [true, true, true, true, true, true, false, false, false]))
set_option maxRecDepth 4000 in
theorem bsX12_whoHas_149 {p : Program} {l : Launch} {e : Env} {s : State} {m : MethodId} {args : Array Value} {below : List Frame} {meth : Method} {c : Code} {D : va_G} {ca : Nat → ClassId} {ad : Nat → Nat} {A : Nat → Prop} {Q : Option mV → mM → Prop} (hX : CX p s m args meth c 9 cX12_whoHas "FairBlocksModel" D ca ad A) (hr : meth.sig.returnType = (Option.some FieldType.int)) : ∀ lv st M, BX12_whoHas_149 (Gd p l e (rmD 2) s m args below meth c 9 D ca ad A 0 0 (MQ below (QC D ca ad A Q) args s 0 0 A)) Q lv st M → Gd p l e (rmD 2) s m args below meth c 9 D ca ad A 0 0 (MQ below (QC D ca ad A Q) args s 0 0 A) 149 lv st M :=
  (sd_iinc hX (by decide) dX12_whoHas_149 rfl (sd_goto hX dX12_whoHas_152 (by decide) sd_at))
def BX12_whoHas_155 (G : Nat → KT) (Q : Option mV → mM → Prop) : KT := (s_iload 3 (s_iret Q))
set_option maxRecDepth 4000 in
theorem bsX12_whoHas_155 {p : Program} {l : Launch} {e : Env} {s : State} {m : MethodId} {args : Array Value} {below : List Frame} {meth : Method} {c : Code} {D : va_G} {ca : Nat → ClassId} {ad : Nat → Nat} {A : Nat → Prop} {Q : Option mV → mM → Prop} (hX : CX p s m args meth c 9 cX12_whoHas "FairBlocksModel" D ca ad A) (hr : meth.sig.returnType = (Option.some FieldType.int)) : ∀ lv st M, BX12_whoHas_155 (Gd p l e (rmD 2) s m args below meth c 9 D ca ad A 0 0 (MQ below (QC D ca ad A Q) args s 0 0 A)) Q lv st M → Gd p l e (rmD 2) s m args below meth c 9 D ca ad A 0 0 (MQ below (QC D ca ad A Q) args s 0 0 A) 155 lv st M :=
  (sd_iload_n hX dX12_whoHas_155 rfl (sd_iret hX hr dX12_whoHas_156))
set_option maxHeartbeats 400000 in
theorem pf_X12_whoHas (G : Nat → KT) (Q : Option mV → mM → Prop) (h0 : ∀ lv st M, BX12_whoHas_0 G Q lv st M → G 0 lv st M) (h9 : ∀ lv st M, BX12_whoHas_9 G Q lv st M → G 9 lv st M) (h51 : ∀ lv st M, BX12_whoHas_51 G Q lv st M → G 51 lv st M) (h55 : ∀ lv st M, BX12_whoHas_55 G Q lv st M → G 55 lv st M) (h56 : ∀ lv st M, BX12_whoHas_56 G Q lv st M → G 56 lv st M) (h100 : ∀ lv st M, BX12_whoHas_100 G Q lv st M → G 100 lv st M) (h111 : ∀ lv st M, BX12_whoHas_111 G Q lv st M → G 111 lv st M) (h115 : ∀ lv st M, BX12_whoHas_115 G Q lv st M → G 115 lv st M) (h116 : ∀ lv st M, BX12_whoHas_116 G Q lv st M → G 116 lv st M) (h128 : ∀ lv st M, BX12_whoHas_128 G Q lv st M → G 128 lv st M) (h133 : ∀ lv st M, BX12_whoHas_133 G Q lv st M → G 133 lv st M) (h134 : ∀ lv st M, BX12_whoHas_134 G Q lv st M → G 134 lv st M) (h145 : ∀ lv st M, BX12_whoHas_145 G Q lv st M → G 145 lv st M) (h147 : ∀ lv st M, BX12_whoHas_147 G Q lv st M → G 147 lv st M) (h149 : ∀ lv st M, BX12_whoHas_149 G Q lv st M → G 149 lv st M) (h155 : ∀ lv st M, BX12_whoHas_155 G Q lv st M → G 155 lv st M) (as : List mV) (M : mM) (ho : ∀ v ∈ as, okV v) (hp : pre_X12_whoHas as M) (hQ : Q (fn_X12_whoHas as M).1 (fn_X12_whoHas as M).2) : G 0 (inL as ++ List.replicate (9 - (inL as).length) none) [] M := by
  obtain ⟨c, r, b, rfl, hPM, hPG, B, hB, rfl⟩ := hp
  obtain rfl : c = 158 := k12 (ho (.inr (.inr (12, c))) (by simp))
  obtain ⟨hn, en, -⟩ := nM_e hPM
  have hl := PG_l hPG
  have eB : (nI B).toNatClampNeg = B := nI_clamp (by omega)
  simp only [fn_X12_whoHas, wh, eB] at hQ
  have loop : ∀ (n i : Nat) (f k : Int32), i + n = nM M → (f = -9 ∨ ∃ j, j < nM M ∧ f = nI j) → Q (some (.inl (itr (whS M r B) i n (f, k)).1)) M → G 9 [some (.inr (.inr (12, 158))), some (.inr (.inr (13, r))), some (.inl (nI B)), some (.inl f), some (.inl k), some (.inl (nI i)), none, none, none] [] M := by
    intro n
    induction n with
    | zero =>
      intro i f k hi hf hq
      obtain rfl : i = nM M := by omega
      (apply h9; simp only [BX12_whoHas_9, s_mth, s_mab, s_at, s_iconst, s_lconst, s_iload, s_lload, s_aload, s_istore, s_lstore, s_astore, s_iinc, s_bin, s_binG, s_un, s_lbin, s_lbinG, s_lsh, s_lcmp, s_i2l, s_l2i, s_dup, s_dup2, s_pop, s_if, s_icmp, s_geti, s_getl, s_getr, s_puti, s_putz, s_putl, s_iald, s_zald, s_iast, s_zast, s_aaldS, s_aaldU, s_gets, s_tald, s_tsw, tsw, s_iret, s_zret, s_lret, s_aret, s_vret, s_callV, s_callS, c1, nl1, keepL, csum, pushR, inL, List.getD_cons_zero, List.getD_cons_succ, List.set_cons_zero, List.set_cons_succ, List.cons_append, List.nil_append, List.append_nil, List.replicate, List.length_cons, List.length_nil, List.take_succ_cons, List.take_zero, List.drop_succ_cons, List.drop_zero, List.reverse_cons, List.reverse_nil, true_and, and_true, forall_const, not_true_eq_false, not_false_eq_true, false_implies, true_implies, implies_true, one0, m10, Nat.reduceAdd, Nat.reduceSub, Nat.reduceLeDiff, Nat.zero_add, Nat.add_zero, fn_X12_isDue, fn_X12_may, fn_X12_urgent])
      rw [en]
      refine ⟨fun _ => ?_, fun h => absurd (nI_le (Nat.le_refl _) (by omega)) h⟩
      (apply h155; simp only [BX12_whoHas_155, s_mth, s_mab, s_at, s_iconst, s_lconst, s_iload, s_lload, s_aload, s_istore, s_lstore, s_astore, s_iinc, s_bin, s_binG, s_un, s_lbin, s_lbinG, s_lsh, s_lcmp, s_i2l, s_l2i, s_dup, s_dup2, s_pop, s_if, s_icmp, s_geti, s_getl, s_getr, s_puti, s_putz, s_putl, s_iald, s_zald, s_iast, s_zast, s_aaldS, s_aaldU, s_gets, s_tald, s_tsw, tsw, s_iret, s_zret, s_lret, s_aret, s_vret, s_callV, s_callS, c1, nl1, keepL, csum, pushR, inL, List.getD_cons_zero, List.getD_cons_succ, List.set_cons_zero, List.set_cons_succ, List.cons_append, List.nil_append, List.append_nil, List.replicate, List.length_cons, List.length_nil, List.take_succ_cons, List.take_zero, List.drop_succ_cons, List.drop_zero, List.reverse_cons, List.reverse_nil, true_and, and_true, forall_const, not_true_eq_false, not_false_eq_true, false_implies, true_implies, implies_true, one0, m10, Nat.reduceAdd, Nat.reduceSub, Nat.reduceLeDiff, Nat.zero_add, Nat.add_zero, fn_X12_isDue, fn_X12_may, fn_X12_urgent])
      exact hq
    | succ n ih =>
      intro i f k hi hf hq
      have ei : (nI i).toNatClampNeg = i := nI_clamp (by omega)
      have hi5 : i < 5 := by omega
      have x0 : ((10 : Int32) * nI i + 0).toNatClampNeg = 10 * i + 0 := cx hi5 0 (by decide)
      have v0 : vp_in ((10 : Int32) * nI i + 0) 52 := vx hi5 0 (by decide)
      have x1 : ((10 : Int32) * nI i + 1).toNatClampNeg = 10 * i + 1 := cx hi5 1 (by decide)
      have v1 : vp_in ((10 : Int32) * nI i + 1) 52 := vx hi5 1 (by decide)
      have x2 : ((10 : Int32) * nI i + 2).toNatClampNeg = 10 * i + 2 := cx hi5 2 (by decide)
      have v2 : vp_in ((10 : Int32) * nI i + 2) 52 := vx hi5 2 (by decide)
      have x3 : ((10 : Int32) * nI i + 3).toNatClampNeg = 10 * i + 3 := cx hi5 3 (by decide)
      have v3 : vp_in ((10 : Int32) * nI i + 3) 52 := vx hi5 3 (by decide)
      have x4 : ((10 : Int32) * nI i + 4).toNatClampNeg = 10 * i + 4 := cx hi5 4 (by decide)
      have v4 : vp_in ((10 : Int32) * nI i + 4) 52 := vx hi5 4 (by decide)
      have x5 : ((10 : Int32) * nI i + 5).toNatClampNeg = 10 * i + 5 := cx hi5 5 (by decide)
      have v5 : vp_in ((10 : Int32) * nI i + 5) 52 := vx hi5 5 (by decide)
      have x6 : ((10 : Int32) * nI i + 6).toNatClampNeg = 10 * i + 6 := cx hi5 6 (by decide)
      have v6 : vp_in ((10 : Int32) * nI i + 6) 52 := vx hi5 6 (by decide)
      have x7 : ((10 : Int32) * nI i + 7).toNatClampNeg = 10 * i + 7 := cx hi5 7 (by decide)
      have v7 : vp_in ((10 : Int32) * nI i + 7) 52 := vx hi5 7 (by decide)
      have x8 : ((10 : Int32) * nI i + 8).toNatClampNeg = 10 * i + 8 := cx hi5 8 (by decide)
      have v8 : vp_in ((10 : Int32) * nI i + 8) 52 := vx hi5 8 (by decide)
      have x9 : ((10 : Int32) * nI i + 9).toNatClampNeg = 10 * i + 9 := cx hi5 9 (by decide)
      have v9 : vp_in ((10 : Int32) * nI i + 9) 52 := vx hi5 9 (by decide)
      have L149 : ∀ f2 k2, (f2, k2) = whS M r B i (f, k) → G 149 [some (.inr (.inr (12, 158))), some (.inr (.inr (13, r))), some (.inl (nI B)), some (.inl f2), some (.inl k2), some (.inl (nI i)), none, none, none] [] M := by
        intro f2 k2 e
        (apply h149; simp only [BX12_whoHas_149, s_mth, s_mab, s_at, s_iconst, s_lconst, s_iload, s_lload, s_aload, s_istore, s_lstore, s_astore, s_iinc, s_bin, s_binG, s_un, s_lbin, s_lbinG, s_lsh, s_lcmp, s_i2l, s_l2i, s_dup, s_dup2, s_pop, s_if, s_icmp, s_geti, s_getl, s_getr, s_puti, s_putz, s_putl, s_iald, s_zald, s_iast, s_zast, s_aaldS, s_aaldU, s_gets, s_tald, s_tsw, tsw, s_iret, s_zret, s_lret, s_aret, s_vret, s_callV, s_callS, c1, nl1, keepL, csum, pushR, inL, List.getD_cons_zero, List.getD_cons_succ, List.set_cons_zero, List.set_cons_succ, List.cons_append, List.nil_append, List.append_nil, List.replicate, List.length_cons, List.length_nil, List.take_succ_cons, List.take_zero, List.drop_succ_cons, List.drop_zero, List.reverse_cons, List.reverse_nil, true_and, and_true, forall_const, not_true_eq_false, not_false_eq_true, false_implies, true_implies, implies_true, one0, m10, Nat.reduceAdd, Nat.reduceSub, Nat.reduceLeDiff, Nat.zero_add, Nat.add_zero, fn_X12_isDue, fn_X12_may, fn_X12_urgent])
        rw [nI_1]
        refine ih (i + 1) f2 k2 (by omega) ?_ (by rw [e]; exact hq)
        have := whS_rng (M := M) (r := r) (b := B) (u := i) (N := nM M) (q := (f, k)) (by omega) hf
        rw [← e] at this
        exact this
      have main : ¬ my M r i B = 0 → ∀ m, m = mo (f, k) (ug M r i) → G 56 [some (.inr (.inr (12, 158))), some (.inr (.inr (13, r))), some (.inl (nI B)), some (.inl f), some (.inl k), some (.inl (nI i)), some (.inl (ug M r i)), none, none] [.inl m] M := by
        intro hm m em
        have hst : whS M r B i (f, k) = ((if m = 0 then (if be M r i (f, k) (ug M r i) = 0 then f else nI i) else nI i), (if m = 0 then k else ug M r i)) := by rw [whS, if_neg hm, em]
        have L134 : ∀ f2, f2 = (if m = 0 then (if be M r i (f, k) (ug M r i) = 0 then f else nI i) else nI i) → G 134 [some (.inr (.inr (12, 158))), some (.inr (.inr (13, r))), some (.inl (nI B)), none, some (.inl k), some (.inl (nI i)), some (.inl (ug M r i)), some (.inl m), none] [.inl f2] M := by
          intro f2 ef
          have L147 : ∀ k2, k2 = (if m = 0 then k else ug M r i) → G 147 [some (.inr (.inr (12, 158))), some (.inr (.inr (13, r))), some (.inl (nI B)), some (.inl f2), none, some (.inl (nI i)), none, none, none] [.inl k2] M := by
            intro k2 ek
            (apply h147; simp only [BX12_whoHas_147, s_mth, s_mab, s_at, s_iconst, s_lconst, s_iload, s_lload, s_aload, s_istore, s_lstore, s_astore, s_iinc, s_bin, s_binG, s_un, s_lbin, s_lbinG, s_lsh, s_lcmp, s_i2l, s_l2i, s_dup, s_dup2, s_pop, s_if, s_icmp, s_geti, s_getl, s_getr, s_puti, s_putz, s_putl, s_iald, s_zald, s_iast, s_zast, s_aaldS, s_aaldU, s_gets, s_tald, s_tsw, tsw, s_iret, s_zret, s_lret, s_aret, s_vret, s_callV, s_callS, c1, nl1, keepL, csum, pushR, inL, List.getD_cons_zero, List.getD_cons_succ, List.set_cons_zero, List.set_cons_succ, List.cons_append, List.nil_append, List.append_nil, List.replicate, List.length_cons, List.length_nil, List.take_succ_cons, List.take_zero, List.drop_succ_cons, List.drop_zero, List.reverse_cons, List.reverse_nil, true_and, and_true, forall_const, not_true_eq_false, not_false_eq_true, false_implies, true_implies, implies_true, one0, m10, Nat.reduceAdd, Nat.reduceSub, Nat.reduceLeDiff, Nat.zero_add, Nat.add_zero, fn_X12_isDue, fn_X12_may, fn_X12_urgent])
            exact L149 f2 k2 (by rw [hst, ef, ek])
          (apply h134; simp only [BX12_whoHas_134, s_mth, s_mab, s_at, s_iconst, s_lconst, s_iload, s_lload, s_aload, s_istore, s_lstore, s_astore, s_iinc, s_bin, s_binG, s_un, s_lbin, s_lbinG, s_lsh, s_lcmp, s_i2l, s_l2i, s_dup, s_dup2, s_pop, s_if, s_icmp, s_geti, s_getl, s_getr, s_puti, s_putz, s_putl, s_iald, s_zald, s_iast, s_zast, s_aaldS, s_aaldU, s_gets, s_tald, s_tsw, tsw, s_iret, s_zret, s_lret, s_aret, s_vret, s_callV, s_callS, c1, nl1, keepL, csum, pushR, inL, List.getD_cons_zero, List.getD_cons_succ, List.set_cons_zero, List.set_cons_succ, List.cons_append, List.nil_append, List.append_nil, List.replicate, List.length_cons, List.length_nil, List.take_succ_cons, List.take_zero, List.drop_succ_cons, List.drop_zero, List.reverse_cons, List.reverse_nil, true_and, and_true, forall_const, not_true_eq_false, not_false_eq_true, false_implies, true_implies, implies_true, one0, m10, Nat.reduceAdd, Nat.reduceSub, Nat.reduceLeDiff, Nat.zero_add, Nat.add_zero, fn_X12_isDue, fn_X12_may, fn_X12_urgent])
          refine ⟨fun h => ?_, fun h => ?_⟩
          · (apply h145; simp only [BX12_whoHas_145, s_mth, s_mab, s_at, s_iconst, s_lconst, s_iload, s_lload, s_aload, s_istore, s_lstore, s_astore, s_iinc, s_bin, s_binG, s_un, s_lbin, s_lbinG, s_lsh, s_lcmp, s_i2l, s_l2i, s_dup, s_dup2, s_pop, s_if, s_icmp, s_geti, s_getl, s_getr, s_puti, s_putz, s_putl, s_iald, s_zald, s_iast, s_zast, s_aaldS, s_aaldU, s_gets, s_tald, s_tsw, tsw, s_iret, s_zret, s_lret, s_aret, s_vret, s_callV, s_callS, c1, nl1, keepL, csum, pushR, inL, List.getD_cons_zero, List.getD_cons_succ, List.set_cons_zero, List.set_cons_succ, List.cons_append, List.nil_append, List.append_nil, List.replicate, List.length_cons, List.length_nil, List.take_succ_cons, List.take_zero, List.drop_succ_cons, List.drop_zero, List.reverse_cons, List.reverse_nil, true_and, and_true, forall_const, not_true_eq_false, not_false_eq_true, false_implies, true_implies, implies_true, one0, m10, Nat.reduceAdd, Nat.reduceSub, Nat.reduceLeDiff, Nat.zero_add, Nat.add_zero, fn_X12_isDue, fn_X12_may, fn_X12_urgent])
            exact L147 k (by rw [if_pos h])
          · exact L147 _ (by rw [if_neg h])
        have L116 : ∀ w, w = be M r i (f, k) (ug M r i) → G 116 [some (.inr (.inr (12, 158))), some (.inr (.inr (13, r))), some (.inl (nI B)), some (.inl f), some (.inl k), some (.inl (nI i)), some (.inl (ug M r i)), some (.inl m), none] [.inl w] M := by
          intro w ew
          have T : (m = 0 → ¬ w = 0) → G 128 [some (.inr (.inr (12, 158))), some (.inr (.inr (13, r))), some (.inl (nI B)), none, some (.inl k), some (.inl (nI i)), some (.inl (ug M r i)), some (.inl m), none] [] M := by
            intro g
            (apply h128; simp only [BX12_whoHas_128, s_mth, s_mab, s_at, s_iconst, s_lconst, s_iload, s_lload, s_aload, s_istore, s_lstore, s_astore, s_iinc, s_bin, s_binG, s_un, s_lbin, s_lbinG, s_lsh, s_lcmp, s_i2l, s_l2i, s_dup, s_dup2, s_pop, s_if, s_icmp, s_geti, s_getl, s_getr, s_puti, s_putz, s_putl, s_iald, s_zald, s_iast, s_zast, s_aaldS, s_aaldU, s_gets, s_tald, s_tsw, tsw, s_iret, s_zret, s_lret, s_aret, s_vret, s_callV, s_callS, c1, nl1, keepL, csum, pushR, inL, List.getD_cons_zero, List.getD_cons_succ, List.set_cons_zero, List.set_cons_succ, List.cons_append, List.nil_append, List.append_nil, List.replicate, List.length_cons, List.length_nil, List.take_succ_cons, List.take_zero, List.drop_succ_cons, List.drop_zero, List.reverse_cons, List.reverse_nil, true_and, and_true, forall_const, not_true_eq_false, not_false_eq_true, false_implies, true_implies, implies_true, one0, m10, Nat.reduceAdd, Nat.reduceSub, Nat.reduceLeDiff, Nat.zero_add, Nat.add_zero, fn_X12_isDue, fn_X12_may, fn_X12_urgent])
            refine L134 (nI i) ?_
            rw [← ew]
            by_cases h : m = 0
            · rw [if_pos h, if_neg (g h)]
            · rw [if_neg h]
          (apply h116; simp only [BX12_whoHas_116, s_mth, s_mab, s_at, s_iconst, s_lconst, s_iload, s_lload, s_aload, s_istore, s_lstore, s_astore, s_iinc, s_bin, s_binG, s_un, s_lbin, s_lbinG, s_lsh, s_lcmp, s_i2l, s_l2i, s_dup, s_dup2, s_pop, s_if, s_icmp, s_geti, s_getl, s_getr, s_puti, s_putz, s_putl, s_iald, s_zald, s_iast, s_zast, s_aaldS, s_aaldU, s_gets, s_tald, s_tsw, tsw, s_iret, s_zret, s_lret, s_aret, s_vret, s_callV, s_callS, c1, nl1, keepL, csum, pushR, inL, List.getD_cons_zero, List.getD_cons_succ, List.set_cons_zero, List.set_cons_succ, List.cons_append, List.nil_append, List.append_nil, List.replicate, List.length_cons, List.length_nil, List.take_succ_cons, List.take_zero, List.drop_succ_cons, List.drop_zero, List.reverse_cons, List.reverse_nil, true_and, and_true, forall_const, not_true_eq_false, not_false_eq_true, false_implies, true_implies, implies_true, one0, m10, Nat.reduceAdd, Nat.reduceSub, Nat.reduceLeDiff, Nat.zero_add, Nat.add_zero, fn_X12_isDue, fn_X12_may, fn_X12_urgent])
          refine ⟨fun h => ⟨fun h2 => ?_, fun h2 => ?_⟩, fun h => ?_⟩
          · (apply h133; simp only [BX12_whoHas_133, s_mth, s_mab, s_at, s_iconst, s_lconst, s_iload, s_lload, s_aload, s_istore, s_lstore, s_astore, s_iinc, s_bin, s_binG, s_un, s_lbin, s_lbinG, s_lsh, s_lcmp, s_i2l, s_l2i, s_dup, s_dup2, s_pop, s_if, s_icmp, s_geti, s_getl, s_getr, s_puti, s_putz, s_putl, s_iald, s_zald, s_iast, s_zast, s_aaldS, s_aaldU, s_gets, s_tald, s_tsw, tsw, s_iret, s_zret, s_lret, s_aret, s_vret, s_callV, s_callS, c1, nl1, keepL, csum, pushR, inL, List.getD_cons_zero, List.getD_cons_succ, List.set_cons_zero, List.set_cons_succ, List.cons_append, List.nil_append, List.append_nil, List.replicate, List.length_cons, List.length_nil, List.take_succ_cons, List.take_zero, List.drop_succ_cons, List.drop_zero, List.reverse_cons, List.reverse_nil, true_and, and_true, forall_const, not_true_eq_false, not_false_eq_true, false_implies, true_implies, implies_true, one0, m10, Nat.reduceAdd, Nat.reduceSub, Nat.reduceLeDiff, Nat.zero_add, Nat.add_zero, fn_X12_isDue, fn_X12_may, fn_X12_urgent])
            exact L134 f (by rw [if_pos h, ← ew, if_pos h2])
          · exact T (fun _ => h2)
          · exact T (fun g => absurd g h)
        have T : be M r i (f, k) (ug M r i) = 1 → G 111 [some (.inr (.inr (12, 158))), some (.inr (.inr (13, r))), some (.inl (nI B)), some (.inl f), some (.inl k), some (.inl (nI i)), some (.inl (ug M r i)), some (.inl m), none] [] M := by
          intro e
          (apply h111; simp only [BX12_whoHas_111, s_mth, s_mab, s_at, s_iconst, s_lconst, s_iload, s_lload, s_aload, s_istore, s_lstore, s_astore, s_iinc, s_bin, s_binG, s_un, s_lbin, s_lbinG, s_lsh, s_lcmp, s_i2l, s_l2i, s_dup, s_dup2, s_pop, s_if, s_icmp, s_geti, s_getl, s_getr, s_puti, s_putz, s_putl, s_iald, s_zald, s_iast, s_zast, s_aaldS, s_aaldU, s_gets, s_tald, s_tsw, tsw, s_iret, s_zret, s_lret, s_aret, s_vret, s_callV, s_callS, c1, nl1, keepL, csum, pushR, inL, List.getD_cons_zero, List.getD_cons_succ, List.set_cons_zero, List.set_cons_succ, List.cons_append, List.nil_append, List.append_nil, List.replicate, List.length_cons, List.length_nil, List.take_succ_cons, List.take_zero, List.drop_succ_cons, List.drop_zero, List.reverse_cons, List.reverse_nil, true_and, and_true, forall_const, not_true_eq_false, not_false_eq_true, false_implies, true_implies, implies_true, one0, m10, Nat.reduceAdd, Nat.reduceSub, Nat.reduceLeDiff, Nat.zero_add, Nat.add_zero, fn_X12_isDue, fn_X12_may, fn_X12_urgent])
          exact L116 1 e.symm
        have F : be M r i (f, k) (ug M r i) = 0 → G 115 [some (.inr (.inr (12, 158))), some (.inr (.inr (13, r))), some (.inl (nI B)), some (.inl f), some (.inl k), some (.inl (nI i)), some (.inl (ug M r i)), some (.inl m), none] [] M := by
          intro e
          (apply h115; simp only [BX12_whoHas_115, s_mth, s_mab, s_at, s_iconst, s_lconst, s_iload, s_lload, s_aload, s_istore, s_lstore, s_astore, s_iinc, s_bin, s_binG, s_un, s_lbin, s_lbinG, s_lsh, s_lcmp, s_i2l, s_l2i, s_dup, s_dup2, s_pop, s_if, s_icmp, s_geti, s_getl, s_getr, s_puti, s_putz, s_putl, s_iald, s_zald, s_iast, s_zast, s_aaldS, s_aaldU, s_gets, s_tald, s_tsw, tsw, s_iret, s_zret, s_lret, s_aret, s_vret, s_callV, s_callS, c1, nl1, keepL, csum, pushR, inL, List.getD_cons_zero, List.getD_cons_succ, List.set_cons_zero, List.set_cons_succ, List.cons_append, List.nil_append, List.append_nil, List.replicate, List.length_cons, List.length_nil, List.take_succ_cons, List.take_zero, List.drop_succ_cons, List.drop_zero, List.reverse_cons, List.reverse_nil, true_and, and_true, forall_const, not_true_eq_false, not_false_eq_true, false_implies, true_implies, implies_true, one0, m10, Nat.reduceAdd, Nat.reduceSub, Nat.reduceLeDiff, Nat.zero_add, Nat.add_zero, fn_X12_isDue, fn_X12_may, fn_X12_urgent])
          exact L116 0 e.symm
        unfold be at T F
        rw [← em] at T F
        simp only at T F
        (apply h56; simp only [BX12_whoHas_56, s_mth, s_mab, s_at, s_iconst, s_lconst, s_iload, s_lload, s_aload, s_istore, s_lstore, s_astore, s_iinc, s_bin, s_binG, s_un, s_lbin, s_lbinG, s_lsh, s_lcmp, s_i2l, s_l2i, s_dup, s_dup2, s_pop, s_if, s_icmp, s_geti, s_getl, s_getr, s_puti, s_putz, s_putl, s_iald, s_zald, s_iast, s_zast, s_aaldS, s_aaldU, s_gets, s_tald, s_tsw, tsw, s_iret, s_zret, s_lret, s_aret, s_vret, s_callV, s_callS, c1, nl1, keepL, csum, pushR, inL, List.getD_cons_zero, List.getD_cons_succ, List.set_cons_zero, List.set_cons_succ, List.cons_append, List.nil_append, List.append_nil, List.replicate, List.length_cons, List.length_nil, List.take_succ_cons, List.take_zero, List.drop_succ_cons, List.drop_zero, List.reverse_cons, List.reverse_nil, true_and, and_true, forall_const, not_true_eq_false, not_false_eq_true, false_implies, true_implies, implies_true, one0, m10, Nat.reduceAdd, Nat.reduceSub, Nat.reduceLeDiff, Nat.zero_add, Nat.add_zero, fn_X12_isDue, fn_X12_may, fn_X12_urgent])
        refine ⟨fun h => ?_, fun h => ?_⟩
        · rw [if_pos h] at T F
          have hfn : ¬ f = -9 := by
            intro e
            rw [em] at h
            unfold mo at h
            simp only at h
            rw [if_pos e] at h
            exact absurd h (by decide)
          obtain ⟨j, hj, ej⟩ : ∃ j, j < nM M ∧ f = nI j := by
            rcases hf with e | e
            · exact absurd e hfn
            · exact e
          have hj5 : j < 5 := by omega
          have ecj : f.toNatClampNeg = j := by rw [ej]; exact nI_clamp (by omega)
          rw [ecj] at T F
          have bx7 : ((10 : Int32) * f + 7).toNatClampNeg = 10 * j + 7 := by rw [ej]; exact cx hj5 7 (by decide)
          have bv7 : vp_in ((10 : Int32) * f + 7) 52 := by rw [ej]; exact vx hj5 7 (by decide)
          simp only [hl, x7, bx7]
          refine ⟨fun h2 => ⟨fun h3 => ?_, fun h3 => ⟨v7, bv7, fun h4 => ?_, fun h4 => ?_⟩⟩, fun h2 => ?_⟩
          · rw [if_pos h2, if_pos h3] at T F
            (apply h100; simp only [BX12_whoHas_100, s_mth, s_mab, s_at, s_iconst, s_lconst, s_iload, s_lload, s_aload, s_istore, s_lstore, s_astore, s_iinc, s_bin, s_binG, s_un, s_lbin, s_lbinG, s_lsh, s_lcmp, s_i2l, s_l2i, s_dup, s_dup2, s_pop, s_if, s_icmp, s_geti, s_getl, s_getr, s_puti, s_putz, s_putl, s_iald, s_zald, s_iast, s_zast, s_aaldS, s_aaldU, s_gets, s_tald, s_tsw, tsw, s_iret, s_zret, s_lret, s_aret, s_vret, s_callV, s_callS, c1, nl1, keepL, csum, pushR, inL, List.getD_cons_zero, List.getD_cons_succ, List.set_cons_zero, List.set_cons_succ, List.cons_append, List.nil_append, List.append_nil, List.replicate, List.length_cons, List.length_nil, List.take_succ_cons, List.take_zero, List.drop_succ_cons, List.drop_zero, List.reverse_cons, List.reverse_nil, true_and, and_true, forall_const, not_true_eq_false, not_false_eq_true, false_implies, true_implies, implies_true, one0, m10, Nat.reduceAdd, Nat.reduceSub, Nat.reduceLeDiff, Nat.zero_add, Nat.add_zero, fn_X12_isDue, fn_X12_may, fn_X12_urgent])
            simp only [ei, ecj]
            refine ⟨⟨_, _, _, _, rfl, hPM, hPG, ⟨i, by omega, rfl⟩, j, hj, ej⟩, fun h4 => ?_, fun h4 => ?_⟩
            · exact F (by rw [if_pos h4])
            · exact T (by rw [if_neg h4])
          · rw [if_pos h2, if_neg h3] at T F
            exact F (by rw [if_pos h4])
          · rw [if_pos h2, if_neg h3] at T F
            exact T (by rw [if_neg h4])
          · exact F (by rw [if_neg h2])
        · exact F (by rw [if_neg h])
      have T : ¬ my M r i B = 0 → mo (f, k) (ug M r i) = 1 → G 51 [some (.inr (.inr (12, 158))), some (.inr (.inr (13, r))), some (.inl (nI B)), some (.inl f), some (.inl k), some (.inl (nI i)), some (.inl (ug M r i)), none, none] [] M := by
        intro hm e
        (apply h51; simp only [BX12_whoHas_51, s_mth, s_mab, s_at, s_iconst, s_lconst, s_iload, s_lload, s_aload, s_istore, s_lstore, s_astore, s_iinc, s_bin, s_binG, s_un, s_lbin, s_lbinG, s_lsh, s_lcmp, s_i2l, s_l2i, s_dup, s_dup2, s_pop, s_if, s_icmp, s_geti, s_getl, s_getr, s_puti, s_putz, s_putl, s_iald, s_zald, s_iast, s_zast, s_aaldS, s_aaldU, s_gets, s_tald, s_tsw, tsw, s_iret, s_zret, s_lret, s_aret, s_vret, s_callV, s_callS, c1, nl1, keepL, csum, pushR, inL, List.getD_cons_zero, List.getD_cons_succ, List.set_cons_zero, List.set_cons_succ, List.cons_append, List.nil_append, List.append_nil, List.replicate, List.length_cons, List.length_nil, List.take_succ_cons, List.take_zero, List.drop_succ_cons, List.drop_zero, List.reverse_cons, List.reverse_nil, true_and, and_true, forall_const, not_true_eq_false, not_false_eq_true, false_implies, true_implies, implies_true, one0, m10, Nat.reduceAdd, Nat.reduceSub, Nat.reduceLeDiff, Nat.zero_add, Nat.add_zero, fn_X12_isDue, fn_X12_may, fn_X12_urgent])
        exact main hm 1 e.symm
      have F : ¬ my M r i B = 0 → mo (f, k) (ug M r i) = 0 → G 55 [some (.inr (.inr (12, 158))), some (.inr (.inr (13, r))), some (.inl (nI B)), some (.inl f), some (.inl k), some (.inl (nI i)), some (.inl (ug M r i)), none, none] [] M := by
        intro hm e
        (apply h55; simp only [BX12_whoHas_55, s_mth, s_mab, s_at, s_iconst, s_lconst, s_iload, s_lload, s_aload, s_istore, s_lstore, s_astore, s_iinc, s_bin, s_binG, s_un, s_lbin, s_lbinG, s_lsh, s_lcmp, s_i2l, s_l2i, s_dup, s_dup2, s_pop, s_if, s_icmp, s_geti, s_getl, s_getr, s_puti, s_putz, s_putl, s_iald, s_zald, s_iast, s_zast, s_aaldS, s_aaldU, s_gets, s_tald, s_tsw, tsw, s_iret, s_zret, s_lret, s_aret, s_vret, s_callV, s_callS, c1, nl1, keepL, csum, pushR, inL, List.getD_cons_zero, List.getD_cons_succ, List.set_cons_zero, List.set_cons_succ, List.cons_append, List.nil_append, List.append_nil, List.replicate, List.length_cons, List.length_nil, List.take_succ_cons, List.take_zero, List.drop_succ_cons, List.drop_zero, List.reverse_cons, List.reverse_nil, true_and, and_true, forall_const, not_true_eq_false, not_false_eq_true, false_implies, true_implies, implies_true, one0, m10, Nat.reduceAdd, Nat.reduceSub, Nat.reduceLeDiff, Nat.zero_add, Nat.add_zero, fn_X12_isDue, fn_X12_may, fn_X12_urgent])
        exact main hm 0 e.symm
      (apply h9; simp only [BX12_whoHas_9, s_mth, s_mab, s_at, s_iconst, s_lconst, s_iload, s_lload, s_aload, s_istore, s_lstore, s_astore, s_iinc, s_bin, s_binG, s_un, s_lbin, s_lbinG, s_lsh, s_lcmp, s_i2l, s_l2i, s_dup, s_dup2, s_pop, s_if, s_icmp, s_geti, s_getl, s_getr, s_puti, s_putz, s_putl, s_iald, s_zald, s_iast, s_zast, s_aaldS, s_aaldU, s_gets, s_tald, s_tsw, tsw, s_iret, s_zret, s_lret, s_aret, s_vret, s_callV, s_callS, c1, nl1, keepL, csum, pushR, inL, List.getD_cons_zero, List.getD_cons_succ, List.set_cons_zero, List.set_cons_succ, List.cons_append, List.nil_append, List.append_nil, List.replicate, List.length_cons, List.length_nil, List.take_succ_cons, List.take_zero, List.drop_succ_cons, List.drop_zero, List.reverse_cons, List.reverse_nil, true_and, and_true, forall_const, not_true_eq_false, not_false_eq_true, false_implies, true_implies, implies_true, one0, m10, Nat.reduceAdd, Nat.reduceSub, Nat.reduceLeDiff, Nat.zero_add, Nat.add_zero, fn_X12_isDue, fn_X12_may, fn_X12_urgent])
      simp only [en, ei, eB]
      refine ⟨fun h => absurd h (nI_ge (by omega) (by omega)), fun _ => ⟨⟨_, _, _, _, rfl, hPM, hPG, ⟨i, by omega, rfl⟩, B, hB, rfl⟩, fun h => ?_, fun h => ⟨⟨_, _, _, rfl, hl, i, hi5, rfl⟩, fun h2 => ?_, fun h2 => ⟨fun h3 => ?_, fun h3 => ?_⟩⟩⟩⟩
      · exact L149 f k (by rw [whS, if_pos h])
      · exact T h (by rw [mo, if_pos h2])
      · exact F h (by rw [mo, if_neg h2, if_pos h3])
      · exact T h (by rw [mo, if_neg h2, if_neg h3])
  (apply h0; simp only [BX12_whoHas_0, s_mth, s_mab, s_at, s_iconst, s_lconst, s_iload, s_lload, s_aload, s_istore, s_lstore, s_astore, s_iinc, s_bin, s_binG, s_un, s_lbin, s_lbinG, s_lsh, s_lcmp, s_i2l, s_l2i, s_dup, s_dup2, s_pop, s_if, s_icmp, s_geti, s_getl, s_getr, s_puti, s_putz, s_putl, s_iald, s_zald, s_iast, s_zast, s_aaldS, s_aaldU, s_gets, s_tald, s_tsw, tsw, s_iret, s_zret, s_lret, s_aret, s_vret, s_callV, s_callS, c1, nl1, keepL, csum, pushR, inL, List.getD_cons_zero, List.getD_cons_succ, List.set_cons_zero, List.set_cons_succ, List.cons_append, List.nil_append, List.append_nil, List.replicate, List.length_cons, List.length_nil, List.take_succ_cons, List.take_zero, List.drop_succ_cons, List.drop_zero, List.reverse_cons, List.reverse_nil, true_and, and_true, forall_const, not_true_eq_false, not_false_eq_true, false_implies, true_implies, implies_true, one0, m10, Nat.reduceAdd, Nat.reduceSub, Nat.reduceLeDiff, Nat.zero_add, Nat.add_zero, fn_X12_isDue, fn_X12_may, fn_X12_urgent])
  exact loop _ 0 (-9) 0 (by omega) (Or.inl rfl) hQ
theorem ct_X12_whoHas (l : Launch) : Con l yX12_whoHas cX12_whoHas 9 (Option.some FieldType.int) 2 pre_X12_whoHas fn_X12_whoHas := con_of (by decide +kernel) ok_X12_whoHas len_X12_whoHas (fun p e s m args below meth c D ca ad A as M hX hr hp ho => pf_X12_whoHas _ _ (bsX12_whoHas_0 hX hr) (bsX12_whoHas_9 hX hr) (bsX12_whoHas_51 hX hr) (bsX12_whoHas_55 hX hr) (bsX12_whoHas_56 hX hr) (bsX12_whoHas_100 hX hr) (bsX12_whoHas_111 hX hr) (bsX12_whoHas_115 hX hr) (bsX12_whoHas_116 hX hr) (bsX12_whoHas_128 hX hr) (bsX12_whoHas_133 hX hr) (bsX12_whoHas_134 hX hr) (bsX12_whoHas_145 hX hr) (bsX12_whoHas_147 hX hr) (bsX12_whoHas_149 hX hr) (bsX12_whoHas_155 hX hr) as M ho hp ⟨rfl, rfl⟩)
def sdO (M : mM) (r u : Nat) : Nat := if M.1 r (10 * u + 5) ≤ 0 then 4 else 5
def sdN (M : mM) (r u o : Nat) : Int32 := if mrt M r u ≤ M.1 r (10 * u + o) then mrt M r u else M.1 r (10 * u + o)
def sd1 (M : mM) (r u o : Nat) (n : Int32) : mM := mset (mset M r (10 * u + o) (M.1 r (10 * u + o) - n)) r (10 * u + 8) ((mset M r (10 * u + o) (M.1 r (10 * u + o) - n)).1 r (10 * u + 8) + 1)
def sdA (M : mM) (r u : Nat) (n : Int32) : mM := mset (mset M r (10 * u + 9) (M.1 r (10 * u + 9) + n)) 177 u ((mset M r (10 * u + 9) (M.1 r (10 * u + 9) + n)).1 177 u + n)
def sd2 (M : mM) (r u : Nat) (n : Int32) : mM := if M.1 r (10 * u + 2) ≤ 0 then sdA M r u n else if rm (M.1 r (10 * u + 8)) (M.1 r (10 * u + 2)) = 0 then mset M r (10 * u + 5) (M.1 r (10 * u + 5) + n) else sdA M r u n
def sds (M : mM) (r u : Nat) : mM := sd2 (sd1 M r u (sdO M r u) (sdN M r u (sdO M r u))) r u (sdN M r u (sdO M r u))
def pre_X12_sends (as : List mV) (M : mM) : Prop := ∃ c r u, as = [.inr (.inr (12, c)), .inr (.inr (13, r)), .inl u] ∧ PM M ∧ PG M r 0 ∧ ∃ j, j < nM M ∧ u = nI j
def fn_X12_sends : List mV → mM → Option mV × mM
  | [.inr (.inr (_, c)), .inr (.inr (_, r)), .inl u], M => (none, sds M r u.toNatClampNeg)
  | _, M => (none, M)
theorem ok_X12_sends (as : List mV) (M : mM) (h : pre_X12_sends as M) (_ : ∀ v ∈ as, okV v) : okR (fn_X12_sends as M).1 := by
  obtain ⟨c, r, u, rfl, -⟩ := h
  first | trivial | exact (by decide +kernel : kof 14 = 8)
theorem len_X12_sends (as : List mV) (M : mM) (h : pre_X12_sends as M) : (inL as).length ≤ 7 := by
  obtain ⟨c, r, u, rfl, -⟩ := h
  exact Nat.le_of_ble_eq_true rfl

theorem fl_754 : FLk "FairBlocksModel" 82 12 31 16 := ⟨RX12, TX12, 32, rfl, inX12, by decide, w_754, by decide, rfl⟩
theorem dX12_sends_0 : decode cX12_sends 0 = .ok (.bipush 10, 2) := by decide +kernel
theorem dX12_sends_2 : decode cX12_sends 2 = .ok (.iload_n 2, 1) := by decide +kernel
theorem dX12_sends_3 : decode cX12_sends 3 = .ok (.imul, 1) := by decide +kernel
theorem dX12_sends_4 : decode cX12_sends 4 = .ok (.istore_n 3, 1) := by decide +kernel
theorem dX12_sends_5 : decode cX12_sends 5 = .ok (.aload_n 1, 1) := by decide +kernel
theorem dX12_sends_6 : decode cX12_sends 6 = .ok (.iload_n 3, 1) := by decide +kernel
theorem dX12_sends_7 : decode cX12_sends 7 = .ok (.iconst 5, 1) := by decide +kernel
theorem dX12_sends_8 : decode cX12_sends 8 = .ok (.iadd, 1) := by decide +kernel
theorem dX12_sends_9 : decode cX12_sends 9 = .ok (.iaload, 1) := by decide +kernel
theorem dX12_sends_10 : decode cX12_sends 10 = .ok (.ifCond .le 7, 3) := by decide +kernel
theorem dX12_sends_13 : decode cX12_sends 13 = .ok (.iconst 5, 1) := by decide +kernel
theorem dX12_sends_14 : decode cX12_sends 14 = .ok (.goto 4, 3) := by decide +kernel
theorem dX12_sends_17 : decode cX12_sends 17 = .ok (.iconst 4, 1) := by decide +kernel
theorem dX12_sends_18 : decode cX12_sends 18 = .ok (.istore 4, 2) := by decide +kernel
theorem dX12_sends_20 : decode cX12_sends 20 = .ok (.aload_n 0, 1) := by decide +kernel
theorem dX12_sends_21 : decode cX12_sends 21 = .ok (.aload_n 1, 1) := by decide +kernel
theorem dX12_sends_22 : decode cX12_sends 22 = .ok (.iload_n 2, 1) := by decide +kernel
theorem dX12_sends_23 : decode cX12_sends 23 = .ok (.invokevirtual 123, 3) := by decide +kernel
theorem dX12_sends_26 : decode cX12_sends 26 = .ok (.istore 5, 2) := by decide +kernel
theorem dX12_sends_28 : decode cX12_sends 28 = .ok (.aload_n 1, 1) := by decide +kernel
theorem dX12_sends_29 : decode cX12_sends 29 = .ok (.iload_n 3, 1) := by decide +kernel
theorem dX12_sends_30 : decode cX12_sends 30 = .ok (.iload 4, 2) := by decide +kernel
theorem dX12_sends_32 : decode cX12_sends 32 = .ok (.iadd, 1) := by decide +kernel
theorem dX12_sends_33 : decode cX12_sends 33 = .ok (.iaload, 1) := by decide +kernel
theorem dX12_sends_34 : decode cX12_sends 34 = .ok (.iload 5, 2) := by decide +kernel
theorem dX12_sends_36 : decode cX12_sends 36 = .ok (.if_icmp .ge 12, 3) := by decide +kernel
theorem dX12_sends_39 : decode cX12_sends 39 = .ok (.aload_n 1, 1) := by decide +kernel
theorem dX12_sends_40 : decode cX12_sends 40 = .ok (.iload_n 3, 1) := by decide +kernel
theorem dX12_sends_41 : decode cX12_sends 41 = .ok (.iload 4, 2) := by decide +kernel
theorem dX12_sends_43 : decode cX12_sends 43 = .ok (.iadd, 1) := by decide +kernel
theorem dX12_sends_44 : decode cX12_sends 44 = .ok (.iaload, 1) := by decide +kernel
theorem dX12_sends_45 : decode cX12_sends 45 = .ok (.goto 5, 3) := by decide +kernel
theorem dX12_sends_48 : decode cX12_sends 48 = .ok (.iload 5, 2) := by decide +kernel
theorem dX12_sends_50 : decode cX12_sends 50 = .ok (.istore 6, 2) := by decide +kernel
theorem dX12_sends_52 : decode cX12_sends 52 = .ok (.aload_n 1, 1) := by decide +kernel
theorem dX12_sends_53 : decode cX12_sends 53 = .ok (.iload_n 3, 1) := by decide +kernel
theorem dX12_sends_54 : decode cX12_sends 54 = .ok (.iload 4, 2) := by decide +kernel
theorem dX12_sends_56 : decode cX12_sends 56 = .ok (.iadd, 1) := by decide +kernel
theorem dX12_sends_57 : decode cX12_sends 57 = .ok (.dup2, 1) := by decide +kernel
theorem dX12_sends_58 : decode cX12_sends 58 = .ok (.iaload, 1) := by decide +kernel
theorem dX12_sends_59 : decode cX12_sends 59 = .ok (.iload 6, 2) := by decide +kernel
theorem dX12_sends_61 : decode cX12_sends 61 = .ok (.isub, 1) := by decide +kernel
theorem dX12_sends_62 : decode cX12_sends 62 = .ok (.iastore, 1) := by decide +kernel
theorem dX12_sends_63 : decode cX12_sends 63 = .ok (.aload_n 1, 1) := by decide +kernel
theorem dX12_sends_64 : decode cX12_sends 64 = .ok (.iload_n 3, 1) := by decide +kernel
theorem dX12_sends_65 : decode cX12_sends 65 = .ok (.bipush 8, 2) := by decide +kernel
theorem dX12_sends_67 : decode cX12_sends 67 = .ok (.iadd, 1) := by decide +kernel
theorem dX12_sends_68 : decode cX12_sends 68 = .ok (.dup2, 1) := by decide +kernel
theorem dX12_sends_69 : decode cX12_sends 69 = .ok (.iaload, 1) := by decide +kernel
theorem dX12_sends_70 : decode cX12_sends 70 = .ok (.iconst 1, 1) := by decide +kernel
theorem dX12_sends_71 : decode cX12_sends 71 = .ok (.iadd, 1) := by decide +kernel
theorem dX12_sends_72 : decode cX12_sends 72 = .ok (.iastore, 1) := by decide +kernel
theorem dX12_sends_73 : decode cX12_sends 73 = .ok (.aload_n 1, 1) := by decide +kernel
theorem dX12_sends_74 : decode cX12_sends 74 = .ok (.iload_n 3, 1) := by decide +kernel
theorem dX12_sends_75 : decode cX12_sends 75 = .ok (.iconst 2, 1) := by decide +kernel
theorem dX12_sends_76 : decode cX12_sends 76 = .ok (.iadd, 1) := by decide +kernel
theorem dX12_sends_77 : decode cX12_sends 77 = .ok (.iaload, 1) := by decide +kernel
theorem dX12_sends_78 : decode cX12_sends 78 = .ok (.ifCond .le 31, 3) := by decide +kernel
theorem dX12_sends_81 : decode cX12_sends 81 = .ok (.aload_n 1, 1) := by decide +kernel
theorem dX12_sends_82 : decode cX12_sends 82 = .ok (.iload_n 3, 1) := by decide +kernel
theorem dX12_sends_83 : decode cX12_sends 83 = .ok (.bipush 8, 2) := by decide +kernel
theorem dX12_sends_85 : decode cX12_sends 85 = .ok (.iadd, 1) := by decide +kernel
theorem dX12_sends_86 : decode cX12_sends 86 = .ok (.iaload, 1) := by decide +kernel
theorem dX12_sends_87 : decode cX12_sends 87 = .ok (.aload_n 1, 1) := by decide +kernel
theorem dX12_sends_88 : decode cX12_sends 88 = .ok (.iload_n 3, 1) := by decide +kernel
theorem dX12_sends_89 : decode cX12_sends 89 = .ok (.iconst 2, 1) := by decide +kernel
theorem dX12_sends_90 : decode cX12_sends 90 = .ok (.iadd, 1) := by decide +kernel
theorem dX12_sends_91 : decode cX12_sends 91 = .ok (.iaload, 1) := by decide +kernel
theorem dX12_sends_92 : decode cX12_sends 92 = .ok (.irem, 1) := by decide +kernel
theorem dX12_sends_93 : decode cX12_sends 93 = .ok (.ifCond .ne 16, 3) := by decide +kernel
theorem dX12_sends_96 : decode cX12_sends 96 = .ok (.aload_n 1, 1) := by decide +kernel
theorem dX12_sends_97 : decode cX12_sends 97 = .ok (.iload_n 3, 1) := by decide +kernel
theorem dX12_sends_98 : decode cX12_sends 98 = .ok (.iconst 5, 1) := by decide +kernel
theorem dX12_sends_99 : decode cX12_sends 99 = .ok (.iadd, 1) := by decide +kernel
theorem dX12_sends_100 : decode cX12_sends 100 = .ok (.dup2, 1) := by decide +kernel
theorem dX12_sends_101 : decode cX12_sends 101 = .ok (.iaload, 1) := by decide +kernel
theorem dX12_sends_102 : decode cX12_sends 102 = .ok (.iload 6, 2) := by decide +kernel
theorem dX12_sends_104 : decode cX12_sends 104 = .ok (.iadd, 1) := by decide +kernel
theorem dX12_sends_105 : decode cX12_sends 105 = .ok (.iastore, 1) := by decide +kernel
theorem dX12_sends_106 : decode cX12_sends 106 = .ok (.goto 25, 3) := by decide +kernel
theorem dX12_sends_109 : decode cX12_sends 109 = .ok (.aload_n 1, 1) := by decide +kernel
theorem dX12_sends_110 : decode cX12_sends 110 = .ok (.iload_n 3, 1) := by decide +kernel
theorem dX12_sends_111 : decode cX12_sends 111 = .ok (.bipush 9, 2) := by decide +kernel
theorem dX12_sends_113 : decode cX12_sends 113 = .ok (.iadd, 1) := by decide +kernel
theorem dX12_sends_114 : decode cX12_sends 114 = .ok (.dup2, 1) := by decide +kernel
theorem dX12_sends_115 : decode cX12_sends 115 = .ok (.iaload, 1) := by decide +kernel
theorem dX12_sends_116 : decode cX12_sends 116 = .ok (.iload 6, 2) := by decide +kernel
theorem dX12_sends_118 : decode cX12_sends 118 = .ok (.iadd, 1) := by decide +kernel
theorem dX12_sends_119 : decode cX12_sends 119 = .ok (.iastore, 1) := by decide +kernel
theorem dX12_sends_120 : decode cX12_sends 120 = .ok (.aload_n 0, 1) := by decide +kernel
theorem dX12_sends_121 : decode cX12_sends 121 = .ok (.getfield 82, 3) := by decide +kernel
theorem dX12_sends_124 : decode cX12_sends 124 = .ok (.iload_n 2, 1) := by decide +kernel
theorem dX12_sends_125 : decode cX12_sends 125 = .ok (.dup2, 1) := by decide +kernel
theorem dX12_sends_126 : decode cX12_sends 126 = .ok (.iaload, 1) := by decide +kernel
theorem dX12_sends_127 : decode cX12_sends 127 = .ok (.iload 6, 2) := by decide +kernel
theorem dX12_sends_129 : decode cX12_sends 129 = .ok (.iadd, 1) := by decide +kernel
theorem dX12_sends_130 : decode cX12_sends 130 = .ok (.iastore, 1) := by decide +kernel
theorem dX12_sends_131 : decode cX12_sends 131 = .ok (.return_, 1) := by decide +kernel
theorem mk_X12_sends : MVk yX12_sends "FairBlocksModel" cX12_sends 7 (Option.none : Option FieldType) 2 := ⟨w_912, w_911, wp_28, w_13, rfl, by decide +kernel, by decide +kernel, by decide +kernel⟩
def BX12_sends_0 (G : Nat → KT) (Q : Option mV → mM → Prop) : KT := (s_iconst (10) (s_iload 2 (s_bin (fun x y => x * y) (s_istore 3 (s_aload 1 (s_iload 3 (s_iconst (5) (s_bin (fun x y => x + y) (s_iald (s_if (fun x => x ≤ 0) (s_at G 17 [true, true, true, true, false, false, false]) (s_iconst (5) (s_at G 18 [true, true, true, true, false, false, false]))))))))))))
set_option maxRecDepth 4000 in
theorem bsX12_sends_0 {p : Program} {l : Launch} {e : Env} {s : State} {m : MethodId} {args : Array Value} {below : List Frame} {meth : Method} {c : Code} {D : va_G} {ca : Nat → ClassId} {ad : Nat → Nat} {A : Nat → Prop} {Q : Option mV → mM → Prop} (hX : CX p s m args meth c 7 cX12_sends "FairBlocksModel" D ca ad A) (hr : meth.sig.returnType = (Option.none : Option FieldType)) : ∀ lv st M, BX12_sends_0 (Gd p l e (rmD 1) s m args below meth c 7 D ca ad A 0 0 (MQ below (QC D ca ad A Q) args s 0 0 A)) Q lv st M → Gd p l e (rmD 1) s m args below meth c 7 D ca ad A 0 0 (MQ below (QC D ca ad A Q) args s 0 0 A) 0 lv st M :=
  (sd_bipush hX dX12_sends_0 rfl (sd_iload_n hX dX12_sends_2 rfl (sd_imul hX dX12_sends_3 (sd_istore_n hX (by decide) dX12_sends_4 rfl (sd_aload_n hX dX12_sends_5 rfl (sd_iload_n hX dX12_sends_6 rfl (sd_iconst hX dX12_sends_7 rfl (sd_iadd hX dX12_sends_8 (sd_iald hX dX12_sends_9 (sd_if_le hX dX12_sends_10 (by decide) sd_at (sd_iconst hX dX12_sends_13 rfl (sd_goto hX dX12_sends_14 (by decide) sd_at))))))))))))
def BX12_sends_17 (G : Nat → KT) (Q : Option mV → mM → Prop) : KT := (s_iconst (4) (s_at G 18 [true, true, true, true, false, false, false]))
set_option maxRecDepth 4000 in
theorem bsX12_sends_17 {p : Program} {l : Launch} {e : Env} {s : State} {m : MethodId} {args : Array Value} {below : List Frame} {meth : Method} {c : Code} {D : va_G} {ca : Nat → ClassId} {ad : Nat → Nat} {A : Nat → Prop} {Q : Option mV → mM → Prop} (hX : CX p s m args meth c 7 cX12_sends "FairBlocksModel" D ca ad A) (hr : meth.sig.returnType = (Option.none : Option FieldType)) : ∀ lv st M, BX12_sends_17 (Gd p l e (rmD 1) s m args below meth c 7 D ca ad A 0 0 (MQ below (QC D ca ad A Q) args s 0 0 A)) Q lv st M → Gd p l e (rmD 1) s m args below meth c 7 D ca ad A 0 0 (MQ below (QC D ca ad A Q) args s 0 0 A) 17 lv st M :=
  (sd_iconst hX dX12_sends_17 rfl sd_at)
def BX12_sends_18 (G : Nat → KT) (Q : Option mV → mM → Prop) : KT := (s_istore 4 (s_aload 0 (s_aload 1 (s_iload 2 (s_callV 12 2 pre_X12_rateOf fn_X12_rateOf (s_istore 5 (s_aload 1 (s_iload 3 (s_iload 4 (s_bin (fun x y => x + y) (s_iald (s_iload 5 (s_icmp (fun x y => y ≤ x) (s_at G 48 [true, true, true, true, true, true, false]) (s_aload 1 (s_iload 3 (s_iload 4 (s_bin (fun x y => x + y) (s_iald (s_at G 50 [true, true, true, true, true, false, false])))))))))))))))))))
set_option maxRecDepth 4000 in
theorem bsX12_sends_18 {p : Program} {l : Launch} {e : Env} {s : State} {m : MethodId} {args : Array Value} {below : List Frame} {meth : Method} {c : Code} {D : va_G} {ca : Nat → ClassId} {ad : Nat → Nat} {A : Nat → Prop} {Q : Option mV → mM → Prop} (hX : CX p s m args meth c 7 cX12_sends "FairBlocksModel" D ca ad A) (hr : meth.sig.returnType = (Option.none : Option FieldType)) : ∀ lv st M, BX12_sends_18 (Gd p l e (rmD 1) s m args below meth c 7 D ca ad A 0 0 (MQ below (QC D ca ad A Q) args s 0 0 A)) Q lv st M → Gd p l e (rmD 1) s m args below meth c 7 D ca ad A 0 0 (MQ below (QC D ca ad A Q) args s 0 0 A) 18 lv st M :=
  (sd_istore hX (by decide) dX12_sends_18 (sd_aload_n hX dX12_sends_20 rfl (sd_aload_n hX dX12_sends_21 rfl (sd_iload_n hX dX12_sends_22 rfl (sd_callV hX (kd := 12) rfl (by decide) (ct_X12_rateOf l) mk_X12_rateOf w_865 ⟨⟨by decide, by decide⟩, by decide, by decide⟩ dX12_sends_23 (sd_istore hX (by decide) dX12_sends_26 (sd_aload_n hX dX12_sends_28 rfl (sd_iload_n hX dX12_sends_29 rfl (sd_iload hX dX12_sends_30 (sd_iadd hX dX12_sends_32 (sd_iald hX dX12_sends_33 (sd_iload hX dX12_sends_34 (sd_icmp_ge hX dX12_sends_36 (by decide) sd_at (sd_aload_n hX dX12_sends_39 rfl (sd_iload_n hX dX12_sends_40 rfl (sd_iload hX dX12_sends_41 (sd_iadd hX dX12_sends_43 (sd_iald hX dX12_sends_44 (sd_goto hX dX12_sends_45 (by decide) sd_at)))))))))))))))))))
def BX12_sends_48 (G : Nat → KT) (Q : Option mV → mM → Prop) : KT := (s_iload 5 (s_at G 50 [true, true, true, true, true, false, false]))
set_option maxRecDepth 4000 in
theorem bsX12_sends_48 {p : Program} {l : Launch} {e : Env} {s : State} {m : MethodId} {args : Array Value} {below : List Frame} {meth : Method} {c : Code} {D : va_G} {ca : Nat → ClassId} {ad : Nat → Nat} {A : Nat → Prop} {Q : Option mV → mM → Prop} (hX : CX p s m args meth c 7 cX12_sends "FairBlocksModel" D ca ad A) (hr : meth.sig.returnType = (Option.none : Option FieldType)) : ∀ lv st M, BX12_sends_48 (Gd p l e (rmD 1) s m args below meth c 7 D ca ad A 0 0 (MQ below (QC D ca ad A Q) args s 0 0 A)) Q lv st M → Gd p l e (rmD 1) s m args below meth c 7 D ca ad A 0 0 (MQ below (QC D ca ad A Q) args s 0 0 A) 48 lv st M :=
  (sd_iload hX dX12_sends_48 sd_at)
def BX12_sends_50 (G : Nat → KT) (Q : Option mV → mM → Prop) : KT := (s_istore 6 (s_aload 1 (s_iload 3 (s_iload 4 (s_bin (fun x y => x + y) (s_dup2 (s_iald (s_iload 6 (s_bin (fun x y => x - y) (s_iast (s_aload 1 (s_iload 3 (s_iconst (8) (s_bin (fun x y => x + y) (s_dup2 (s_iald (s_iconst (1) (s_bin (fun x y => x + y) (s_iast (s_aload 1 (s_iload 3 (s_iconst (2) (s_bin (fun x y => x + y) (s_iald (s_if (fun x => x ≤ 0) (s_at G 109 [true, true, true, true, false, false, true]) (s_aload 1 (s_iload 3 (s_iconst (8) (s_bin (fun x y => x + y) (s_iald (s_aload 1 (s_iload 3 (s_iconst (2) (s_bin (fun x y => x + y) (s_iald (s_binG (fun x y => x - x / y * y) (s_if (fun x => x = 0) ((s_aload 1 (s_iload 3 (s_iconst (5) (s_bin (fun x y => x + y) (s_dup2 (s_iald (s_iload 6 (s_bin (fun x y => x + y) (s_iast (s_at G 131 [false, false, false, false, false, false, false]))))))))))) (s_at G 109 [true, true, true, true, false, false, true]))))))))))))))))))))))))))))))))))))))
set_option maxRecDepth 4000 in
theorem bsX12_sends_50 {p : Program} {l : Launch} {e : Env} {s : State} {m : MethodId} {args : Array Value} {below : List Frame} {meth : Method} {c : Code} {D : va_G} {ca : Nat → ClassId} {ad : Nat → Nat} {A : Nat → Prop} {Q : Option mV → mM → Prop} (hX : CX p s m args meth c 7 cX12_sends "FairBlocksModel" D ca ad A) (hr : meth.sig.returnType = (Option.none : Option FieldType)) : ∀ lv st M, BX12_sends_50 (Gd p l e (rmD 1) s m args below meth c 7 D ca ad A 0 0 (MQ below (QC D ca ad A Q) args s 0 0 A)) Q lv st M → Gd p l e (rmD 1) s m args below meth c 7 D ca ad A 0 0 (MQ below (QC D ca ad A Q) args s 0 0 A) 50 lv st M :=
  (sd_istore hX (by decide) dX12_sends_50 (sd_aload_n hX dX12_sends_52 rfl (sd_iload_n hX dX12_sends_53 rfl (sd_iload hX dX12_sends_54 (sd_iadd hX dX12_sends_56 (sd_dup2 hX dX12_sends_57 (sd_iald hX dX12_sends_58 (sd_iload hX dX12_sends_59 (sd_isub hX dX12_sends_61 (sd_iast hX dX12_sends_62 (sd_aload_n hX dX12_sends_63 rfl (sd_iload_n hX dX12_sends_64 rfl (sd_bipush hX dX12_sends_65 rfl (sd_iadd hX dX12_sends_67 (sd_dup2 hX dX12_sends_68 (sd_iald hX dX12_sends_69 (sd_iconst hX dX12_sends_70 rfl (sd_iadd hX dX12_sends_71 (sd_iast hX dX12_sends_72 (sd_aload_n hX dX12_sends_73 rfl (sd_iload_n hX dX12_sends_74 rfl (sd_iconst hX dX12_sends_75 rfl (sd_iadd hX dX12_sends_76 (sd_iald hX dX12_sends_77 (sd_if_le hX dX12_sends_78 (by decide) sd_at (sd_aload_n hX dX12_sends_81 rfl (sd_iload_n hX dX12_sends_82 rfl (sd_bipush hX dX12_sends_83 rfl (sd_iadd hX dX12_sends_85 (sd_iald hX dX12_sends_86 (sd_aload_n hX dX12_sends_87 rfl (sd_iload_n hX dX12_sends_88 rfl (sd_iconst hX dX12_sends_89 rfl (sd_iadd hX dX12_sends_90 (sd_iald hX dX12_sends_91 (sd_irem hX dX12_sends_92 (sd_if_ne hX dX12_sends_93 (by decide) sd_at (sd_aload_n hX dX12_sends_96 rfl (sd_iload_n hX dX12_sends_97 rfl (sd_iconst hX dX12_sends_98 rfl (sd_iadd hX dX12_sends_99 (sd_dup2 hX dX12_sends_100 (sd_iald hX dX12_sends_101 (sd_iload hX dX12_sends_102 (sd_iadd hX dX12_sends_104 (sd_iast hX dX12_sends_105 (sd_goto hX dX12_sends_106 (by decide) sd_at)))))))))))))))))))))))))))))))))))))))))))))))
def BX12_sends_109 (G : Nat → KT) (Q : Option mV → mM → Prop) : KT := (s_aload 1 (s_iload 3 (s_iconst (9) (s_bin (fun x y => x + y) (s_dup2 (s_iald (s_iload 6 (s_bin (fun x y => x + y) (s_iast (s_aload 0 (s_getr 12 13 (fun _ => 177) (s_iload 2 (s_dup2 (s_iald (s_iload 6 (s_bin (fun x y => x + y) (s_iast (s_at G 131 [false, false, false, false, false, false, false]))))))))))))))))))
set_option maxRecDepth 4000 in
theorem bsX12_sends_109 {p : Program} {l : Launch} {e : Env} {s : State} {m : MethodId} {args : Array Value} {below : List Frame} {meth : Method} {c : Code} {D : va_G} {ca : Nat → ClassId} {ad : Nat → Nat} {A : Nat → Prop} {Q : Option mV → mM → Prop} (hX : CX p s m args meth c 7 cX12_sends "FairBlocksModel" D ca ad A) (hr : meth.sig.returnType = (Option.none : Option FieldType)) : ∀ lv st M, BX12_sends_109 (Gd p l e (rmD 1) s m args below meth c 7 D ca ad A 0 0 (MQ below (QC D ca ad A Q) args s 0 0 A)) Q lv st M → Gd p l e (rmD 1) s m args below meth c 7 D ca ad A 0 0 (MQ below (QC D ca ad A Q) args s 0 0 A) 109 lv st M :=
  (sd_aload_n hX dX12_sends_109 rfl (sd_iload_n hX dX12_sends_110 rfl (sd_bipush hX dX12_sends_111 rfl (sd_iadd hX dX12_sends_113 (sd_dup2 hX dX12_sends_114 (sd_iald hX dX12_sends_115 (sd_iload hX dX12_sends_116 (sd_iadd hX dX12_sends_118 (sd_iast hX dX12_sends_119 (sd_aload_n hX dX12_sends_120 rfl (sd_getr hX fl_754 (fun _ => rfl) (fun _ _ _ => by decide +kernel) dX12_sends_121 (sd_iload_n hX dX12_sends_124 rfl (sd_dup2 hX dX12_sends_125 (sd_iald hX dX12_sends_126 (sd_iload hX dX12_sends_127 (sd_iadd hX dX12_sends_129 (sd_iast hX dX12_sends_130 sd_at)))))))))))))))))
def BX12_sends_131 (G : Nat → KT) (Q : Option mV → mM → Prop) : KT := (s_vret Q)
set_option maxRecDepth 4000 in
theorem bsX12_sends_131 {p : Program} {l : Launch} {e : Env} {s : State} {m : MethodId} {args : Array Value} {below : List Frame} {meth : Method} {c : Code} {D : va_G} {ca : Nat → ClassId} {ad : Nat → Nat} {A : Nat → Prop} {Q : Option mV → mM → Prop} (hX : CX p s m args meth c 7 cX12_sends "FairBlocksModel" D ca ad A) (hr : meth.sig.returnType = (Option.none : Option FieldType)) : ∀ lv st M, BX12_sends_131 (Gd p l e (rmD 1) s m args below meth c 7 D ca ad A 0 0 (MQ below (QC D ca ad A Q) args s 0 0 A)) Q lv st M → Gd p l e (rmD 1) s m args below meth c 7 D ca ad A 0 0 (MQ below (QC D ca ad A Q) args s 0 0 A) 131 lv st M :=
  sd_vret hX hr dX12_sends_131
set_option maxHeartbeats 400000 in
theorem pf_X12_sends (G : Nat → KT) (Q : Option mV → mM → Prop) (h0 : ∀ lv st M, BX12_sends_0 G Q lv st M → G 0 lv st M) (h17 : ∀ lv st M, BX12_sends_17 G Q lv st M → G 17 lv st M) (h18 : ∀ lv st M, BX12_sends_18 G Q lv st M → G 18 lv st M) (h48 : ∀ lv st M, BX12_sends_48 G Q lv st M → G 48 lv st M) (h50 : ∀ lv st M, BX12_sends_50 G Q lv st M → G 50 lv st M) (h109 : ∀ lv st M, BX12_sends_109 G Q lv st M → G 109 lv st M) (h131 : ∀ lv st M, BX12_sends_131 G Q lv st M → G 131 lv st M) (as : List mV) (M : mM) (ho : ∀ v ∈ as, okV v) (hp : pre_X12_sends as M) (hQ : Q (fn_X12_sends as M).1 (fn_X12_sends as M).2) : G 0 (inL as ++ List.replicate (7 - (inL as).length) none) [] M := by
  obtain ⟨c, r, u, rfl, hPM, hPG, U, hU, rfl⟩ := hp
  obtain ⟨hn, -, -⟩ := nM_e hPM
  have hl := PG_l hPG
  have hU5 : U < 5 := by omega
  have eU : (nI U).toNatClampNeg = U := nI_clamp (by omega)
  have x0 : ((10 : Int32) * nI U + 0).toNatClampNeg = 10 * U + 0 := cx hU5 0 (by decide)
  have v0 : vp_in ((10 : Int32) * nI U + 0) 52 := vx hU5 0 (by decide)
  have x1 : ((10 : Int32) * nI U + 1).toNatClampNeg = 10 * U + 1 := cx hU5 1 (by decide)
  have v1 : vp_in ((10 : Int32) * nI U + 1) 52 := vx hU5 1 (by decide)
  have x2 : ((10 : Int32) * nI U + 2).toNatClampNeg = 10 * U + 2 := cx hU5 2 (by decide)
  have v2 : vp_in ((10 : Int32) * nI U + 2) 52 := vx hU5 2 (by decide)
  have x3 : ((10 : Int32) * nI U + 3).toNatClampNeg = 10 * U + 3 := cx hU5 3 (by decide)
  have v3 : vp_in ((10 : Int32) * nI U + 3) 52 := vx hU5 3 (by decide)
  have x4 : ((10 : Int32) * nI U + 4).toNatClampNeg = 10 * U + 4 := cx hU5 4 (by decide)
  have v4 : vp_in ((10 : Int32) * nI U + 4) 52 := vx hU5 4 (by decide)
  have x5 : ((10 : Int32) * nI U + 5).toNatClampNeg = 10 * U + 5 := cx hU5 5 (by decide)
  have v5 : vp_in ((10 : Int32) * nI U + 5) 52 := vx hU5 5 (by decide)
  have x6 : ((10 : Int32) * nI U + 6).toNatClampNeg = 10 * U + 6 := cx hU5 6 (by decide)
  have v6 : vp_in ((10 : Int32) * nI U + 6) 52 := vx hU5 6 (by decide)
  have x7 : ((10 : Int32) * nI U + 7).toNatClampNeg = 10 * U + 7 := cx hU5 7 (by decide)
  have v7 : vp_in ((10 : Int32) * nI U + 7) 52 := vx hU5 7 (by decide)
  have x8 : ((10 : Int32) * nI U + 8).toNatClampNeg = 10 * U + 8 := cx hU5 8 (by decide)
  have v8 : vp_in ((10 : Int32) * nI U + 8) 52 := vx hU5 8 (by decide)
  have x9 : ((10 : Int32) * nI U + 9).toNatClampNeg = 10 * U + 9 := cx hU5 9 (by decide)
  have v9 : vp_in ((10 : Int32) * nI U + 9) 52 := vx hU5 9 (by decide)
  simp only [fn_X12_sends, sds, eU] at hQ
  have main : ∀ (o : Nat) (w : Int32), (o = 4 ∨ o = 5) → w = nI o → Q none (sd2 (sd1 M r U o (sdN M r U o)) r U (sdN M r U o)) → G 18 [some (.inr (.inr (12, c))), some (.inr (.inr (13, r))), some (.inl (nI U)), some (.inl (10 * nI U)), none, none, none] [.inl w] M := by
    intro o w ho5 ew hQ
    have co : ((10 : Int32) * nI U + w).toNatClampNeg = 10 * U + o := by rw [ew]; exact cx hU5 o (by omega)
    have vo : vp_in ((10 : Int32) * nI U + w) 52 := by rw [ew]; exact vx hU5 o (by omega)
    have L50 : ∀ n, n = sdN M r U o → G 50 [some (.inr (.inr (12, c))), some (.inr (.inr (13, r))), some (.inl (nI U)), some (.inl (10 * nI U)), some (.inl w), none, none] [.inl n] M := by
      intro n e
      rw [← e] at hQ
      have E : ∀ M, Q none M → G 131 [none, none, none, none, none, none, none] [] M := by
        intro M hq
        (apply h131; simp only [BX12_sends_131, s_mth, s_mab, s_at, s_iconst, s_lconst, s_iload, s_lload, s_aload, s_istore, s_lstore, s_astore, s_iinc, s_bin, s_binG, s_un, s_lbin, s_lbinG, s_lsh, s_lcmp, s_i2l, s_l2i, s_dup, s_dup2, s_pop, s_if, s_icmp, s_geti, s_getl, s_getr, s_puti, s_putz, s_putl, s_iald, s_zald, s_iast, s_zast, s_aaldS, s_aaldU, s_gets, s_tald, s_tsw, tsw, s_iret, s_zret, s_lret, s_aret, s_vret, s_callV, s_callS, c1, nl1, keepL, csum, pushR, inL, List.getD_cons_zero, List.getD_cons_succ, List.set_cons_zero, List.set_cons_succ, List.cons_append, List.nil_append, List.append_nil, List.replicate, List.length_cons, List.length_nil, List.take_succ_cons, List.take_zero, List.drop_succ_cons, List.drop_zero, List.reverse_cons, List.reverse_nil, true_and, and_true, forall_const, not_true_eq_false, not_false_eq_true, false_implies, true_implies, implies_true, one0, m10, Nat.reduceAdd, Nat.reduceSub, Nat.reduceLeDiff, Nat.zero_add, Nat.add_zero, fn_X12_rateOf])
        exact hq
      have A : Q none (sdA (sd1 M r U o n) r U n) → G 109 [some (.inr (.inr (12, c))), some (.inr (.inr (13, r))), some (.inl (nI U)), some (.inl (10 * nI U)), none, none, some (.inl n)] [] (sd1 M r U o n) := by
        intro hq
        (apply h109; simp only [BX12_sends_109, s_mth, s_mab, s_at, s_iconst, s_lconst, s_iload, s_lload, s_aload, s_istore, s_lstore, s_astore, s_iinc, s_bin, s_binG, s_un, s_lbin, s_lbinG, s_lsh, s_lcmp, s_i2l, s_l2i, s_dup, s_dup2, s_pop, s_if, s_icmp, s_geti, s_getl, s_getr, s_puti, s_putz, s_putl, s_iald, s_zald, s_iast, s_zast, s_aaldS, s_aaldU, s_gets, s_tald, s_tsw, tsw, s_iret, s_zret, s_lret, s_aret, s_vret, s_callV, s_callS, c1, nl1, keepL, csum, pushR, inL, List.getD_cons_zero, List.getD_cons_succ, List.set_cons_zero, List.set_cons_succ, List.cons_append, List.nil_append, List.append_nil, List.replicate, List.length_cons, List.length_nil, List.take_succ_cons, List.take_zero, List.drop_succ_cons, List.drop_zero, List.reverse_cons, List.reverse_nil, true_and, and_true, forall_const, not_true_eq_false, not_false_eq_true, false_implies, true_implies, implies_true, one0, m10, Nat.reduceAdd, Nat.reduceSub, Nat.reduceLeDiff, Nat.zero_add, Nat.add_zero, fn_X12_rateOf])
        simp only [hl, lM, x9, eU]
        exact ⟨v9, v9, vp_in_nI hU5 (by decide), vp_in_nI hU5 (by decide), E _ hq⟩
      unfold sd2 at hQ
      (apply h50; simp only [BX12_sends_50, s_mth, s_mab, s_at, s_iconst, s_lconst, s_iload, s_lload, s_aload, s_istore, s_lstore, s_astore, s_iinc, s_bin, s_binG, s_un, s_lbin, s_lbinG, s_lsh, s_lcmp, s_i2l, s_l2i, s_dup, s_dup2, s_pop, s_if, s_icmp, s_geti, s_getl, s_getr, s_puti, s_putz, s_putl, s_iald, s_zald, s_iast, s_zast, s_aaldS, s_aaldU, s_gets, s_tald, s_tsw, tsw, s_iret, s_zret, s_lret, s_aret, s_vret, s_callV, s_callS, c1, nl1, keepL, csum, pushR, inL, List.getD_cons_zero, List.getD_cons_succ, List.set_cons_zero, List.set_cons_succ, List.cons_append, List.nil_append, List.append_nil, List.replicate, List.length_cons, List.length_nil, List.take_succ_cons, List.take_zero, List.drop_succ_cons, List.drop_zero, List.reverse_cons, List.reverse_nil, true_and, and_true, forall_const, not_true_eq_false, not_false_eq_true, false_implies, true_implies, implies_true, one0, m10, Nat.reduceAdd, Nat.reduceSub, Nat.reduceLeDiff, Nat.zero_add, Nat.add_zero, fn_X12_rateOf])
      simp only [hl, co, x8, x2, x5]
      refine ⟨vo, vo, v8, v8, v2, fun h => ?_, fun h => ⟨v8, v2, ?_, fun h2 => ⟨v5, v5, ?_⟩, fun h2 => ?_⟩⟩
      · have h : (sd1 M r U o n).1 r (10 * U + 2) ≤ 0 := h
        rw [if_pos h] at hQ
        exact A hQ
      · intro g
        rw [g] at h
        exact absurd (by decide) h
      · have h : ¬ (sd1 M r U o n).1 r (10 * U + 2) ≤ 0 := h
        have h2 : rm ((sd1 M r U o n).1 r (10 * U + 8)) ((sd1 M r U o n).1 r (10 * U + 2)) = 0 := h2
        rw [if_neg h, if_pos h2] at hQ
        exact E _ hQ
      · have h : ¬ (sd1 M r U o n).1 r (10 * U + 2) ≤ 0 := h
        have h2 : ¬ rm ((sd1 M r U o n).1 r (10 * U + 8)) ((sd1 M r U o n).1 r (10 * U + 2)) = 0 := h2
        rw [if_neg h, if_neg h2] at hQ
        exact A hQ
    (apply h18; simp only [BX12_sends_18, s_mth, s_mab, s_at, s_iconst, s_lconst, s_iload, s_lload, s_aload, s_istore, s_lstore, s_astore, s_iinc, s_bin, s_binG, s_un, s_lbin, s_lbinG, s_lsh, s_lcmp, s_i2l, s_l2i, s_dup, s_dup2, s_pop, s_if, s_icmp, s_geti, s_getl, s_getr, s_puti, s_putz, s_putl, s_iald, s_zald, s_iast, s_zast, s_aaldS, s_aaldU, s_gets, s_tald, s_tsw, tsw, s_iret, s_zret, s_lret, s_aret, s_vret, s_callV, s_callS, c1, nl1, keepL, csum, pushR, inL, List.getD_cons_zero, List.getD_cons_succ, List.set_cons_zero, List.set_cons_succ, List.cons_append, List.nil_append, List.append_nil, List.replicate, List.length_cons, List.length_nil, List.take_succ_cons, List.take_zero, List.drop_succ_cons, List.drop_zero, List.reverse_cons, List.reverse_nil, true_and, and_true, forall_const, not_true_eq_false, not_false_eq_true, false_implies, true_implies, implies_true, one0, m10, Nat.reduceAdd, Nat.reduceSub, Nat.reduceLeDiff, Nat.zero_add, Nat.add_zero, fn_X12_rateOf])
    simp only [hl, co, eU]
    refine ⟨⟨_, _, _, rfl, hPM, hPG, U, hU, rfl⟩, vo, fun h => ?_, fun h => ⟨vo, ?_⟩⟩
    · (apply h48; simp only [BX12_sends_48, s_mth, s_mab, s_at, s_iconst, s_lconst, s_iload, s_lload, s_aload, s_istore, s_lstore, s_astore, s_iinc, s_bin, s_binG, s_un, s_lbin, s_lbinG, s_lsh, s_lcmp, s_i2l, s_l2i, s_dup, s_dup2, s_pop, s_if, s_icmp, s_geti, s_getl, s_getr, s_puti, s_putz, s_putl, s_iald, s_zald, s_iast, s_zast, s_aaldS, s_aaldU, s_gets, s_tald, s_tsw, tsw, s_iret, s_zret, s_lret, s_aret, s_vret, s_callV, s_callS, c1, nl1, keepL, csum, pushR, inL, List.getD_cons_zero, List.getD_cons_succ, List.set_cons_zero, List.set_cons_succ, List.cons_append, List.nil_append, List.append_nil, List.replicate, List.length_cons, List.length_nil, List.take_succ_cons, List.take_zero, List.drop_succ_cons, List.drop_zero, List.reverse_cons, List.reverse_nil, true_and, and_true, forall_const, not_true_eq_false, not_false_eq_true, false_implies, true_implies, implies_true, one0, m10, Nat.reduceAdd, Nat.reduceSub, Nat.reduceLeDiff, Nat.zero_add, Nat.add_zero, fn_X12_rateOf])
      exact L50 _ (by rw [sdN, if_pos h])
    · exact L50 _ (by rw [sdN, if_neg h])
  (apply h0; simp only [BX12_sends_0, s_mth, s_mab, s_at, s_iconst, s_lconst, s_iload, s_lload, s_aload, s_istore, s_lstore, s_astore, s_iinc, s_bin, s_binG, s_un, s_lbin, s_lbinG, s_lsh, s_lcmp, s_i2l, s_l2i, s_dup, s_dup2, s_pop, s_if, s_icmp, s_geti, s_getl, s_getr, s_puti, s_putz, s_putl, s_iald, s_zald, s_iast, s_zast, s_aaldS, s_aaldU, s_gets, s_tald, s_tsw, tsw, s_iret, s_zret, s_lret, s_aret, s_vret, s_callV, s_callS, c1, nl1, keepL, csum, pushR, inL, List.getD_cons_zero, List.getD_cons_succ, List.set_cons_zero, List.set_cons_succ, List.cons_append, List.nil_append, List.append_nil, List.replicate, List.length_cons, List.length_nil, List.take_succ_cons, List.take_zero, List.drop_succ_cons, List.drop_zero, List.reverse_cons, List.reverse_nil, true_and, and_true, forall_const, not_true_eq_false, not_false_eq_true, false_implies, true_implies, implies_true, one0, m10, Nat.reduceAdd, Nat.reduceSub, Nat.reduceLeDiff, Nat.zero_add, Nat.add_zero, fn_X12_rateOf])
  simp only [hl, x5]
  refine ⟨v5, fun h => ?_, fun h => ?_⟩
  · (apply h17; simp only [BX12_sends_17, s_mth, s_mab, s_at, s_iconst, s_lconst, s_iload, s_lload, s_aload, s_istore, s_lstore, s_astore, s_iinc, s_bin, s_binG, s_un, s_lbin, s_lbinG, s_lsh, s_lcmp, s_i2l, s_l2i, s_dup, s_dup2, s_pop, s_if, s_icmp, s_geti, s_getl, s_getr, s_puti, s_putz, s_putl, s_iald, s_zald, s_iast, s_zast, s_aaldS, s_aaldU, s_gets, s_tald, s_tsw, tsw, s_iret, s_zret, s_lret, s_aret, s_vret, s_callV, s_callS, c1, nl1, keepL, csum, pushR, inL, List.getD_cons_zero, List.getD_cons_succ, List.set_cons_zero, List.set_cons_succ, List.cons_append, List.nil_append, List.append_nil, List.replicate, List.length_cons, List.length_nil, List.take_succ_cons, List.take_zero, List.drop_succ_cons, List.drop_zero, List.reverse_cons, List.reverse_nil, true_and, and_true, forall_const, not_true_eq_false, not_false_eq_true, false_implies, true_implies, implies_true, one0, m10, Nat.reduceAdd, Nat.reduceSub, Nat.reduceLeDiff, Nat.zero_add, Nat.add_zero, fn_X12_rateOf])
    rw [sdO, if_pos h] at hQ
    exact main 4 4 (Or.inl rfl) rfl hQ
  · rw [sdO, if_neg h] at hQ
    exact main 5 5 (Or.inr rfl) rfl hQ
theorem ct_X12_sends (l : Launch) : Con l yX12_sends cX12_sends 7 (Option.none : Option FieldType) 1 pre_X12_sends fn_X12_sends := con_of (by decide +kernel) ok_X12_sends len_X12_sends (fun p e s m args below meth c D ca ad A as M hX hr hp ho => pf_X12_sends _ _ (bsX12_sends_0 hX hr) (bsX12_sends_17 hX hr) (bsX12_sends_18 hX hr) (bsX12_sends_48 hX hr) (bsX12_sends_50 hX hr) (bsX12_sends_109 hX hr) (bsX12_sends_131 hX hr) as M ho hp ⟨rfl, rfl⟩)
theorem PG_mset {M : mM} {r b k j : Nat} {v : Int32} (h : PG M r b) (hk : k ≠ r ∨ j ≠ 51) : PG (mset M k j v) r b := by
  obtain ⟨h1, c, hc, e⟩ := h
  refine ⟨h1, c, hc, ?_⟩
  rw [mset_get, if_neg (by omega)]
  exact e
theorem PG_0 {M : mM} {r b : Nat} (h : PG M r b) : PG M r 0 := by
  obtain ⟨h1, c, hc, e⟩ := h
  exact ⟨h1, c, by omega, e⟩
def PQ (M : mM) (r : Nat) : Prop := PM M ∧ PG M r 0
theorem PQ_mset {M : mM} {r k j : Nat} {v : Int32} (h : PQ M r) (hk : (165 ≤ k ∧ k ≤ 167 ∧ (k ≠ r ∨ j ≠ 51)) ∨ 170 ≤ k) : PQ (mset M k j v) r := by
  have := h.2.1
  exact ⟨PM_mset h.1 (by omega) (by omega), PG_mset h.2 (by omega)⟩
def m1S (r u : Nat) (M : mM) : mM := mset (mset M r (10 * u + 4) (if M.1 r (10 * u + 4) + M.1 r (10 * u + 0) ≤ 999 then M.1 r (10 * u + 4) + M.1 r (10 * u + 0) else 999)) 177 u 0
def m2F (r k : Nat) (h : Int32) (M : mM) : mM := if h = -9 then mset M 176 k h else sds (mset M 176 k h) r h.toNatClampNeg
def m2S (r : Nat) (f : Int32) (k : Nat) (M : mM) : mM := m2F r k (if f = 0 then wh M r k else -9) M
def m3A (M : mM) (r u : Nat) : mM := mset M r (10 * u + 6) (M.1 r (10 * u + 6) + ((16 * M.1 177 u) >>> (M.1 158 5 &&& 31) - M.1 r (10 * u + 6) >>> (M.1 158 5 &&& 31)))
def m3W (M : mM) (r u B : Nat) : Int32 := if hs M (nI u) B = 0 then (if M.1 r (10 * u + 3) = 1 then 0 else if ha M r u = 0 then 0 else M.1 r (10 * u + 7) + 1) else 0
def m3S (r B u : Nat) (q : Int32 × mM) : Int32 × mM := (q.1 + q.2.1 177 u, mset (m3A q.2 r u) r (10 * u + 7) (m3W (m3A q.2 r u) r u B))
def m3F (r : Nat) (q : Int32 × mM) : Int32 × mM := (q.1, mset q.2 r 51 (q.2.1 r 51 + 1))
def bM (M : mM) : Nat := (M.1 158 4).toNatClampNeg
def so (M : mM) (r : Nat) (f : Int32) : Int32 × mM := m3F r (itr (m3S r (bM M)) 0 (nM M) (0, itr (m2S r f) 0 (bM M) (itr (m1S r) 0 (nM M) M)))
theorem sds_n {M : mM} {r u a : Nat} (h1 : a ≠ r) (h2 : a ≠ 177) : (sds M r u).1 a = M.1 a := by
  unfold sds sd2 sdA sd1
  split <;> (try split) <;> simp [mset_n h1, mset_n h2]
theorem sds_51 {M : mM} {r u : Nat} (hu : u < 5) (hr : r ≤ 167) : (sds M r u).1 r 51 = M.1 r 51 := by
  have ho : sdO M r u = 4 ∨ sdO M r u = 5 := by unfold sdO; split <;> simp
  have hr' : r ≠ 177 := by omega
  have h1 : ∀ (M' : mM) (j : Nat) (v : Int32), j ≠ 51 → (mset M' r j v).1 r 51 = M'.1 r 51 := fun M' j v hj => by rw [mset_get, if_neg (by omega)]
  have h2 : ∀ (M' : mM) (j : Nat) (v : Int32), (mset M' 177 j v).1 r 51 = M'.1 r 51 := fun M' j v => by rw [mset_n hr']
  have h3 : ∀ (o : Nat) (n : Int32), (o = 4 ∨ o = 5) → (sd1 M r u o n).1 r 51 = M.1 r 51 := fun o n ho => by
    unfold sd1
    rw [h1 _ _ _ (by omega), h1 _ _ _ (by omega)]
  have h4 : ∀ (M' : mM) (n : Int32), (sdA M' r u n).1 r 51 = M'.1 r 51 := fun M' n => by
    unfold sdA
    rw [h2, h1 _ _ _ (by omega)]
  unfold sds sd2
  split
  · rw [h4, h3 _ _ ho]
  · split
    · rw [h1 _ _ _ (by omega), h3 _ _ ho]
    · rw [h4, h3 _ _ ho]
theorem PQ_sds {M : mM} {r u : Nat} (h : PQ M r) (hu : u < 5) : PQ (sds M r u) r := by
  have hr := h.2.1
  refine ⟨PM_of h.1 ?_ ?_ ?_, ?_⟩
  · rw [sds_n (by omega) (by omega)]
  · rw [sds_n (by omega) (by omega)]
  · exact sds_n (by omega) (by omega)
  · obtain ⟨h1, c, hc, e⟩ := h.2
    exact ⟨h1, c, hc, by rw [sds_51 hu hr.2]; exact e⟩
theorem bM_e {M : mM} (h : PM M) : bM M ≤ 4 ∧ M.1 158 4 = nI (bM M) := by
  obtain ⟨-, B, hB, e⟩ := h
  have : bM M = B := by unfold bM; rw [e, nI_clamp (by omega)]
  rw [this]
  exact ⟨hB, e⟩
theorem PQ_m1 {M : mM} {r u : Nat} (h : PQ M r) (hu : u < 5) : PQ (m1S r u M) r := by
  have := h.2.1
  exact PQ_mset (PQ_mset h (Or.inl ⟨by omega, by omega, by omega⟩)) (Or.inr (by omega))
theorem m1_158 {M : mM} {r u : Nat} (h : PQ M r) : (m1S r u M).1 158 = M.1 158 := by
  have := h.2.1
  unfold m1S
  rw [mset_n (by omega), mset_n (by omega)]
theorem m2_h {M : mM} {r k : Nat} {f : Int32} (h : PQ M r) : (if f = 0 then wh M r k else -9) = -9 ∨ ∃ j, j < nM M ∧ (if f = 0 then wh M r k else -9) = nI j := by
  split
  · exact wh_rng
  · exact Or.inl rfl
theorem PQ_m2F {M : mM} {r k : Nat} {w : Int32} (h : PQ M r) (hw : w = -9 ∨ ∃ j, j < nM M ∧ w = nI j) : PQ (m2F r k w M) r ∧ (m2F r k w M).1 158 = M.1 158 := by
  have hr := h.2.1
  have hn := (nM_e h.1).1
  unfold m2F
  split
  · exact ⟨PQ_mset h (Or.inr (by omega)), mset_n (by decide)⟩
  · next hne =>
    rcases hw with g | ⟨j, hj, rfl⟩
    · exact absurd g hne
    · rw [nI_clamp (by omega)]
      exact ⟨PQ_sds (PQ_mset h (Or.inr (by omega))) (by omega), by rw [sds_n (by omega) (by omega), mset_n (by decide)]⟩
theorem PQ_m2 {M : mM} {r k : Nat} {f : Int32} (h : PQ M r) : PQ (m2S r f k M) r ∧ (m2S r f k M).1 158 = M.1 158 := PQ_m2F h (m2_h h)
theorem PQ_m3A {M : mM} {r u : Nat} (h : PQ M r) (hu : u < 5) : PQ (m3A M r u) r ∧ (m3A M r u).1 158 = M.1 158 := by
  have := h.2.1
  exact ⟨PQ_mset h (Or.inl ⟨by omega, by omega, by omega⟩), mset_n (by omega)⟩
def pre_X12_slotOn (as : List mV) (M : mM) : Prop := ∃ c r f, as = [.inr (.inr (12, c)), .inr (.inr (13, r)), .inl f] ∧ PQ M r
def fn_X12_slotOn : List mV → mM → Option mV × mM
  | [.inr (.inr (_, c)), .inr (.inr (_, r)), .inl f], M => (some (.inl (so M r f).1), (so M r f).2)
  | _, M => (none, M)
theorem ok_X12_slotOn (as : List mV) (M : mM) (h : pre_X12_slotOn as M) (_ : ∀ v ∈ as, okV v) : okR (fn_X12_slotOn as M).1 := by
  obtain ⟨c, r, f, rfl, -⟩ := h
  first | trivial | exact (by decide +kernel : kof 14 = 8)
theorem len_X12_slotOn (as : List mV) (M : mM) (h : pre_X12_slotOn as M) : (inL as).length ≤ 6 := by
  obtain ⟨c, r, f, rfl, -⟩ := h
  exact Nat.le_of_ble_eq_true rfl

theorem fl_727 : FLk "FairBlocksModel" 30 12 4 0 := ⟨RX12, TX12, 32, rfl, inX12, by decide, w_727, by decide, rfl⟩
theorem fl_728 : FLk "FairBlocksModel" 33 12 5 0 := ⟨RX12, TX12, 32, rfl, inX12, by decide, w_728, by decide, rfl⟩
theorem dX12_slotOn_0 : decode cX12_slotOn 0 = .ok (.iconst 0, 1) := by decide +kernel
theorem dX12_slotOn_1 : decode cX12_slotOn 1 = .ok (.istore_n 3, 1) := by decide +kernel
theorem dX12_slotOn_2 : decode cX12_slotOn 2 = .ok (.iload_n 3, 1) := by decide +kernel
theorem dX12_slotOn_3 : decode cX12_slotOn 3 = .ok (.aload_n 0, 1) := by decide +kernel
theorem dX12_slotOn_4 : decode cX12_slotOn 4 = .ok (.getfield 14, 3) := by decide +kernel
theorem dX12_slotOn_7 : decode cX12_slotOn 7 = .ok (.if_icmp .ge 59, 3) := by decide +kernel
theorem dX12_slotOn_10 : decode cX12_slotOn 10 = .ok (.aload_n 1, 1) := by decide +kernel
theorem dX12_slotOn_11 : decode cX12_slotOn 11 = .ok (.bipush 10, 2) := by decide +kernel
theorem dX12_slotOn_13 : decode cX12_slotOn 13 = .ok (.iload_n 3, 1) := by decide +kernel
theorem dX12_slotOn_14 : decode cX12_slotOn 14 = .ok (.imul, 1) := by decide +kernel
theorem dX12_slotOn_15 : decode cX12_slotOn 15 = .ok (.iconst 4, 1) := by decide +kernel
theorem dX12_slotOn_16 : decode cX12_slotOn 16 = .ok (.iadd, 1) := by decide +kernel
theorem dX12_slotOn_17 : decode cX12_slotOn 17 = .ok (.iaload, 1) := by decide +kernel
theorem dX12_slotOn_18 : decode cX12_slotOn 18 = .ok (.aload_n 1, 1) := by decide +kernel
theorem dX12_slotOn_19 : decode cX12_slotOn 19 = .ok (.bipush 10, 2) := by decide +kernel
theorem dX12_slotOn_21 : decode cX12_slotOn 21 = .ok (.iload_n 3, 1) := by decide +kernel
theorem dX12_slotOn_22 : decode cX12_slotOn 22 = .ok (.imul, 1) := by decide +kernel
theorem dX12_slotOn_23 : decode cX12_slotOn 23 = .ok (.iconst 0, 1) := by decide +kernel
theorem dX12_slotOn_24 : decode cX12_slotOn 24 = .ok (.iadd, 1) := by decide +kernel
theorem dX12_slotOn_25 : decode cX12_slotOn 25 = .ok (.iaload, 1) := by decide +kernel
theorem dX12_slotOn_26 : decode cX12_slotOn 26 = .ok (.iadd, 1) := by decide +kernel
theorem dX12_slotOn_27 : decode cX12_slotOn 27 = .ok (.istore 4, 2) := by decide +kernel
theorem dX12_slotOn_29 : decode cX12_slotOn 29 = .ok (.aload_n 1, 1) := by decide +kernel
theorem dX12_slotOn_30 : decode cX12_slotOn 30 = .ok (.bipush 10, 2) := by decide +kernel
theorem dX12_slotOn_32 : decode cX12_slotOn 32 = .ok (.iload_n 3, 1) := by decide +kernel
theorem dX12_slotOn_33 : decode cX12_slotOn 33 = .ok (.imul, 1) := by decide +kernel
theorem dX12_slotOn_34 : decode cX12_slotOn 34 = .ok (.iconst 4, 1) := by decide +kernel
theorem dX12_slotOn_35 : decode cX12_slotOn 35 = .ok (.iadd, 1) := by decide +kernel
theorem dX12_slotOn_36 : decode cX12_slotOn 36 = .ok (.iload 4, 2) := by decide +kernel
theorem dX12_slotOn_38 : decode cX12_slotOn 38 = .ok (.sipush 999, 3) := by decide +kernel
theorem dX12_slotOn_41 : decode cX12_slotOn 41 = .ok (.if_icmp .le 9, 3) := by decide +kernel
theorem dX12_slotOn_44 : decode cX12_slotOn 44 = .ok (.sipush 999, 3) := by decide +kernel
theorem dX12_slotOn_47 : decode cX12_slotOn 47 = .ok (.goto 5, 3) := by decide +kernel
theorem dX12_slotOn_50 : decode cX12_slotOn 50 = .ok (.iload 4, 2) := by decide +kernel
theorem dX12_slotOn_52 : decode cX12_slotOn 52 = .ok (.iastore, 1) := by decide +kernel
theorem dX12_slotOn_53 : decode cX12_slotOn 53 = .ok (.aload_n 0, 1) := by decide +kernel
theorem dX12_slotOn_54 : decode cX12_slotOn 54 = .ok (.getfield 82, 3) := by decide +kernel
theorem dX12_slotOn_57 : decode cX12_slotOn 57 = .ok (.iload_n 3, 1) := by decide +kernel
theorem dX12_slotOn_58 : decode cX12_slotOn 58 = .ok (.iconst 0, 1) := by decide +kernel
theorem dX12_slotOn_59 : decode cX12_slotOn 59 = .ok (.iastore, 1) := by decide +kernel
theorem dX12_slotOn_60 : decode cX12_slotOn 60 = .ok (.iinc 3 1, 3) := by decide +kernel
theorem dX12_slotOn_63 : decode cX12_slotOn 63 = .ok (.goto (-61), 3) := by decide +kernel
theorem dX12_slotOn_66 : decode cX12_slotOn 66 = .ok (.iconst 0, 1) := by decide +kernel
theorem dX12_slotOn_67 : decode cX12_slotOn 67 = .ok (.istore_n 3, 1) := by decide +kernel
theorem dX12_slotOn_68 : decode cX12_slotOn 68 = .ok (.iload_n 3, 1) := by decide +kernel
theorem dX12_slotOn_69 : decode cX12_slotOn 69 = .ok (.aload_n 0, 1) := by decide +kernel
theorem dX12_slotOn_70 : decode cX12_slotOn 70 = .ok (.getfield 30, 3) := by decide +kernel
theorem dX12_slotOn_73 : decode cX12_slotOn 73 = .ok (.if_icmp .ge 52, 3) := by decide +kernel
theorem dX12_slotOn_76 : decode cX12_slotOn 76 = .ok (.aload_n 0, 1) := by decide +kernel
theorem dX12_slotOn_77 : decode cX12_slotOn 77 = .ok (.getfield 79, 3) := by decide +kernel
theorem dX12_slotOn_80 : decode cX12_slotOn 80 = .ok (.iload_n 3, 1) := by decide +kernel
theorem dX12_slotOn_81 : decode cX12_slotOn 81 = .ok (.iload_n 2, 1) := by decide +kernel
theorem dX12_slotOn_82 : decode cX12_slotOn 82 = .ok (.ifCond .eq 8, 3) := by decide +kernel
theorem dX12_slotOn_85 : decode cX12_slotOn 85 = .ok (.bipush (-9), 2) := by decide +kernel
theorem dX12_slotOn_87 : decode cX12_slotOn 87 = .ok (.goto 9, 3) := by decide +kernel
theorem dX12_slotOn_90 : decode cX12_slotOn 90 = .ok (.aload_n 0, 1) := by decide +kernel
theorem dX12_slotOn_91 : decode cX12_slotOn 91 = .ok (.aload_n 1, 1) := by decide +kernel
theorem dX12_slotOn_92 : decode cX12_slotOn 92 = .ok (.iload_n 3, 1) := by decide +kernel
theorem dX12_slotOn_93 : decode cX12_slotOn 93 = .ok (.invokevirtual 145, 3) := by decide +kernel
theorem dX12_slotOn_96 : decode cX12_slotOn 96 = .ok (.iastore, 1) := by decide +kernel
theorem dX12_slotOn_97 : decode cX12_slotOn 97 = .ok (.aload_n 0, 1) := by decide +kernel
theorem dX12_slotOn_98 : decode cX12_slotOn 98 = .ok (.getfield 79, 3) := by decide +kernel
theorem dX12_slotOn_101 : decode cX12_slotOn 101 = .ok (.iload_n 3, 1) := by decide +kernel
theorem dX12_slotOn_102 : decode cX12_slotOn 102 = .ok (.iaload, 1) := by decide +kernel
theorem dX12_slotOn_103 : decode cX12_slotOn 103 = .ok (.bipush (-9), 2) := by decide +kernel
theorem dX12_slotOn_105 : decode cX12_slotOn 105 = .ok (.if_icmp .eq 14, 3) := by decide +kernel
theorem dX12_slotOn_108 : decode cX12_slotOn 108 = .ok (.aload_n 0, 1) := by decide +kernel
theorem dX12_slotOn_109 : decode cX12_slotOn 109 = .ok (.aload_n 1, 1) := by decide +kernel
theorem dX12_slotOn_110 : decode cX12_slotOn 110 = .ok (.aload_n 0, 1) := by decide +kernel
theorem dX12_slotOn_111 : decode cX12_slotOn 111 = .ok (.getfield 79, 3) := by decide +kernel
theorem dX12_slotOn_114 : decode cX12_slotOn 114 = .ok (.iload_n 3, 1) := by decide +kernel
theorem dX12_slotOn_115 : decode cX12_slotOn 115 = .ok (.iaload, 1) := by decide +kernel
theorem dX12_slotOn_116 : decode cX12_slotOn 116 = .ok (.invokevirtual 148, 3) := by decide +kernel
theorem dX12_slotOn_119 : decode cX12_slotOn 119 = .ok (.iinc 3 1, 3) := by decide +kernel
theorem dX12_slotOn_122 : decode cX12_slotOn 122 = .ok (.goto (-54), 3) := by decide +kernel
theorem dX12_slotOn_125 : decode cX12_slotOn 125 = .ok (.iconst 0, 1) := by decide +kernel
theorem dX12_slotOn_126 : decode cX12_slotOn 126 = .ok (.istore_n 3, 1) := by decide +kernel
theorem dX12_slotOn_127 : decode cX12_slotOn 127 = .ok (.iconst 0, 1) := by decide +kernel
theorem dX12_slotOn_128 : decode cX12_slotOn 128 = .ok (.istore 4, 2) := by decide +kernel
theorem dX12_slotOn_130 : decode cX12_slotOn 130 = .ok (.iload 4, 2) := by decide +kernel
theorem dX12_slotOn_132 : decode cX12_slotOn 132 = .ok (.aload_n 0, 1) := by decide +kernel
theorem dX12_slotOn_133 : decode cX12_slotOn 133 = .ok (.getfield 14, 3) := by decide +kernel
theorem dX12_slotOn_136 : decode cX12_slotOn 136 = .ok (.if_icmp .ge 116, 3) := by decide +kernel
theorem dX12_slotOn_139 : decode cX12_slotOn 139 = .ok (.bipush 10, 2) := by decide +kernel
theorem dX12_slotOn_141 : decode cX12_slotOn 141 = .ok (.iload 4, 2) := by decide +kernel
theorem dX12_slotOn_143 : decode cX12_slotOn 143 = .ok (.imul, 1) := by decide +kernel
theorem dX12_slotOn_144 : decode cX12_slotOn 144 = .ok (.istore 5, 2) := by decide +kernel
theorem dX12_slotOn_146 : decode cX12_slotOn 146 = .ok (.iload_n 3, 1) := by decide +kernel
theorem dX12_slotOn_147 : decode cX12_slotOn 147 = .ok (.aload_n 0, 1) := by decide +kernel
theorem dX12_slotOn_148 : decode cX12_slotOn 148 = .ok (.getfield 82, 3) := by decide +kernel
theorem dX12_slotOn_151 : decode cX12_slotOn 151 = .ok (.iload 4, 2) := by decide +kernel
theorem dX12_slotOn_153 : decode cX12_slotOn 153 = .ok (.iaload, 1) := by decide +kernel
theorem dX12_slotOn_154 : decode cX12_slotOn 154 = .ok (.iadd, 1) := by decide +kernel
theorem dX12_slotOn_155 : decode cX12_slotOn 155 = .ok (.istore_n 3, 1) := by decide +kernel
theorem dX12_slotOn_156 : decode cX12_slotOn 156 = .ok (.aload_n 1, 1) := by decide +kernel
theorem dX12_slotOn_157 : decode cX12_slotOn 157 = .ok (.iload 5, 2) := by decide +kernel
theorem dX12_slotOn_159 : decode cX12_slotOn 159 = .ok (.bipush 6, 2) := by decide +kernel
theorem dX12_slotOn_161 : decode cX12_slotOn 161 = .ok (.iadd, 1) := by decide +kernel
theorem dX12_slotOn_162 : decode cX12_slotOn 162 = .ok (.dup2, 1) := by decide +kernel
theorem dX12_slotOn_163 : decode cX12_slotOn 163 = .ok (.iaload, 1) := by decide +kernel
theorem dX12_slotOn_164 : decode cX12_slotOn 164 = .ok (.bipush 16, 2) := by decide +kernel
theorem dX12_slotOn_166 : decode cX12_slotOn 166 = .ok (.aload_n 0, 1) := by decide +kernel
theorem dX12_slotOn_167 : decode cX12_slotOn 167 = .ok (.getfield 82, 3) := by decide +kernel
theorem dX12_slotOn_170 : decode cX12_slotOn 170 = .ok (.iload 4, 2) := by decide +kernel
theorem dX12_slotOn_172 : decode cX12_slotOn 172 = .ok (.iaload, 1) := by decide +kernel
theorem dX12_slotOn_173 : decode cX12_slotOn 173 = .ok (.imul, 1) := by decide +kernel
theorem dX12_slotOn_174 : decode cX12_slotOn 174 = .ok (.aload_n 0, 1) := by decide +kernel
theorem dX12_slotOn_175 : decode cX12_slotOn 175 = .ok (.getfield 33, 3) := by decide +kernel
theorem dX12_slotOn_178 : decode cX12_slotOn 178 = .ok (.ishr, 1) := by decide +kernel
theorem dX12_slotOn_179 : decode cX12_slotOn 179 = .ok (.aload_n 1, 1) := by decide +kernel
theorem dX12_slotOn_180 : decode cX12_slotOn 180 = .ok (.iload 5, 2) := by decide +kernel
theorem dX12_slotOn_182 : decode cX12_slotOn 182 = .ok (.bipush 6, 2) := by decide +kernel
theorem dX12_slotOn_184 : decode cX12_slotOn 184 = .ok (.iadd, 1) := by decide +kernel
theorem dX12_slotOn_185 : decode cX12_slotOn 185 = .ok (.iaload, 1) := by decide +kernel
theorem dX12_slotOn_186 : decode cX12_slotOn 186 = .ok (.aload_n 0, 1) := by decide +kernel
theorem dX12_slotOn_187 : decode cX12_slotOn 187 = .ok (.getfield 33, 3) := by decide +kernel
theorem dX12_slotOn_190 : decode cX12_slotOn 190 = .ok (.ishr, 1) := by decide +kernel
theorem dX12_slotOn_191 : decode cX12_slotOn 191 = .ok (.isub, 1) := by decide +kernel
theorem dX12_slotOn_192 : decode cX12_slotOn 192 = .ok (.iadd, 1) := by decide +kernel
theorem dX12_slotOn_193 : decode cX12_slotOn 193 = .ok (.iastore, 1) := by decide +kernel
theorem dX12_slotOn_194 : decode cX12_slotOn 194 = .ok (.aload_n 1, 1) := by decide +kernel
theorem dX12_slotOn_195 : decode cX12_slotOn 195 = .ok (.iload 5, 2) := by decide +kernel
theorem dX12_slotOn_197 : decode cX12_slotOn 197 = .ok (.bipush 7, 2) := by decide +kernel
theorem dX12_slotOn_199 : decode cX12_slotOn 199 = .ok (.iadd, 1) := by decide +kernel
theorem dX12_slotOn_200 : decode cX12_slotOn 200 = .ok (.aload_n 0, 1) := by decide +kernel
theorem dX12_slotOn_201 : decode cX12_slotOn 201 = .ok (.iload 4, 2) := by decide +kernel
theorem dX12_slotOn_203 : decode cX12_slotOn 203 = .ok (.aload_n 0, 1) := by decide +kernel
theorem dX12_slotOn_204 : decode cX12_slotOn 204 = .ok (.getfield 30, 3) := by decide +kernel
theorem dX12_slotOn_207 : decode cX12_slotOn 207 = .ok (.invokevirtual 131, 3) := by decide +kernel
theorem dX12_slotOn_210 : decode cX12_slotOn 210 = .ok (.ifCond .ne 22, 3) := by decide +kernel
theorem dX12_slotOn_213 : decode cX12_slotOn 213 = .ok (.aload_n 1, 1) := by decide +kernel
theorem dX12_slotOn_214 : decode cX12_slotOn 214 = .ok (.iload 5, 2) := by decide +kernel
theorem dX12_slotOn_216 : decode cX12_slotOn 216 = .ok (.iconst 3, 1) := by decide +kernel
theorem dX12_slotOn_217 : decode cX12_slotOn 217 = .ok (.iadd, 1) := by decide +kernel
theorem dX12_slotOn_218 : decode cX12_slotOn 218 = .ok (.iaload, 1) := by decide +kernel
theorem dX12_slotOn_219 : decode cX12_slotOn 219 = .ok (.iconst 1, 1) := by decide +kernel
theorem dX12_slotOn_220 : decode cX12_slotOn 220 = .ok (.if_icmp .eq 12, 3) := by decide +kernel
theorem dX12_slotOn_223 : decode cX12_slotOn 223 = .ok (.aload_n 1, 1) := by decide +kernel
theorem dX12_slotOn_224 : decode cX12_slotOn 224 = .ok (.iload 4, 2) := by decide +kernel
theorem dX12_slotOn_226 : decode cX12_slotOn 226 = .ok (.invokestatic 127, 3) := by decide +kernel
theorem dX12_slotOn_229 : decode cX12_slotOn 229 = .ok (.ifCond .ne 7, 3) := by decide +kernel
theorem dX12_slotOn_232 : decode cX12_slotOn 232 = .ok (.iconst 0, 1) := by decide +kernel
theorem dX12_slotOn_233 : decode cX12_slotOn 233 = .ok (.goto 12, 3) := by decide +kernel
theorem dX12_slotOn_236 : decode cX12_slotOn 236 = .ok (.aload_n 1, 1) := by decide +kernel
theorem dX12_slotOn_237 : decode cX12_slotOn 237 = .ok (.iload 5, 2) := by decide +kernel
theorem dX12_slotOn_239 : decode cX12_slotOn 239 = .ok (.bipush 7, 2) := by decide +kernel
theorem dX12_slotOn_241 : decode cX12_slotOn 241 = .ok (.iadd, 1) := by decide +kernel
theorem dX12_slotOn_242 : decode cX12_slotOn 242 = .ok (.iaload, 1) := by decide +kernel
theorem dX12_slotOn_243 : decode cX12_slotOn 243 = .ok (.iconst 1, 1) := by decide +kernel
theorem dX12_slotOn_244 : decode cX12_slotOn 244 = .ok (.iadd, 1) := by decide +kernel
theorem dX12_slotOn_245 : decode cX12_slotOn 245 = .ok (.iastore, 1) := by decide +kernel
theorem dX12_slotOn_246 : decode cX12_slotOn 246 = .ok (.iinc 4 1, 3) := by decide +kernel
theorem dX12_slotOn_249 : decode cX12_slotOn 249 = .ok (.goto (-119), 3) := by decide +kernel
theorem dX12_slotOn_252 : decode cX12_slotOn 252 = .ok (.aload_n 1, 1) := by decide +kernel
theorem dX12_slotOn_253 : decode cX12_slotOn 253 = .ok (.bipush 51, 2) := by decide +kernel
theorem dX12_slotOn_255 : decode cX12_slotOn 255 = .ok (.dup2, 1) := by decide +kernel
theorem dX12_slotOn_256 : decode cX12_slotOn 256 = .ok (.iaload, 1) := by decide +kernel
theorem dX12_slotOn_257 : decode cX12_slotOn 257 = .ok (.iconst 1, 1) := by decide +kernel
theorem dX12_slotOn_258 : decode cX12_slotOn 258 = .ok (.iadd, 1) := by decide +kernel
theorem dX12_slotOn_259 : decode cX12_slotOn 259 = .ok (.iastore, 1) := by decide +kernel
theorem dX12_slotOn_260 : decode cX12_slotOn 260 = .ok (.iload_n 3, 1) := by decide +kernel
theorem dX12_slotOn_261 : decode cX12_slotOn 261 = .ok (.ireturn, 1) := by decide +kernel
theorem mk_X12_slotOn : MVk yX12_slotOn "FairBlocksModel" cX12_slotOn 6 (Option.some FieldType.int) 2 := ⟨w_885, w_884, wp_22, w_13, rfl, by decide +kernel, by decide +kernel, by decide +kernel⟩
def BX12_slotOn_0 (G : Nat → KT) (Q : Option mV → mM → Prop) : KT := (s_iconst (0) (s_istore 3 (s_at G 2 [true, true, true, true, false, false])))
set_option maxRecDepth 4000 in
theorem bsX12_slotOn_0 {p : Program} {l : Launch} {e : Env} {s : State} {m : MethodId} {args : Array Value} {below : List Frame} {meth : Method} {c : Code} {D : va_G} {ca : Nat → ClassId} {ad : Nat → Nat} {A : Nat → Prop} {Q : Option mV → mM → Prop} (hX : CX p s m args meth c 6 cX12_slotOn "FairBlocksModel" D ca ad A) (hr : meth.sig.returnType = (Option.some FieldType.int)) : ∀ lv st M, BX12_slotOn_0 (Gd p l e (rmD 3) s m args below meth c 6 D ca ad A 0 0 (MQ below (QC D ca ad A Q) args s 0 0 A)) Q lv st M → Gd p l e (rmD 3) s m args below meth c 6 D ca ad A 0 0 (MQ below (QC D ca ad A Q) args s 0 0 A) 0 lv st M :=
  (sd_iconst hX dX12_slotOn_0 rfl (sd_istore_n hX (by decide) dX12_slotOn_1 rfl sd_at))
def BX12_slotOn_2 (G : Nat → KT) (Q : Option mV → mM → Prop) : KT := (s_iload 3 (s_aload 0 (s_geti 12 6 (s_icmp (fun x y => y ≤ x) (s_at G 66 [true, true, true, false, false, false]) (s_aload 1 (s_iconst (10) (s_iload 3 (s_bin (fun x y => x * y) (s_iconst (4) (s_bin (fun x y => x + y) (s_iald (s_aload 1 (s_iconst (10) (s_iload 3 (s_bin (fun x y => x * y) (s_iconst (0) (s_bin (fun x y => x + y) (s_iald (s_bin (fun x y => x + y) (s_istore 4 (s_aload 1 (s_iconst (10) (s_iload 3 (s_bin (fun x y => x * y) (s_iconst (4) (s_bin (fun x y => x + y) (s_iload 4 (s_iconst (999) (s_icmp (fun x y => x ≤ y) (s_at G 50 [true, true, true, true, true, false]) (s_iconst (999) (s_at G 52 [true, true, true, true, false, false])))))))))))))))))))))))))))))))
set_option maxRecDepth 4000 in
theorem bsX12_slotOn_2 {p : Program} {l : Launch} {e : Env} {s : State} {m : MethodId} {args : Array Value} {below : List Frame} {meth : Method} {c : Code} {D : va_G} {ca : Nat → ClassId} {ad : Nat → Nat} {A : Nat → Prop} {Q : Option mV → mM → Prop} (hX : CX p s m args meth c 6 cX12_slotOn "FairBlocksModel" D ca ad A) (hr : meth.sig.returnType = (Option.some FieldType.int)) : ∀ lv st M, BX12_slotOn_2 (Gd p l e (rmD 3) s m args below meth c 6 D ca ad A 0 0 (MQ below (QC D ca ad A Q) args s 0 0 A)) Q lv st M → Gd p l e (rmD 3) s m args below meth c 6 D ca ad A 0 0 (MQ below (QC D ca ad A Q) args s 0 0 A) 2 lv st M :=
  (sd_iload_n hX dX12_slotOn_2 rfl (sd_aload_n hX dX12_slotOn_3 rfl (sd_geti hX fl_729 (by decide) dX12_slotOn_4 (sd_icmp_ge hX dX12_slotOn_7 (by decide) sd_at (sd_aload_n hX dX12_slotOn_10 rfl (sd_bipush hX dX12_slotOn_11 rfl (sd_iload_n hX dX12_slotOn_13 rfl (sd_imul hX dX12_slotOn_14 (sd_iconst hX dX12_slotOn_15 rfl (sd_iadd hX dX12_slotOn_16 (sd_iald hX dX12_slotOn_17 (sd_aload_n hX dX12_slotOn_18 rfl (sd_bipush hX dX12_slotOn_19 rfl (sd_iload_n hX dX12_slotOn_21 rfl (sd_imul hX dX12_slotOn_22 (sd_iconst hX dX12_slotOn_23 rfl (sd_iadd hX dX12_slotOn_24 (sd_iald hX dX12_slotOn_25 (sd_iadd hX dX12_slotOn_26 (sd_istore hX (by decide) dX12_slotOn_27 (sd_aload_n hX dX12_slotOn_29 rfl (sd_bipush hX dX12_slotOn_30 rfl (sd_iload_n hX dX12_slotOn_32 rfl (sd_imul hX dX12_slotOn_33 (sd_iconst hX dX12_slotOn_34 rfl (sd_iadd hX dX12_slotOn_35 (sd_iload hX dX12_slotOn_36 (sd_sipush hX dX12_slotOn_38 rfl (sd_icmp_le hX dX12_slotOn_41 (by decide) sd_at (sd_sipush hX dX12_slotOn_44 rfl (sd_goto hX dX12_slotOn_47 (by decide) sd_at)))))))))))))))))))))))))))))))
def BX12_slotOn_50 (G : Nat → KT) (Q : Option mV → mM → Prop) : KT := (s_iload 4 (s_at G 52 [true, true, true, true, false, false]))
set_option maxRecDepth 4000 in
theorem bsX12_slotOn_50 {p : Program} {l : Launch} {e : Env} {s : State} {m : MethodId} {args : Array Value} {below : List Frame} {meth : Method} {c : Code} {D : va_G} {ca : Nat → ClassId} {ad : Nat → Nat} {A : Nat → Prop} {Q : Option mV → mM → Prop} (hX : CX p s m args meth c 6 cX12_slotOn "FairBlocksModel" D ca ad A) (hr : meth.sig.returnType = (Option.some FieldType.int)) : ∀ lv st M, BX12_slotOn_50 (Gd p l e (rmD 3) s m args below meth c 6 D ca ad A 0 0 (MQ below (QC D ca ad A Q) args s 0 0 A)) Q lv st M → Gd p l e (rmD 3) s m args below meth c 6 D ca ad A 0 0 (MQ below (QC D ca ad A Q) args s 0 0 A) 50 lv st M :=
  (sd_iload hX dX12_slotOn_50 sd_at)
def BX12_slotOn_52 (G : Nat → KT) (Q : Option mV → mM → Prop) : KT := (s_iast (s_aload 0 (s_getr 12 13 (fun _ => 177) (s_iload 3 (s_iconst (0) (s_iast (s_iinc 3 (1) (s_at G 2 [true, true, true, true, false, false]))))))))
set_option maxRecDepth 4000 in
theorem bsX12_slotOn_52 {p : Program} {l : Launch} {e : Env} {s : State} {m : MethodId} {args : Array Value} {below : List Frame} {meth : Method} {c : Code} {D : va_G} {ca : Nat → ClassId} {ad : Nat → Nat} {A : Nat → Prop} {Q : Option mV → mM → Prop} (hX : CX p s m args meth c 6 cX12_slotOn "FairBlocksModel" D ca ad A) (hr : meth.sig.returnType = (Option.some FieldType.int)) : ∀ lv st M, BX12_slotOn_52 (Gd p l e (rmD 3) s m args below meth c 6 D ca ad A 0 0 (MQ below (QC D ca ad A Q) args s 0 0 A)) Q lv st M → Gd p l e (rmD 3) s m args below meth c 6 D ca ad A 0 0 (MQ below (QC D ca ad A Q) args s 0 0 A) 52 lv st M :=
  (sd_iast hX dX12_slotOn_52 (sd_aload_n hX dX12_slotOn_53 rfl (sd_getr hX fl_754 (fun _ => rfl) (fun _ _ _ => by decide +kernel) dX12_slotOn_54 (sd_iload_n hX dX12_slotOn_57 rfl (sd_iconst hX dX12_slotOn_58 rfl (sd_iast hX dX12_slotOn_59 (sd_iinc hX (by decide) dX12_slotOn_60 rfl (sd_goto hX dX12_slotOn_63 (by decide) sd_at))))))))
def BX12_slotOn_66 (G : Nat → KT) (Q : Option mV → mM → Prop) : KT := (s_iconst (0) (s_istore 3 (s_at G 68 [true, true, true, true, false, false])))
set_option maxRecDepth 4000 in
theorem bsX12_slotOn_66 {p : Program} {l : Launch} {e : Env} {s : State} {m : MethodId} {args : Array Value} {below : List Frame} {meth : Method} {c : Code} {D : va_G} {ca : Nat → ClassId} {ad : Nat → Nat} {A : Nat → Prop} {Q : Option mV → mM → Prop} (hX : CX p s m args meth c 6 cX12_slotOn "FairBlocksModel" D ca ad A) (hr : meth.sig.returnType = (Option.some FieldType.int)) : ∀ lv st M, BX12_slotOn_66 (Gd p l e (rmD 3) s m args below meth c 6 D ca ad A 0 0 (MQ below (QC D ca ad A Q) args s 0 0 A)) Q lv st M → Gd p l e (rmD 3) s m args below meth c 6 D ca ad A 0 0 (MQ below (QC D ca ad A Q) args s 0 0 A) 66 lv st M :=
  (sd_iconst hX dX12_slotOn_66 rfl (sd_istore_n hX (by decide) dX12_slotOn_67 rfl sd_at))
def BX12_slotOn_68 (G : Nat → KT) (Q : Option mV → mM → Prop) : KT := (s_iload 3 (s_aload 0 (s_geti 12 4 (s_icmp (fun x y => y ≤ x) (s_at G 125 [true, true, false, false, false, false]) (s_aload 0 (s_getr 12 13 (fun _ => 176) (s_iload 3 (s_iload 2 (s_if (fun x => x = 0) (s_at G 90 [true, true, true, true, false, false]) (s_iconst (-9) (s_at G 96 [true, true, true, true, false, false])))))))))))
set_option maxRecDepth 4000 in
theorem bsX12_slotOn_68 {p : Program} {l : Launch} {e : Env} {s : State} {m : MethodId} {args : Array Value} {below : List Frame} {meth : Method} {c : Code} {D : va_G} {ca : Nat → ClassId} {ad : Nat → Nat} {A : Nat → Prop} {Q : Option mV → mM → Prop} (hX : CX p s m args meth c 6 cX12_slotOn "FairBlocksModel" D ca ad A) (hr : meth.sig.returnType = (Option.some FieldType.int)) : ∀ lv st M, BX12_slotOn_68 (Gd p l e (rmD 3) s m args below meth c 6 D ca ad A 0 0 (MQ below (QC D ca ad A Q) args s 0 0 A)) Q lv st M → Gd p l e (rmD 3) s m args below meth c 6 D ca ad A 0 0 (MQ below (QC D ca ad A Q) args s 0 0 A) 68 lv st M :=
  (sd_iload_n hX dX12_slotOn_68 rfl (sd_aload_n hX dX12_slotOn_69 rfl (sd_geti hX fl_727 (by decide) dX12_slotOn_70 (sd_icmp_ge hX dX12_slotOn_73 (by decide) sd_at (sd_aload_n hX dX12_slotOn_76 rfl (sd_getr hX fl_753 (fun _ => rfl) (fun _ _ _ => by decide +kernel) dX12_slotOn_77 (sd_iload_n hX dX12_slotOn_80 rfl (sd_iload_n hX dX12_slotOn_81 rfl (sd_if_eq hX dX12_slotOn_82 (by decide) sd_at (sd_bipush hX dX12_slotOn_85 rfl (sd_goto hX dX12_slotOn_87 (by decide) sd_at)))))))))))
def BX12_slotOn_90 (G : Nat → KT) (Q : Option mV → mM → Prop) : KT := (s_aload 0 (s_aload 1 (s_iload 3 (s_callV 12 2 pre_X12_whoHas fn_X12_whoHas (s_at G 96 [true, true, true, true, false, false])))))
set_option maxRecDepth 4000 in
theorem bsX12_slotOn_90 {p : Program} {l : Launch} {e : Env} {s : State} {m : MethodId} {args : Array Value} {below : List Frame} {meth : Method} {c : Code} {D : va_G} {ca : Nat → ClassId} {ad : Nat → Nat} {A : Nat → Prop} {Q : Option mV → mM → Prop} (hX : CX p s m args meth c 6 cX12_slotOn "FairBlocksModel" D ca ad A) (hr : meth.sig.returnType = (Option.some FieldType.int)) : ∀ lv st M, BX12_slotOn_90 (Gd p l e (rmD 3) s m args below meth c 6 D ca ad A 0 0 (MQ below (QC D ca ad A Q) args s 0 0 A)) Q lv st M → Gd p l e (rmD 3) s m args below meth c 6 D ca ad A 0 0 (MQ below (QC D ca ad A Q) args s 0 0 A) 90 lv st M :=
  (sd_aload_n hX dX12_slotOn_90 rfl (sd_aload_n hX dX12_slotOn_91 rfl (sd_iload_n hX dX12_slotOn_92 rfl (sd_callV hX (kd := 12) rfl (by decide) (ct_X12_whoHas l) mk_X12_whoHas w_886 ⟨⟨by decide, by decide⟩, by decide, by decide⟩ dX12_slotOn_93 sd_at))))
def BX12_slotOn_96 (G : Nat → KT) (Q : Option mV → mM → Prop) : KT := (s_iast (s_aload 0 (s_getr 12 13 (fun _ => 176) (s_iload 3 (s_iald (s_iconst (-9) (s_icmp (fun x y => x = y) (s_at G 119 [true, true, true, true, false, false]) (s_aload 0 (s_aload 1 (s_aload 0 (s_getr 12 13 (fun _ => 176) (s_iload 3 (s_iald (s_callV 12 2 pre_X12_sends fn_X12_sends (s_at G 119 [true, true, true, true, false, false])))))))))))))))
set_option maxRecDepth 4000 in
theorem bsX12_slotOn_96 {p : Program} {l : Launch} {e : Env} {s : State} {m : MethodId} {args : Array Value} {below : List Frame} {meth : Method} {c : Code} {D : va_G} {ca : Nat → ClassId} {ad : Nat → Nat} {A : Nat → Prop} {Q : Option mV → mM → Prop} (hX : CX p s m args meth c 6 cX12_slotOn "FairBlocksModel" D ca ad A) (hr : meth.sig.returnType = (Option.some FieldType.int)) : ∀ lv st M, BX12_slotOn_96 (Gd p l e (rmD 3) s m args below meth c 6 D ca ad A 0 0 (MQ below (QC D ca ad A Q) args s 0 0 A)) Q lv st M → Gd p l e (rmD 3) s m args below meth c 6 D ca ad A 0 0 (MQ below (QC D ca ad A Q) args s 0 0 A) 96 lv st M :=
  (sd_iast hX dX12_slotOn_96 (sd_aload_n hX dX12_slotOn_97 rfl (sd_getr hX fl_753 (fun _ => rfl) (fun _ _ _ => by decide +kernel) dX12_slotOn_98 (sd_iload_n hX dX12_slotOn_101 rfl (sd_iald hX dX12_slotOn_102 (sd_bipush hX dX12_slotOn_103 rfl (sd_icmp_eq hX dX12_slotOn_105 (by decide) sd_at (sd_aload_n hX dX12_slotOn_108 rfl (sd_aload_n hX dX12_slotOn_109 rfl (sd_aload_n hX dX12_slotOn_110 rfl (sd_getr hX fl_753 (fun _ => rfl) (fun _ _ _ => by decide +kernel) dX12_slotOn_111 (sd_iload_n hX dX12_slotOn_114 rfl (sd_iald hX dX12_slotOn_115 (sd_callV hX (kd := 12) rfl (by decide) (ct_X12_sends l) mk_X12_sends w_909 ⟨⟨by decide, by decide⟩, by decide, by decide⟩ dX12_slotOn_116 sd_at))))))))))))))
def BX12_slotOn_119 (G : Nat → KT) (Q : Option mV → mM → Prop) : KT := (s_iinc 3 (1) (s_at G 68 [true, true, true, true, false, false]))
set_option maxRecDepth 4000 in
theorem bsX12_slotOn_119 {p : Program} {l : Launch} {e : Env} {s : State} {m : MethodId} {args : Array Value} {below : List Frame} {meth : Method} {c : Code} {D : va_G} {ca : Nat → ClassId} {ad : Nat → Nat} {A : Nat → Prop} {Q : Option mV → mM → Prop} (hX : CX p s m args meth c 6 cX12_slotOn "FairBlocksModel" D ca ad A) (hr : meth.sig.returnType = (Option.some FieldType.int)) : ∀ lv st M, BX12_slotOn_119 (Gd p l e (rmD 3) s m args below meth c 6 D ca ad A 0 0 (MQ below (QC D ca ad A Q) args s 0 0 A)) Q lv st M → Gd p l e (rmD 3) s m args below meth c 6 D ca ad A 0 0 (MQ below (QC D ca ad A Q) args s 0 0 A) 119 lv st M :=
  (sd_iinc hX (by decide) dX12_slotOn_119 rfl (sd_goto hX dX12_slotOn_122 (by decide) sd_at))
def BX12_slotOn_125 (G : Nat → KT) (Q : Option mV → mM → Prop) : KT := (s_iconst (0) (s_istore 3 (s_iconst (0) (s_istore 4 (s_at G 130 [true, true, false, true, true, false])))))
set_option maxRecDepth 4000 in
theorem bsX12_slotOn_125 {p : Program} {l : Launch} {e : Env} {s : State} {m : MethodId} {args : Array Value} {below : List Frame} {meth : Method} {c : Code} {D : va_G} {ca : Nat → ClassId} {ad : Nat → Nat} {A : Nat → Prop} {Q : Option mV → mM → Prop} (hX : CX p s m args meth c 6 cX12_slotOn "FairBlocksModel" D ca ad A) (hr : meth.sig.returnType = (Option.some FieldType.int)) : ∀ lv st M, BX12_slotOn_125 (Gd p l e (rmD 3) s m args below meth c 6 D ca ad A 0 0 (MQ below (QC D ca ad A Q) args s 0 0 A)) Q lv st M → Gd p l e (rmD 3) s m args below meth c 6 D ca ad A 0 0 (MQ below (QC D ca ad A Q) args s 0 0 A) 125 lv st M :=
  (sd_iconst hX dX12_slotOn_125 rfl (sd_istore_n hX (by decide) dX12_slotOn_126 rfl (sd_iconst hX dX12_slotOn_127 rfl (sd_istore hX (by decide) dX12_slotOn_128 sd_at))))
def BX12_slotOn_130 (G : Nat → KT) (Q : Option mV → mM → Prop) : KT := (s_iload 4 (s_aload 0 (s_geti 12 6 (s_icmp (fun x y => y ≤ x) (s_at G 252 [false, true, false, true, false, false]) (s_iconst (10) (s_iload 4 (s_bin (fun x y => x * y) (s_istore 5 (s_iload 3 (s_aload 0 (s_getr 12 13 (fun _ => 177) (s_iload 4 (s_iald (s_bin (fun x y => x + y) (s_istore 3 (s_aload 1 (s_iload 5 (s_iconst (6) (s_bin (fun x y => x + y) (s_dup2 (s_iald (s_iconst (16) (s_aload 0 (s_getr 12 13 (fun _ => 177) (s_iload 4 (s_iald (s_bin (fun x y => x * y) (s_aload 0 (s_geti 12 5 (s_bin (fun x y => x >>> (y &&& 31)) (s_aload 1 (s_iload 5 (s_iconst (6) (s_bin (fun x y => x + y) (s_iald (s_aload 0 (s_geti 12 5 (s_bin (fun x y => x >>> (y &&& 31)) (s_bin (fun x y => x - y) (s_bin (fun x y => x + y) (s_iast (s_aload 1 (s_iload 5 (s_iconst (7) (s_bin (fun x y => x + y) (s_aload 0 (s_iload 4 (s_aload 0 (s_geti 12 4 (s_callV 12 2 pre_X12_hadSome fn_X12_hadSome (s_if (fun x => x = 0) ((s_aload 1 (s_iload 5 (s_iconst (3) (s_bin (fun x y => x + y) (s_iald (s_iconst (1) (s_icmp (fun x y => x = y) (s_at G 232 [true, true, false, true, true, false]) (s_aload 1 (s_iload 4 (s_callS 2 pre_X12_hasAny fn_X12_hasAny (s_if (fun x => x = 0) ((s_at G 232 [true, true, false, true, true, false])) (s_at G 236 [true, true, false, true, true, true]))))))))))))) (s_at G 232 [true, true, false, true, true, false]))))))))))))))))))))))))))))))))))))))))))))))))))))
set_option maxRecDepth 4000 in
theorem bsX12_slotOn_130 {p : Program} {l : Launch} {e : Env} {s : State} {m : MethodId} {args : Array Value} {below : List Frame} {meth : Method} {c : Code} {D : va_G} {ca : Nat → ClassId} {ad : Nat → Nat} {A : Nat → Prop} {Q : Option mV → mM → Prop} (hX : CX p s m args meth c 6 cX12_slotOn "FairBlocksModel" D ca ad A) (hr : meth.sig.returnType = (Option.some FieldType.int)) : ∀ lv st M, BX12_slotOn_130 (Gd p l e (rmD 3) s m args below meth c 6 D ca ad A 0 0 (MQ below (QC D ca ad A Q) args s 0 0 A)) Q lv st M → Gd p l e (rmD 3) s m args below meth c 6 D ca ad A 0 0 (MQ below (QC D ca ad A Q) args s 0 0 A) 130 lv st M :=
  (sd_iload hX dX12_slotOn_130 (sd_aload_n hX dX12_slotOn_132 rfl (sd_geti hX fl_729 (by decide) dX12_slotOn_133 (sd_icmp_ge hX dX12_slotOn_136 (by decide) sd_at (sd_bipush hX dX12_slotOn_139 rfl (sd_iload hX dX12_slotOn_141 (sd_imul hX dX12_slotOn_143 (sd_istore hX (by decide) dX12_slotOn_144 (sd_iload_n hX dX12_slotOn_146 rfl (sd_aload_n hX dX12_slotOn_147 rfl (sd_getr hX fl_754 (fun _ => rfl) (fun _ _ _ => by decide +kernel) dX12_slotOn_148 (sd_iload hX dX12_slotOn_151 (sd_iald hX dX12_slotOn_153 (sd_iadd hX dX12_slotOn_154 (sd_istore_n hX (by decide) dX12_slotOn_155 rfl (sd_aload_n hX dX12_slotOn_156 rfl (sd_iload hX dX12_slotOn_157 (sd_bipush hX dX12_slotOn_159 rfl (sd_iadd hX dX12_slotOn_161 (sd_dup2 hX dX12_slotOn_162 (sd_iald hX dX12_slotOn_163 (sd_bipush hX dX12_slotOn_164 rfl (sd_aload_n hX dX12_slotOn_166 rfl (sd_getr hX fl_754 (fun _ => rfl) (fun _ _ _ => by decide +kernel) dX12_slotOn_167 (sd_iload hX dX12_slotOn_170 (sd_iald hX dX12_slotOn_172 (sd_imul hX dX12_slotOn_173 (sd_aload_n hX dX12_slotOn_174 rfl (sd_geti hX fl_728 (by decide) dX12_slotOn_175 (sd_ishr hX dX12_slotOn_178 (sd_aload_n hX dX12_slotOn_179 rfl (sd_iload hX dX12_slotOn_180 (sd_bipush hX dX12_slotOn_182 rfl (sd_iadd hX dX12_slotOn_184 (sd_iald hX dX12_slotOn_185 (sd_aload_n hX dX12_slotOn_186 rfl (sd_geti hX fl_728 (by decide) dX12_slotOn_187 (sd_ishr hX dX12_slotOn_190 (sd_isub hX dX12_slotOn_191 (sd_iadd hX dX12_slotOn_192 (sd_iast hX dX12_slotOn_193 (sd_aload_n hX dX12_slotOn_194 rfl (sd_iload hX dX12_slotOn_195 (sd_bipush hX dX12_slotOn_197 rfl (sd_iadd hX dX12_slotOn_199 (sd_aload_n hX dX12_slotOn_200 rfl (sd_iload hX dX12_slotOn_201 (sd_aload_n hX dX12_slotOn_203 rfl (sd_geti hX fl_727 (by decide) dX12_slotOn_204 (sd_callV hX (kd := 12) rfl (by decide) (ct_X12_hadSome l) mk_X12_hadSome w_897 ⟨⟨by decide, by decide⟩, by decide, by decide⟩ dX12_slotOn_207 (sd_if_ne hX dX12_slotOn_210 (by decide) sd_at (sd_aload_n hX dX12_slotOn_213 rfl (sd_iload hX dX12_slotOn_214 (sd_iconst hX dX12_slotOn_216 rfl (sd_iadd hX dX12_slotOn_217 (sd_iald hX dX12_slotOn_218 (sd_iconst hX dX12_slotOn_219 rfl (sd_icmp_eq hX dX12_slotOn_220 (by decide) sd_at (sd_aload_n hX dX12_slotOn_223 rfl (sd_iload hX dX12_slotOn_224 (sd_callS hX (ct_X12_hasAny l) mk_X12_hasAny w_894 ⟨⟨by decide, by decide⟩, by decide, by decide⟩ dX12_slotOn_226 (sd_if_ne hX dX12_slotOn_229 (by decide) sd_at sd_at))))))))))))))))))))))))))))))))))))))))))))))))))))))))))))))
def BX12_slotOn_232 (G : Nat → KT) (Q : Option mV → mM → Prop) : KT := (s_iconst (0) (s_at G 245 [true, true, false, true, true, false]))
set_option maxRecDepth 4000 in
theorem bsX12_slotOn_232 {p : Program} {l : Launch} {e : Env} {s : State} {m : MethodId} {args : Array Value} {below : List Frame} {meth : Method} {c : Code} {D : va_G} {ca : Nat → ClassId} {ad : Nat → Nat} {A : Nat → Prop} {Q : Option mV → mM → Prop} (hX : CX p s m args meth c 6 cX12_slotOn "FairBlocksModel" D ca ad A) (hr : meth.sig.returnType = (Option.some FieldType.int)) : ∀ lv st M, BX12_slotOn_232 (Gd p l e (rmD 3) s m args below meth c 6 D ca ad A 0 0 (MQ below (QC D ca ad A Q) args s 0 0 A)) Q lv st M → Gd p l e (rmD 3) s m args below meth c 6 D ca ad A 0 0 (MQ below (QC D ca ad A Q) args s 0 0 A) 232 lv st M :=
  (sd_iconst hX dX12_slotOn_232 rfl (sd_goto hX dX12_slotOn_233 (by decide) sd_at))
def BX12_slotOn_236 (G : Nat → KT) (Q : Option mV → mM → Prop) : KT := (s_aload 1 (s_iload 5 (s_iconst (7) (s_bin (fun x y => x + y) (s_iald (s_iconst (1) (s_bin (fun x y => x + y) (s_at G 245 [true, true, false, true, true, false]))))))))
set_option maxRecDepth 4000 in
theorem bsX12_slotOn_236 {p : Program} {l : Launch} {e : Env} {s : State} {m : MethodId} {args : Array Value} {below : List Frame} {meth : Method} {c : Code} {D : va_G} {ca : Nat → ClassId} {ad : Nat → Nat} {A : Nat → Prop} {Q : Option mV → mM → Prop} (hX : CX p s m args meth c 6 cX12_slotOn "FairBlocksModel" D ca ad A) (hr : meth.sig.returnType = (Option.some FieldType.int)) : ∀ lv st M, BX12_slotOn_236 (Gd p l e (rmD 3) s m args below meth c 6 D ca ad A 0 0 (MQ below (QC D ca ad A Q) args s 0 0 A)) Q lv st M → Gd p l e (rmD 3) s m args below meth c 6 D ca ad A 0 0 (MQ below (QC D ca ad A Q) args s 0 0 A) 236 lv st M :=
  (sd_aload_n hX dX12_slotOn_236 rfl (sd_iload hX dX12_slotOn_237 (sd_bipush hX dX12_slotOn_239 rfl (sd_iadd hX dX12_slotOn_241 (sd_iald hX dX12_slotOn_242 (sd_iconst hX dX12_slotOn_243 rfl (sd_iadd hX dX12_slotOn_244 sd_at)))))))
def BX12_slotOn_245 (G : Nat → KT) (Q : Option mV → mM → Prop) : KT := (s_iast (s_iinc 4 (1) (s_at G 130 [true, true, false, true, true, false])))
set_option maxRecDepth 4000 in
theorem bsX12_slotOn_245 {p : Program} {l : Launch} {e : Env} {s : State} {m : MethodId} {args : Array Value} {below : List Frame} {meth : Method} {c : Code} {D : va_G} {ca : Nat → ClassId} {ad : Nat → Nat} {A : Nat → Prop} {Q : Option mV → mM → Prop} (hX : CX p s m args meth c 6 cX12_slotOn "FairBlocksModel" D ca ad A) (hr : meth.sig.returnType = (Option.some FieldType.int)) : ∀ lv st M, BX12_slotOn_245 (Gd p l e (rmD 3) s m args below meth c 6 D ca ad A 0 0 (MQ below (QC D ca ad A Q) args s 0 0 A)) Q lv st M → Gd p l e (rmD 3) s m args below meth c 6 D ca ad A 0 0 (MQ below (QC D ca ad A Q) args s 0 0 A) 245 lv st M :=
  (sd_iast hX dX12_slotOn_245 (sd_iinc hX (by decide) dX12_slotOn_246 rfl (sd_goto hX dX12_slotOn_249 (by decide) sd_at)))
def BX12_slotOn_252 (G : Nat → KT) (Q : Option mV → mM → Prop) : KT := (s_aload 1 (s_iconst (51) (s_dup2 (s_iald (s_iconst (1) (s_bin (fun x y => x + y) (s_iast (s_iload 3 (s_iret Q)))))))))
set_option maxRecDepth 4000 in
theorem bsX12_slotOn_252 {p : Program} {l : Launch} {e : Env} {s : State} {m : MethodId} {args : Array Value} {below : List Frame} {meth : Method} {c : Code} {D : va_G} {ca : Nat → ClassId} {ad : Nat → Nat} {A : Nat → Prop} {Q : Option mV → mM → Prop} (hX : CX p s m args meth c 6 cX12_slotOn "FairBlocksModel" D ca ad A) (hr : meth.sig.returnType = (Option.some FieldType.int)) : ∀ lv st M, BX12_slotOn_252 (Gd p l e (rmD 3) s m args below meth c 6 D ca ad A 0 0 (MQ below (QC D ca ad A Q) args s 0 0 A)) Q lv st M → Gd p l e (rmD 3) s m args below meth c 6 D ca ad A 0 0 (MQ below (QC D ca ad A Q) args s 0 0 A) 252 lv st M :=
  (sd_aload_n hX dX12_slotOn_252 rfl (sd_bipush hX dX12_slotOn_253 rfl (sd_dup2 hX dX12_slotOn_255 (sd_iald hX dX12_slotOn_256 (sd_iconst hX dX12_slotOn_257 rfl (sd_iadd hX dX12_slotOn_258 (sd_iast hX dX12_slotOn_259 (sd_iload_n hX dX12_slotOn_260 rfl (sd_iret hX hr dX12_slotOn_261)))))))))
set_option maxHeartbeats 400000 in
theorem pf_X12_slotOn (G : Nat → KT) (Q : Option mV → mM → Prop) (h0 : ∀ lv st M, BX12_slotOn_0 G Q lv st M → G 0 lv st M) (h2 : ∀ lv st M, BX12_slotOn_2 G Q lv st M → G 2 lv st M) (h50 : ∀ lv st M, BX12_slotOn_50 G Q lv st M → G 50 lv st M) (h52 : ∀ lv st M, BX12_slotOn_52 G Q lv st M → G 52 lv st M) (h66 : ∀ lv st M, BX12_slotOn_66 G Q lv st M → G 66 lv st M) (h68 : ∀ lv st M, BX12_slotOn_68 G Q lv st M → G 68 lv st M) (h90 : ∀ lv st M, BX12_slotOn_90 G Q lv st M → G 90 lv st M) (h96 : ∀ lv st M, BX12_slotOn_96 G Q lv st M → G 96 lv st M) (h119 : ∀ lv st M, BX12_slotOn_119 G Q lv st M → G 119 lv st M) (h125 : ∀ lv st M, BX12_slotOn_125 G Q lv st M → G 125 lv st M) (h130 : ∀ lv st M, BX12_slotOn_130 G Q lv st M → G 130 lv st M) (h232 : ∀ lv st M, BX12_slotOn_232 G Q lv st M → G 232 lv st M) (h236 : ∀ lv st M, BX12_slotOn_236 G Q lv st M → G 236 lv st M) (h245 : ∀ lv st M, BX12_slotOn_245 G Q lv st M → G 245 lv st M) (h252 : ∀ lv st M, BX12_slotOn_252 G Q lv st M → G 252 lv st M) (as : List mV) (M : mM) (ho : ∀ v ∈ as, okV v) (hp : pre_X12_slotOn as M) (hQ : Q (fn_X12_slotOn as M).1 (fn_X12_slotOn as M).2) : G 0 (inL as ++ List.replicate (6 - (inL as).length) none) [] M := by
  obtain ⟨c, r, f, rfl, hPQ⟩ := hp
  obtain rfl : c = 158 := k12 (ho (.inr (.inr (12, c))) (by simp))
  obtain ⟨hn, en, -⟩ := nM_e hPQ.1
  obtain ⟨hB, eB⟩ := bM_e hPQ.1
  have hl := PG_l hPQ.2
  have hrr := hPQ.2.1
  simp only [fn_X12_slotOn, so] at hQ
  have nMe : ∀ {M' : mM}, M'.1 158 = M.1 158 → nM M' = nM M := by intro M' e; unfold nM; rw [e]
  generalize eN : nM M = N at *
  generalize eb : bM M = B at *
  have loop3 : ∀ (n i : Nat) (t : Int32) (M' : mM), i + n = N → PQ M' r → M'.1 158 = M.1 158 → Q (some (.inl (m3F r (itr (m3S r B) i n (t, M'))).1)) (m3F r (itr (m3S r B) i n (t, M'))).2 → G 130 [some (.inr (.inr (12, 158))), some (.inr (.inr (13, r))), none, some (.inl t), some (.inl (nI i)), none] [] M' := by
    intro n
    induction n with
    | zero =>
      intro i t M' hi hP h158 hq
      obtain rfl : i = N := by omega
      (apply h130; simp only [BX12_slotOn_130, s_mth, s_mab, s_at, s_iconst, s_lconst, s_iload, s_lload, s_aload, s_istore, s_lstore, s_astore, s_iinc, s_bin, s_binG, s_un, s_lbin, s_lbinG, s_lsh, s_lcmp, s_i2l, s_l2i, s_dup, s_dup2, s_pop, s_if, s_icmp, s_geti, s_getl, s_getr, s_puti, s_putz, s_putl, s_iald, s_zald, s_iast, s_zast, s_aaldS, s_aaldU, s_gets, s_tald, s_tsw, tsw, s_iret, s_zret, s_lret, s_aret, s_vret, s_callV, s_callS, c1, nl1, keepL, csum, pushR, inL, List.getD_cons_zero, List.getD_cons_succ, List.set_cons_zero, List.set_cons_succ, List.cons_append, List.nil_append, List.append_nil, List.replicate, List.length_cons, List.length_nil, List.take_succ_cons, List.take_zero, List.drop_succ_cons, List.drop_zero, List.reverse_cons, List.reverse_nil, true_and, and_true, forall_const, not_true_eq_false, not_false_eq_true, false_implies, true_implies, implies_true, one0, m10, Nat.reduceAdd, Nat.reduceSub, Nat.reduceLeDiff, Nat.zero_add, Nat.add_zero, fn_X12_hadSome, fn_X12_hasAny, fn_X12_sends, fn_X12_whoHas])
      rw [h158, en]
      refine ⟨fun _ => ?_, fun h => absurd (nI_le (Nat.le_refl _) (by omega)) h⟩
      (apply h252; simp only [BX12_slotOn_252, s_mth, s_mab, s_at, s_iconst, s_lconst, s_iload, s_lload, s_aload, s_istore, s_lstore, s_astore, s_iinc, s_bin, s_binG, s_un, s_lbin, s_lbinG, s_lsh, s_lcmp, s_i2l, s_l2i, s_dup, s_dup2, s_pop, s_if, s_icmp, s_geti, s_getl, s_getr, s_puti, s_putz, s_putl, s_iald, s_zald, s_iast, s_zast, s_aaldS, s_aaldU, s_gets, s_tald, s_tsw, tsw, s_iret, s_zret, s_lret, s_aret, s_vret, s_callV, s_callS, c1, nl1, keepL, csum, pushR, inL, List.getD_cons_zero, List.getD_cons_succ, List.set_cons_zero, List.set_cons_succ, List.cons_append, List.nil_append, List.append_nil, List.replicate, List.length_cons, List.length_nil, List.take_succ_cons, List.take_zero, List.drop_succ_cons, List.drop_zero, List.reverse_cons, List.reverse_nil, true_and, and_true, forall_const, not_true_eq_false, not_false_eq_true, false_implies, true_implies, implies_true, one0, m10, Nat.reduceAdd, Nat.reduceSub, Nat.reduceLeDiff, Nat.zero_add, Nat.add_zero, fn_X12_hadSome, fn_X12_hasAny, fn_X12_sends, fn_X12_whoHas])
      simp only [hl]
      exact ⟨vp_in_nI (n := 51) (by decide) (by decide), vp_in_nI (n := 51) (by decide) (by decide), hq⟩
    | succ n ih =>
      intro i t M' hi hP h158 hq
      have ei : (nI i).toNatClampNeg = i := nI_clamp (by omega)
      have hi5 : i < 5 := by omega
      have x0 : ((10 : Int32) * nI i + 0).toNatClampNeg = 10 * i + 0 := cx hi5 0 (by decide)
      have v0 : vp_in ((10 : Int32) * nI i + 0) 52 := vx hi5 0 (by decide)
      have x1 : ((10 : Int32) * nI i + 1).toNatClampNeg = 10 * i + 1 := cx hi5 1 (by decide)
      have v1 : vp_in ((10 : Int32) * nI i + 1) 52 := vx hi5 1 (by decide)
      have x2 : ((10 : Int32) * nI i + 2).toNatClampNeg = 10 * i + 2 := cx hi5 2 (by decide)
      have v2 : vp_in ((10 : Int32) * nI i + 2) 52 := vx hi5 2 (by decide)
      have x3 : ((10 : Int32) * nI i + 3).toNatClampNeg = 10 * i + 3 := cx hi5 3 (by decide)
      have v3 : vp_in ((10 : Int32) * nI i + 3) 52 := vx hi5 3 (by decide)
      have x4 : ((10 : Int32) * nI i + 4).toNatClampNeg = 10 * i + 4 := cx hi5 4 (by decide)
      have v4 : vp_in ((10 : Int32) * nI i + 4) 52 := vx hi5 4 (by decide)
      have x5 : ((10 : Int32) * nI i + 5).toNatClampNeg = 10 * i + 5 := cx hi5 5 (by decide)
      have v5 : vp_in ((10 : Int32) * nI i + 5) 52 := vx hi5 5 (by decide)
      have x6 : ((10 : Int32) * nI i + 6).toNatClampNeg = 10 * i + 6 := cx hi5 6 (by decide)
      have v6 : vp_in ((10 : Int32) * nI i + 6) 52 := vx hi5 6 (by decide)
      have x7 : ((10 : Int32) * nI i + 7).toNatClampNeg = 10 * i + 7 := cx hi5 7 (by decide)
      have v7 : vp_in ((10 : Int32) * nI i + 7) 52 := vx hi5 7 (by decide)
      have x8 : ((10 : Int32) * nI i + 8).toNatClampNeg = 10 * i + 8 := cx hi5 8 (by decide)
      have v8 : vp_in ((10 : Int32) * nI i + 8) 52 := vx hi5 8 (by decide)
      have x9 : ((10 : Int32) * nI i + 9).toNatClampNeg = 10 * i + 9 := cx hi5 9 (by decide)
      have v9 : vp_in ((10 : Int32) * nI i + 9) 52 := vx hi5 9 (by decide)
      have hv5 : vp_in (nI i) 5 := vp_in_nI hi5 (by decide)
      have hA := PQ_m3A (u := i) hP hi5
      have eb4 : M'.1 158 4 = nI B := by rw [h158]; exact eB
      have L245 : ∀ w, w = m3W (m3A M' r i) r i B → G 245 [some (.inr (.inr (12, 158))), some (.inr (.inr (13, r))), none, some (.inl (t + M'.1 177 i)), some (.inl (nI i)), none] [.inl w, .inl (10 * nI i + 7), .inr (.inr (13, r))] (m3A M' r i) := by
        intro w ew
        (apply h245; simp only [BX12_slotOn_245, s_mth, s_mab, s_at, s_iconst, s_lconst, s_iload, s_lload, s_aload, s_istore, s_lstore, s_astore, s_iinc, s_bin, s_binG, s_un, s_lbin, s_lbinG, s_lsh, s_lcmp, s_i2l, s_l2i, s_dup, s_dup2, s_pop, s_if, s_icmp, s_geti, s_getl, s_getr, s_puti, s_putz, s_putl, s_iald, s_zald, s_iast, s_zast, s_aaldS, s_aaldU, s_gets, s_tald, s_tsw, tsw, s_iret, s_zret, s_lret, s_aret, s_vret, s_callV, s_callS, c1, nl1, keepL, csum, pushR, inL, List.getD_cons_zero, List.getD_cons_succ, List.set_cons_zero, List.set_cons_succ, List.cons_append, List.nil_append, List.append_nil, List.replicate, List.length_cons, List.length_nil, List.take_succ_cons, List.take_zero, List.drop_succ_cons, List.drop_zero, List.reverse_cons, List.reverse_nil, true_and, and_true, forall_const, not_true_eq_false, not_false_eq_true, false_implies, true_implies, implies_true, one0, m10, Nat.reduceAdd, Nat.reduceSub, Nat.reduceLeDiff, Nat.zero_add, Nat.add_zero, fn_X12_hadSome, fn_X12_hasAny, fn_X12_sends, fn_X12_whoHas])
        simp only [hl, x7]
        refine ⟨v7, ?_⟩
        rw [nI_1, ew]
        have hr := hP.2.1
        refine ih (i + 1) _ _ (by omega) (PQ_mset hA.1 (Or.inl ⟨by omega, by omega, by omega⟩)) ?_ hq
        rw [mset_n (by omega), hA.2]
        exact h158
      have Z : m3W (m3A M' r i) r i B = 0 → G 232 [some (.inr (.inr (12, 158))), some (.inr (.inr (13, r))), none, some (.inl (t + M'.1 177 i)), some (.inl (nI i)), none] [.inl (10 * nI i + 7), .inr (.inr (13, r))] (m3A M' r i) := by
        intro e
        (apply h232; simp only [BX12_slotOn_232, s_mth, s_mab, s_at, s_iconst, s_lconst, s_iload, s_lload, s_aload, s_istore, s_lstore, s_astore, s_iinc, s_bin, s_binG, s_un, s_lbin, s_lbinG, s_lsh, s_lcmp, s_i2l, s_l2i, s_dup, s_dup2, s_pop, s_if, s_icmp, s_geti, s_getl, s_getr, s_puti, s_putz, s_putl, s_iald, s_zald, s_iast, s_zast, s_aaldS, s_aaldU, s_gets, s_tald, s_tsw, tsw, s_iret, s_zret, s_lret, s_aret, s_vret, s_callV, s_callS, c1, nl1, keepL, csum, pushR, inL, List.getD_cons_zero, List.getD_cons_succ, List.set_cons_zero, List.set_cons_succ, List.cons_append, List.nil_append, List.append_nil, List.replicate, List.length_cons, List.length_nil, List.take_succ_cons, List.take_zero, List.drop_succ_cons, List.drop_zero, List.reverse_cons, List.reverse_nil, true_and, and_true, forall_const, not_true_eq_false, not_false_eq_true, false_implies, true_implies, implies_true, one0, m10, Nat.reduceAdd, Nat.reduceSub, Nat.reduceLeDiff, Nat.zero_add, Nat.add_zero, fn_X12_hadSome, fn_X12_hasAny, fn_X12_sends, fn_X12_whoHas])
        exact L245 0 e.symm
      have eb4' : (m3A M' r i).1 158 4 = nI B := by rw [hA.2]; exact eb4
      have eBc : (nI B).toNatClampNeg = B := nI_clamp (by omega)
      unfold m3W at Z L245
      (apply h130; simp only [BX12_slotOn_130, s_mth, s_mab, s_at, s_iconst, s_lconst, s_iload, s_lload, s_aload, s_istore, s_lstore, s_astore, s_iinc, s_bin, s_binG, s_un, s_lbin, s_lbinG, s_lsh, s_lcmp, s_i2l, s_l2i, s_dup, s_dup2, s_pop, s_if, s_icmp, s_geti, s_getl, s_getr, s_puti, s_putz, s_putl, s_iald, s_zald, s_iast, s_zast, s_aaldS, s_aaldU, s_gets, s_tald, s_tsw, tsw, s_iret, s_zret, s_lret, s_aret, s_vret, s_callV, s_callS, c1, nl1, keepL, csum, pushR, inL, List.getD_cons_zero, List.getD_cons_succ, List.set_cons_zero, List.set_cons_succ, List.cons_append, List.nil_append, List.append_nil, List.replicate, List.length_cons, List.length_nil, List.take_succ_cons, List.take_zero, List.drop_succ_cons, List.drop_zero, List.reverse_cons, List.reverse_nil, true_and, and_true, forall_const, not_true_eq_false, not_false_eq_true, false_implies, true_implies, implies_true, one0, m10, Nat.reduceAdd, Nat.reduceSub, Nat.reduceLeDiff, Nat.zero_add, Nat.add_zero, fn_X12_hadSome, fn_X12_hasAny, fn_X12_sends, fn_X12_whoHas])
      simp only [h158, en, hl, lM, ei, x6, x7, x3]
      refine ⟨fun h => absurd h (nI_ge (by omega) (by omega)), fun _ => ⟨hv5, v6, hv5, v6, v6, ?_⟩⟩
      have e3 : mset M' r (10 * i + 6) (M'.1 r (10 * i + 6) + ((16 * M'.1 177 i) >>> (M.1 158 5 &&& 31) - M'.1 r (10 * i + 6) >>> (M.1 158 5 &&& 31))) = m3A M' r i := by unfold m3A; rw [h158]
      rw [e3, eb4']
      simp only [eBc]
      refine ⟨⟨_, _, _, rfl, B, by omega, rfl⟩, fun h => ⟨v3, fun h2 => ?_, fun h2 => ⟨⟨_, _, rfl, hl, i, hi5, rfl⟩, fun h3 => ?_, fun h3 => ?_⟩⟩, fun h => ?_⟩
      · exact Z (by rw [if_pos h, if_pos h2])
      · exact Z (by rw [if_pos h, if_neg h2, if_pos h3])
      · (apply h236; simp only [BX12_slotOn_236, s_mth, s_mab, s_at, s_iconst, s_lconst, s_iload, s_lload, s_aload, s_istore, s_lstore, s_astore, s_iinc, s_bin, s_binG, s_un, s_lbin, s_lbinG, s_lsh, s_lcmp, s_i2l, s_l2i, s_dup, s_dup2, s_pop, s_if, s_icmp, s_geti, s_getl, s_getr, s_puti, s_putz, s_putl, s_iald, s_zald, s_iast, s_zast, s_aaldS, s_aaldU, s_gets, s_tald, s_tsw, tsw, s_iret, s_zret, s_lret, s_aret, s_vret, s_callV, s_callS, c1, nl1, keepL, csum, pushR, inL, List.getD_cons_zero, List.getD_cons_succ, List.set_cons_zero, List.set_cons_succ, List.cons_append, List.nil_append, List.append_nil, List.replicate, List.length_cons, List.length_nil, List.take_succ_cons, List.take_zero, List.drop_succ_cons, List.drop_zero, List.reverse_cons, List.reverse_nil, true_and, and_true, forall_const, not_true_eq_false, not_false_eq_true, false_implies, true_implies, implies_true, one0, m10, Nat.reduceAdd, Nat.reduceSub, Nat.reduceLeDiff, Nat.zero_add, Nat.add_zero, fn_X12_hadSome, fn_X12_hasAny, fn_X12_sends, fn_X12_whoHas])
        simp only [hl, x7]
        exact ⟨v7, L245 _ (by rw [if_pos h, if_neg h2, if_neg h3])⟩
      · exact Z (by rw [if_neg h])
  have loop2 : ∀ (n i : Nat) (M' : mM), i + n = B → PQ M' r → M'.1 158 = M.1 158 → Q (some (.inl (m3F r (itr (m3S r B) 0 N (0, itr (m2S r f) i n M'))).1)) (m3F r (itr (m3S r B) 0 N (0, itr (m2S r f) i n M'))).2 → G 68 [some (.inr (.inr (12, 158))), some (.inr (.inr (13, r))), some (.inl f), some (.inl (nI i)), none, none] [] M' := by
    intro n
    induction n with
    | zero =>
      intro i M' hi hP h158 hq
      obtain rfl : i = B := by omega
      (apply h68; simp only [BX12_slotOn_68, s_mth, s_mab, s_at, s_iconst, s_lconst, s_iload, s_lload, s_aload, s_istore, s_lstore, s_astore, s_iinc, s_bin, s_binG, s_un, s_lbin, s_lbinG, s_lsh, s_lcmp, s_i2l, s_l2i, s_dup, s_dup2, s_pop, s_if, s_icmp, s_geti, s_getl, s_getr, s_puti, s_putz, s_putl, s_iald, s_zald, s_iast, s_zast, s_aaldS, s_aaldU, s_gets, s_tald, s_tsw, tsw, s_iret, s_zret, s_lret, s_aret, s_vret, s_callV, s_callS, c1, nl1, keepL, csum, pushR, inL, List.getD_cons_zero, List.getD_cons_succ, List.set_cons_zero, List.set_cons_succ, List.cons_append, List.nil_append, List.append_nil, List.replicate, List.length_cons, List.length_nil, List.take_succ_cons, List.take_zero, List.drop_succ_cons, List.drop_zero, List.reverse_cons, List.reverse_nil, true_and, and_true, forall_const, not_true_eq_false, not_false_eq_true, false_implies, true_implies, implies_true, one0, m10, Nat.reduceAdd, Nat.reduceSub, Nat.reduceLeDiff, Nat.zero_add, Nat.add_zero, fn_X12_hadSome, fn_X12_hasAny, fn_X12_sends, fn_X12_whoHas])
      rw [h158, eB]
      refine ⟨fun _ => ?_, fun h => absurd (nI_le (Nat.le_refl _) (by omega)) h⟩
      (apply h125; simp only [BX12_slotOn_125, s_mth, s_mab, s_at, s_iconst, s_lconst, s_iload, s_lload, s_aload, s_istore, s_lstore, s_astore, s_iinc, s_bin, s_binG, s_un, s_lbin, s_lbinG, s_lsh, s_lcmp, s_i2l, s_l2i, s_dup, s_dup2, s_pop, s_if, s_icmp, s_geti, s_getl, s_getr, s_puti, s_putz, s_putl, s_iald, s_zald, s_iast, s_zast, s_aaldS, s_aaldU, s_gets, s_tald, s_tsw, tsw, s_iret, s_zret, s_lret, s_aret, s_vret, s_callV, s_callS, c1, nl1, keepL, csum, pushR, inL, List.getD_cons_zero, List.getD_cons_succ, List.set_cons_zero, List.set_cons_succ, List.cons_append, List.nil_append, List.append_nil, List.replicate, List.length_cons, List.length_nil, List.take_succ_cons, List.take_zero, List.drop_succ_cons, List.drop_zero, List.reverse_cons, List.reverse_nil, true_and, and_true, forall_const, not_true_eq_false, not_false_eq_true, false_implies, true_implies, implies_true, one0, m10, Nat.reduceAdd, Nat.reduceSub, Nat.reduceLeDiff, Nat.zero_add, Nat.add_zero, fn_X12_hadSome, fn_X12_hasAny, fn_X12_sends, fn_X12_whoHas])
      exact loop3 N 0 0 M' (by omega) hP h158 hq
    | succ n ih =>
      intro i M' hi hP h158 hq
      have ei : (nI i).toNatClampNeg = i := nI_clamp (by omega)
      have hv4 : vp_in (nI i) 4 := vp_in_nI (by omega) (by decide)
      have h2 := PQ_m2 (k := i) (f := f) hP
      have L119 : G 119 [some (.inr (.inr (12, 158))), some (.inr (.inr (13, r))), some (.inl f), some (.inl (nI i)), none, none] [] (m2S r f i M') := by
        (apply h119; simp only [BX12_slotOn_119, s_mth, s_mab, s_at, s_iconst, s_lconst, s_iload, s_lload, s_aload, s_istore, s_lstore, s_astore, s_iinc, s_bin, s_binG, s_un, s_lbin, s_lbinG, s_lsh, s_lcmp, s_i2l, s_l2i, s_dup, s_dup2, s_pop, s_if, s_icmp, s_geti, s_getl, s_getr, s_puti, s_putz, s_putl, s_iald, s_zald, s_iast, s_zast, s_aaldS, s_aaldU, s_gets, s_tald, s_tsw, tsw, s_iret, s_zret, s_lret, s_aret, s_vret, s_callV, s_callS, c1, nl1, keepL, csum, pushR, inL, List.getD_cons_zero, List.getD_cons_succ, List.set_cons_zero, List.set_cons_succ, List.cons_append, List.nil_append, List.append_nil, List.replicate, List.length_cons, List.length_nil, List.take_succ_cons, List.take_zero, List.drop_succ_cons, List.drop_zero, List.reverse_cons, List.reverse_nil, true_and, and_true, forall_const, not_true_eq_false, not_false_eq_true, false_implies, true_implies, implies_true, one0, m10, Nat.reduceAdd, Nat.reduceSub, Nat.reduceLeDiff, Nat.zero_add, Nat.add_zero, fn_X12_hadSome, fn_X12_hasAny, fn_X12_sends, fn_X12_whoHas])
        rw [nI_1]
        exact ih (i + 1) _ (by omega) h2.1 (by rw [h2.2]; exact h158) hq
      have L96 : ∀ h, h = (if f = 0 then wh M' r i else -9) → G 96 [some (.inr (.inr (12, 158))), some (.inr (.inr (13, r))), some (.inl f), some (.inl (nI i)), none, none] [.inl h, .inl (nI i), .inr (.inr (13, 176))] M' := by
        intro h eh
        have hr := m2_h (k := i) (f := f) hP
        rw [← eh] at hr
        unfold m2S at L119
        rw [← eh] at L119
        unfold m2F at L119
        (apply h96; simp only [BX12_slotOn_96, s_mth, s_mab, s_at, s_iconst, s_lconst, s_iload, s_lload, s_aload, s_istore, s_lstore, s_astore, s_iinc, s_bin, s_binG, s_un, s_lbin, s_lbinG, s_lsh, s_lcmp, s_i2l, s_l2i, s_dup, s_dup2, s_pop, s_if, s_icmp, s_geti, s_getl, s_getr, s_puti, s_putz, s_putl, s_iald, s_zald, s_iast, s_zast, s_aaldS, s_aaldU, s_gets, s_tald, s_tsw, tsw, s_iret, s_zret, s_lret, s_aret, s_vret, s_callV, s_callS, c1, nl1, keepL, csum, pushR, inL, List.getD_cons_zero, List.getD_cons_succ, List.set_cons_zero, List.set_cons_succ, List.cons_append, List.nil_append, List.append_nil, List.replicate, List.length_cons, List.length_nil, List.take_succ_cons, List.take_zero, List.drop_succ_cons, List.drop_zero, List.reverse_cons, List.reverse_nil, true_and, and_true, forall_const, not_true_eq_false, not_false_eq_true, false_implies, true_implies, implies_true, one0, m10, Nat.reduceAdd, Nat.reduceSub, Nat.reduceLeDiff, Nat.zero_add, Nat.add_zero, fn_X12_hadSome, fn_X12_hasAny, fn_X12_sends, fn_X12_whoHas])
        simp only [lM, ei, mset_s]
        refine ⟨hv4, hv4, fun g => ?_, fun g => ?_⟩
        · rw [if_pos g] at L119
          exact L119
        · rw [if_neg g] at L119
          obtain ⟨j, hj, ej⟩ : ∃ j, j < nM M' ∧ h = nI j := by
            rcases hr with e | e
            · exact absurd e g
            · exact e
          have hPx : PQ (mset M' 176 i h) r := PQ_mset hP (Or.inr (by omega))
          refine ⟨hv4, ⟨_, _, _, rfl, hPx.1, hPx.2, j, ?_, ej⟩, L119⟩
          have e5 : nM (mset M' 176 i h) = nM M' := by unfold nM; rw [mset_n (by decide)]
          rw [e5]
          exact hj
      (apply h68; simp only [BX12_slotOn_68, s_mth, s_mab, s_at, s_iconst, s_lconst, s_iload, s_lload, s_aload, s_istore, s_lstore, s_astore, s_iinc, s_bin, s_binG, s_un, s_lbin, s_lbinG, s_lsh, s_lcmp, s_i2l, s_l2i, s_dup, s_dup2, s_pop, s_if, s_icmp, s_geti, s_getl, s_getr, s_puti, s_putz, s_putl, s_iald, s_zald, s_iast, s_zast, s_aaldS, s_aaldU, s_gets, s_tald, s_tsw, tsw, s_iret, s_zret, s_lret, s_aret, s_vret, s_callV, s_callS, c1, nl1, keepL, csum, pushR, inL, List.getD_cons_zero, List.getD_cons_succ, List.set_cons_zero, List.set_cons_succ, List.cons_append, List.nil_append, List.append_nil, List.replicate, List.length_cons, List.length_nil, List.take_succ_cons, List.take_zero, List.drop_succ_cons, List.drop_zero, List.reverse_cons, List.reverse_nil, true_and, and_true, forall_const, not_true_eq_false, not_false_eq_true, false_implies, true_implies, implies_true, one0, m10, Nat.reduceAdd, Nat.reduceSub, Nat.reduceLeDiff, Nat.zero_add, Nat.add_zero, fn_X12_hadSome, fn_X12_hasAny, fn_X12_sends, fn_X12_whoHas])
      rw [h158, eB]
      refine ⟨fun h => absurd h (nI_ge (by omega) (by omega)), fun _ => ⟨fun h => ?_, fun h => ?_⟩⟩
      · (apply h90; simp only [BX12_slotOn_90, s_mth, s_mab, s_at, s_iconst, s_lconst, s_iload, s_lload, s_aload, s_istore, s_lstore, s_astore, s_iinc, s_bin, s_binG, s_un, s_lbin, s_lbinG, s_lsh, s_lcmp, s_i2l, s_l2i, s_dup, s_dup2, s_pop, s_if, s_icmp, s_geti, s_getl, s_getr, s_puti, s_putz, s_putl, s_iald, s_zald, s_iast, s_zast, s_aaldS, s_aaldU, s_gets, s_tald, s_tsw, tsw, s_iret, s_zret, s_lret, s_aret, s_vret, s_callV, s_callS, c1, nl1, keepL, csum, pushR, inL, List.getD_cons_zero, List.getD_cons_succ, List.set_cons_zero, List.set_cons_succ, List.cons_append, List.nil_append, List.append_nil, List.replicate, List.length_cons, List.length_nil, List.take_succ_cons, List.take_zero, List.drop_succ_cons, List.drop_zero, List.reverse_cons, List.reverse_nil, true_and, and_true, forall_const, not_true_eq_false, not_false_eq_true, false_implies, true_implies, implies_true, one0, m10, Nat.reduceAdd, Nat.reduceSub, Nat.reduceLeDiff, Nat.zero_add, Nat.add_zero, fn_X12_hadSome, fn_X12_hasAny, fn_X12_sends, fn_X12_whoHas])
        simp only [ei]
        exact ⟨⟨_, _, _, rfl, hP.1, hP.2, i, by omega, rfl⟩, L96 _ (by rw [if_pos h])⟩
      · exact L96 _ (by rw [if_neg h])
  have loop1 : ∀ (n i : Nat) (M' : mM), i + n = N → PQ M' r → M'.1 158 = M.1 158 → Q (some (.inl (m3F r (itr (m3S r B) 0 N (0, itr (m2S r f) 0 B (itr (m1S r) i n M')))).1)) (m3F r (itr (m3S r B) 0 N (0, itr (m2S r f) 0 B (itr (m1S r) i n M')))).2 → G 2 [some (.inr (.inr (12, 158))), some (.inr (.inr (13, r))), some (.inl f), some (.inl (nI i)), none, none] [] M' := by
    intro n
    induction n with
    | zero =>
      intro i M' hi hP h158 hq
      obtain rfl : i = N := by omega
      (apply h2; simp only [BX12_slotOn_2, s_mth, s_mab, s_at, s_iconst, s_lconst, s_iload, s_lload, s_aload, s_istore, s_lstore, s_astore, s_iinc, s_bin, s_binG, s_un, s_lbin, s_lbinG, s_lsh, s_lcmp, s_i2l, s_l2i, s_dup, s_dup2, s_pop, s_if, s_icmp, s_geti, s_getl, s_getr, s_puti, s_putz, s_putl, s_iald, s_zald, s_iast, s_zast, s_aaldS, s_aaldU, s_gets, s_tald, s_tsw, tsw, s_iret, s_zret, s_lret, s_aret, s_vret, s_callV, s_callS, c1, nl1, keepL, csum, pushR, inL, List.getD_cons_zero, List.getD_cons_succ, List.set_cons_zero, List.set_cons_succ, List.cons_append, List.nil_append, List.append_nil, List.replicate, List.length_cons, List.length_nil, List.take_succ_cons, List.take_zero, List.drop_succ_cons, List.drop_zero, List.reverse_cons, List.reverse_nil, true_and, and_true, forall_const, not_true_eq_false, not_false_eq_true, false_implies, true_implies, implies_true, one0, m10, Nat.reduceAdd, Nat.reduceSub, Nat.reduceLeDiff, Nat.zero_add, Nat.add_zero, fn_X12_hadSome, fn_X12_hasAny, fn_X12_sends, fn_X12_whoHas])
      rw [h158, en]
      refine ⟨fun _ => ?_, fun h => absurd (nI_le (Nat.le_refl _) (by omega)) h⟩
      (apply h66; simp only [BX12_slotOn_66, s_mth, s_mab, s_at, s_iconst, s_lconst, s_iload, s_lload, s_aload, s_istore, s_lstore, s_astore, s_iinc, s_bin, s_binG, s_un, s_lbin, s_lbinG, s_lsh, s_lcmp, s_i2l, s_l2i, s_dup, s_dup2, s_pop, s_if, s_icmp, s_geti, s_getl, s_getr, s_puti, s_putz, s_putl, s_iald, s_zald, s_iast, s_zast, s_aaldS, s_aaldU, s_gets, s_tald, s_tsw, tsw, s_iret, s_zret, s_lret, s_aret, s_vret, s_callV, s_callS, c1, nl1, keepL, csum, pushR, inL, List.getD_cons_zero, List.getD_cons_succ, List.set_cons_zero, List.set_cons_succ, List.cons_append, List.nil_append, List.append_nil, List.replicate, List.length_cons, List.length_nil, List.take_succ_cons, List.take_zero, List.drop_succ_cons, List.drop_zero, List.reverse_cons, List.reverse_nil, true_and, and_true, forall_const, not_true_eq_false, not_false_eq_true, false_implies, true_implies, implies_true, one0, m10, Nat.reduceAdd, Nat.reduceSub, Nat.reduceLeDiff, Nat.zero_add, Nat.add_zero, fn_X12_hadSome, fn_X12_hasAny, fn_X12_sends, fn_X12_whoHas])
      exact loop2 B 0 M' (by omega) hP h158 hq
    | succ n ih =>
      intro i M' hi hP h158 hq
      have ei : (nI i).toNatClampNeg = i := nI_clamp (by omega)
      have hi5 : i < 5 := by omega
      have x0 : ((10 : Int32) * nI i + 0).toNatClampNeg = 10 * i + 0 := cx hi5 0 (by decide)
      have v0 : vp_in ((10 : Int32) * nI i + 0) 52 := vx hi5 0 (by decide)
      have x1 : ((10 : Int32) * nI i + 1).toNatClampNeg = 10 * i + 1 := cx hi5 1 (by decide)
      have v1 : vp_in ((10 : Int32) * nI i + 1) 52 := vx hi5 1 (by decide)
      have x2 : ((10 : Int32) * nI i + 2).toNatClampNeg = 10 * i + 2 := cx hi5 2 (by decide)
      have v2 : vp_in ((10 : Int32) * nI i + 2) 52 := vx hi5 2 (by decide)
      have x3 : ((10 : Int32) * nI i + 3).toNatClampNeg = 10 * i + 3 := cx hi5 3 (by decide)
      have v3 : vp_in ((10 : Int32) * nI i + 3) 52 := vx hi5 3 (by decide)
      have x4 : ((10 : Int32) * nI i + 4).toNatClampNeg = 10 * i + 4 := cx hi5 4 (by decide)
      have v4 : vp_in ((10 : Int32) * nI i + 4) 52 := vx hi5 4 (by decide)
      have x5 : ((10 : Int32) * nI i + 5).toNatClampNeg = 10 * i + 5 := cx hi5 5 (by decide)
      have v5 : vp_in ((10 : Int32) * nI i + 5) 52 := vx hi5 5 (by decide)
      have x6 : ((10 : Int32) * nI i + 6).toNatClampNeg = 10 * i + 6 := cx hi5 6 (by decide)
      have v6 : vp_in ((10 : Int32) * nI i + 6) 52 := vx hi5 6 (by decide)
      have x7 : ((10 : Int32) * nI i + 7).toNatClampNeg = 10 * i + 7 := cx hi5 7 (by decide)
      have v7 : vp_in ((10 : Int32) * nI i + 7) 52 := vx hi5 7 (by decide)
      have x8 : ((10 : Int32) * nI i + 8).toNatClampNeg = 10 * i + 8 := cx hi5 8 (by decide)
      have v8 : vp_in ((10 : Int32) * nI i + 8) 52 := vx hi5 8 (by decide)
      have x9 : ((10 : Int32) * nI i + 9).toNatClampNeg = 10 * i + 9 := cx hi5 9 (by decide)
      have v9 : vp_in ((10 : Int32) * nI i + 9) 52 := vx hi5 9 (by decide)
      have L52 : ∀ w, w = (if M'.1 r (10 * i + 4) + M'.1 r (10 * i + 0) ≤ 999 then M'.1 r (10 * i + 4) + M'.1 r (10 * i + 0) else 999) → G 52 [some (.inr (.inr (12, 158))), some (.inr (.inr (13, r))), some (.inl f), some (.inl (nI i)), none, none] [.inl w, .inl (10 * nI i + 4), .inr (.inr (13, r))] M' := by
        intro w ew
        (apply h52; simp only [BX12_slotOn_52, s_mth, s_mab, s_at, s_iconst, s_lconst, s_iload, s_lload, s_aload, s_istore, s_lstore, s_astore, s_iinc, s_bin, s_binG, s_un, s_lbin, s_lbinG, s_lsh, s_lcmp, s_i2l, s_l2i, s_dup, s_dup2, s_pop, s_if, s_icmp, s_geti, s_getl, s_getr, s_puti, s_putz, s_putl, s_iald, s_zald, s_iast, s_zast, s_aaldS, s_aaldU, s_gets, s_tald, s_tsw, tsw, s_iret, s_zret, s_lret, s_aret, s_vret, s_callV, s_callS, c1, nl1, keepL, csum, pushR, inL, List.getD_cons_zero, List.getD_cons_succ, List.set_cons_zero, List.set_cons_succ, List.cons_append, List.nil_append, List.append_nil, List.replicate, List.length_cons, List.length_nil, List.take_succ_cons, List.take_zero, List.drop_succ_cons, List.drop_zero, List.reverse_cons, List.reverse_nil, true_and, and_true, forall_const, not_true_eq_false, not_false_eq_true, false_implies, true_implies, implies_true, one0, m10, Nat.reduceAdd, Nat.reduceSub, Nat.reduceLeDiff, Nat.zero_add, Nat.add_zero, fn_X12_hadSome, fn_X12_hasAny, fn_X12_sends, fn_X12_whoHas])
        simp only [hl, lM, x4, ei]
        refine ⟨v4, vp_in_nI hi5 (by decide), ?_⟩
        rw [nI_1, ew]
        exact ih (i + 1) (m1S r i M') (by omega) (PQ_m1 hP hi5) (by rw [m1_158 hP]; exact h158) hq
      (apply h2; simp only [BX12_slotOn_2, s_mth, s_mab, s_at, s_iconst, s_lconst, s_iload, s_lload, s_aload, s_istore, s_lstore, s_astore, s_iinc, s_bin, s_binG, s_un, s_lbin, s_lbinG, s_lsh, s_lcmp, s_i2l, s_l2i, s_dup, s_dup2, s_pop, s_if, s_icmp, s_geti, s_getl, s_getr, s_puti, s_putz, s_putl, s_iald, s_zald, s_iast, s_zast, s_aaldS, s_aaldU, s_gets, s_tald, s_tsw, tsw, s_iret, s_zret, s_lret, s_aret, s_vret, s_callV, s_callS, c1, nl1, keepL, csum, pushR, inL, List.getD_cons_zero, List.getD_cons_succ, List.set_cons_zero, List.set_cons_succ, List.cons_append, List.nil_append, List.append_nil, List.replicate, List.length_cons, List.length_nil, List.take_succ_cons, List.take_zero, List.drop_succ_cons, List.drop_zero, List.reverse_cons, List.reverse_nil, true_and, and_true, forall_const, not_true_eq_false, not_false_eq_true, false_implies, true_implies, implies_true, one0, m10, Nat.reduceAdd, Nat.reduceSub, Nat.reduceLeDiff, Nat.zero_add, Nat.add_zero, fn_X12_hadSome, fn_X12_hasAny, fn_X12_sends, fn_X12_whoHas])
      simp only [h158, en, hl, x4, x0]
      refine ⟨fun h => absurd h (nI_ge (by omega) (by omega)), fun _ => ⟨v4, v0, fun h => ?_, fun h => ?_⟩⟩
      · (apply h50; simp only [BX12_slotOn_50, s_mth, s_mab, s_at, s_iconst, s_lconst, s_iload, s_lload, s_aload, s_istore, s_lstore, s_astore, s_iinc, s_bin, s_binG, s_un, s_lbin, s_lbinG, s_lsh, s_lcmp, s_i2l, s_l2i, s_dup, s_dup2, s_pop, s_if, s_icmp, s_geti, s_getl, s_getr, s_puti, s_putz, s_putl, s_iald, s_zald, s_iast, s_zast, s_aaldS, s_aaldU, s_gets, s_tald, s_tsw, tsw, s_iret, s_zret, s_lret, s_aret, s_vret, s_callV, s_callS, c1, nl1, keepL, csum, pushR, inL, List.getD_cons_zero, List.getD_cons_succ, List.set_cons_zero, List.set_cons_succ, List.cons_append, List.nil_append, List.append_nil, List.replicate, List.length_cons, List.length_nil, List.take_succ_cons, List.take_zero, List.drop_succ_cons, List.drop_zero, List.reverse_cons, List.reverse_nil, true_and, and_true, forall_const, not_true_eq_false, not_false_eq_true, false_implies, true_implies, implies_true, one0, m10, Nat.reduceAdd, Nat.reduceSub, Nat.reduceLeDiff, Nat.zero_add, Nat.add_zero, fn_X12_hadSome, fn_X12_hasAny, fn_X12_sends, fn_X12_whoHas])
        exact L52 _ (by rw [if_pos h]; rfl)
      · exact L52 _ (by rw [if_neg h])
  (apply h0; simp only [BX12_slotOn_0, s_mth, s_mab, s_at, s_iconst, s_lconst, s_iload, s_lload, s_aload, s_istore, s_lstore, s_astore, s_iinc, s_bin, s_binG, s_un, s_lbin, s_lbinG, s_lsh, s_lcmp, s_i2l, s_l2i, s_dup, s_dup2, s_pop, s_if, s_icmp, s_geti, s_getl, s_getr, s_puti, s_putz, s_putl, s_iald, s_zald, s_iast, s_zast, s_aaldS, s_aaldU, s_gets, s_tald, s_tsw, tsw, s_iret, s_zret, s_lret, s_aret, s_vret, s_callV, s_callS, c1, nl1, keepL, csum, pushR, inL, List.getD_cons_zero, List.getD_cons_succ, List.set_cons_zero, List.set_cons_succ, List.cons_append, List.nil_append, List.append_nil, List.replicate, List.length_cons, List.length_nil, List.take_succ_cons, List.take_zero, List.drop_succ_cons, List.drop_zero, List.reverse_cons, List.reverse_nil, true_and, and_true, forall_const, not_true_eq_false, not_false_eq_true, false_implies, true_implies, implies_true, one0, m10, Nat.reduceAdd, Nat.reduceSub, Nat.reduceLeDiff, Nat.zero_add, Nat.add_zero, fn_X12_hadSome, fn_X12_hasAny, fn_X12_sends, fn_X12_whoHas])
  exact loop1 N 0 M (by omega) hPQ rfl hQ
theorem ct_X12_slotOn (l : Launch) : Con l yX12_slotOn cX12_slotOn 6 (Option.some FieldType.int) 3 pre_X12_slotOn fn_X12_slotOn := con_of (by decide +kernel) ok_X12_slotOn len_X12_slotOn (fun p e s m args below meth c D ca ad A as M hX hr hp ho => pf_X12_slotOn _ _ (bsX12_slotOn_0 hX hr) (bsX12_slotOn_2 hX hr) (bsX12_slotOn_50 hX hr) (bsX12_slotOn_52 hX hr) (bsX12_slotOn_66 hX hr) (bsX12_slotOn_68 hX hr) (bsX12_slotOn_90 hX hr) (bsX12_slotOn_96 hX hr) (bsX12_slotOn_119 hX hr) (bsX12_slotOn_125 hX hr) (bsX12_slotOn_130 hX hr) (bsX12_slotOn_232 hX hr) (bsX12_slotOn_236 hX hr) (bsX12_slotOn_245 hX hr) (bsX12_slotOn_252 hX hr) as M ho hp ⟨rfl, rfl⟩)
