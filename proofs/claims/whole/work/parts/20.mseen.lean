/-! the model: what was seen, places, counts -/
def TR (M M' : mM) : Prop := (∀ a, a ≠ 166 → a ≠ 176 → a ≠ 177 → M'.1 a = M.1 a) ∧ M'.2 = M.2
theorem TR_r {M : mM} : TR M M := ⟨fun _ _ _ _ => rfl, rfl⟩
theorem TR_t {M M' M'' : mM} (h : TR M M') (h' : TR M' M'') : TR M M'' := ⟨fun a g1 g2 g3 => (h'.1 a g1 g2 g3).trans (h.1 a g1 g2 g3), h'.2.trans h.2⟩
theorem TR_PM {M M' : mM} (h : TR M M') (hP : PM M) : PM M' := PM_of hP (by rw [h.1 158 (by decide) (by decide) (by decide)]) (by rw [h.1 158 (by decide) (by decide) (by decide)]) (h.1 161 (by decide) (by decide) (by decide))
theorem TR_PG {M M' : mM} {b : Nat} (h : TR M M') (hG : PG M 165 b) : PG M' 165 b := PG_n hG (by rw [h.1 165 (by decide) (by decide) (by decide)])
theorem TR_nM {M M' : mM} (h : TR M M') : nM M' = nM M := by unfold nM; rw [h.1 158 (by decide) (by decide) (by decide)]
theorem TR_lay {M : mM} : TR M (lay M) := ⟨fun _ h _ _ => lay_n h, rfl⟩
theorem TR_mset {M M' : mM} {j : Nat} {v : Int32} (h : TR M M') : TR M (mset M' 166 j v) := ⟨fun a g1 g2 g3 => by rw [mset_n g1]; exact h.1 a g1 g2 g3, h.2⟩
theorem TR_so {M M' : mM} {f : Int32} (h : TR M M') (hP : PM M') (hG : PG M' 166 0) : TR M (so M' 166 f).2 := by
  have g := SM_so (f := f) ⟨hP, hG⟩
  exact TR_t h ⟨fun a g1 g2 g3 => g.1 a g1 g2 g3, g.2.2.2⟩
theorem TR_sos {M M' : mM} {n : Nat} (h : TR M M') (hP : PM M') (hG : PG M' 166 n) : TR M (sos M' 166 n).2 := by
  have g := f_sos (r := 166) (b := 0) n 0 0 M' hP hG
  exact TR_t h ⟨fun a g1 g2 g3 => g.2.1 a g1 g2 g3, g.2.2.1⟩
def seA (M : mM) (z : Nat) (n u w v s : Int32) : mM := mset (mset (mset (mset (mset M 171 z n) 172 z u) 173 z w) 174 z v) 175 z s
def m_see (M : mM) (n u w v s : Int32) : Int32 × mM := if nu M u = 0 then (if wi n 0 9 = 0 then (-2, M) else if wi w 0 1 = 0 then (-2, M) else if wi v 0 99 = 0 then (-2, M) else if wi s 0 1 = 0 then (-2, M) else if M.1 158 23 = 6 then (-4, M) else (M.1 158 23 + 1, mset (seA M (M.1 158 23).toNatClampNeg n u w v s) 158 23 (M.1 158 23 + 1))) else (-1, M)
def pre_X12_see (as : List mV) (M : mM) : Prop := ∃ c n u w v s, as = [.inr (.inr (12, c)), .inl n, .inl u, .inl w, .inl v, .inl s] ∧ MI M
def fn_X12_see : List mV → mM → Option mV × mM
  | [.inr (.inr (_, c)), .inl n, .inl u, .inl w, .inl v, .inl s], M => (some (.inl (m_see (m0 M) n u w v s).1), (m_see (m0 M) n u w v s).2)
  | _, M => (none, M)
theorem ok_X12_see (as : List mV) (M : mM) (h : pre_X12_see as M) (_ : ∀ v ∈ as, okV v) : okR (fn_X12_see as M).1 := by
  obtain ⟨c, n, u, w, v, s, rfl, -⟩ := h
  first | trivial | exact (by decide +kernel : kof 14 = 8)
theorem len_X12_see (as : List mV) (M : mM) (h : pre_X12_see as M) : (inL as).length ≤ 6 := by
  obtain ⟨c, n, u, w, v, s, rfl, -⟩ := h
  exact Nat.le_of_ble_eq_true rfl

theorem fl_746 : FLk "FairBlocksModel" 198 12 23 0 := ⟨RX12, TX12, 32, rfl, inX12, by decide, w_746, by decide, rfl⟩
theorem fl_747 : FLk "FairBlocksModel" 64 12 24 16 := ⟨RX12, TX12, 32, rfl, inX12, by decide, w_747, by decide, rfl⟩
theorem fl_748 : FLk "FairBlocksModel" 67 12 25 16 := ⟨RX12, TX12, 32, rfl, inX12, by decide, w_748, by decide, rfl⟩
theorem fl_749 : FLk "FairBlocksModel" 70 12 26 16 := ⟨RX12, TX12, 32, rfl, inX12, by decide, w_749, by decide, rfl⟩
theorem fl_750 : FLk "FairBlocksModel" 73 12 27 16 := ⟨RX12, TX12, 32, rfl, inX12, by decide, w_750, by decide, rfl⟩
theorem fl_751 : FLk "FairBlocksModel" 76 12 28 16 := ⟨RX12, TX12, 32, rfl, inX12, by decide, w_751, by decide, rfl⟩
theorem fp_746 : FPk "FairBlocksModel" 198 12 23 0 .int := ⟨RX12, TX12, 32, tyX12, rfl, inX12, by decide, w_746, by decide, rfl, tyX12_ok, nmX12, rfl, rfl⟩
theorem dX12_see_0 : decode cX12_see 0 = .ok (.aload_n 0, 1) := by decide +kernel
theorem dX12_see_1 : decode cX12_see 1 = .ok (.iconst 0, 1) := by decide +kernel
theorem dX12_see_2 : decode cX12_see 2 = .ok (.putfield 1, 3) := by decide +kernel
theorem dX12_see_5 : decode cX12_see 5 = .ok (.aload_n 0, 1) := by decide +kernel
theorem dX12_see_6 : decode cX12_see 6 = .ok (.iload_n 2, 1) := by decide +kernel
theorem dX12_see_7 : decode cX12_see 7 = .ok (.invokevirtual 156, 3) := by decide +kernel
theorem dX12_see_10 : decode cX12_see 10 = .ok (.ifCond .eq 5, 3) := by decide +kernel
theorem dX12_see_13 : decode cX12_see 13 = .ok (.iconst (-1), 1) := by decide +kernel
theorem dX12_see_14 : decode cX12_see 14 = .ok (.ireturn, 1) := by decide +kernel
theorem dX12_see_15 : decode cX12_see 15 = .ok (.iload_n 1, 1) := by decide +kernel
theorem dX12_see_16 : decode cX12_see 16 = .ok (.i2l, 1) := by decide +kernel
theorem dX12_see_17 : decode cX12_see 17 = .ok (.lconst 0, 1) := by decide +kernel
theorem dX12_see_18 : decode cX12_see 18 = .ok (.ldc2_w 172, 3) := by decide +kernel
theorem dX12_see_21 : decode cX12_see 21 = .ok (.invokestatic 17, 3) := by decide +kernel
theorem dX12_see_24 : decode cX12_see 24 = .ok (.ifCond .eq 37, 3) := by decide +kernel
theorem dX12_see_27 : decode cX12_see 27 = .ok (.iload_n 3, 1) := by decide +kernel
theorem dX12_see_28 : decode cX12_see 28 = .ok (.i2l, 1) := by decide +kernel
theorem dX12_see_29 : decode cX12_see 29 = .ok (.lconst 0, 1) := by decide +kernel
theorem dX12_see_30 : decode cX12_see 30 = .ok (.lconst 1, 1) := by decide +kernel
theorem dX12_see_31 : decode cX12_see 31 = .ok (.invokestatic 17, 3) := by decide +kernel
theorem dX12_see_34 : decode cX12_see 34 = .ok (.ifCond .eq 27, 3) := by decide +kernel
theorem dX12_see_37 : decode cX12_see 37 = .ok (.iload 4, 2) := by decide +kernel
theorem dX12_see_39 : decode cX12_see 39 = .ok (.i2l, 1) := by decide +kernel
theorem dX12_see_40 : decode cX12_see 40 = .ok (.lconst 0, 1) := by decide +kernel
theorem dX12_see_41 : decode cX12_see 41 = .ok (.ldc2_w 162, 3) := by decide +kernel
theorem dX12_see_44 : decode cX12_see 44 = .ok (.invokestatic 17, 3) := by decide +kernel
theorem dX12_see_47 : decode cX12_see 47 = .ok (.ifCond .eq 14, 3) := by decide +kernel
theorem dX12_see_50 : decode cX12_see 50 = .ok (.iload 5, 2) := by decide +kernel
theorem dX12_see_52 : decode cX12_see 52 = .ok (.i2l, 1) := by decide +kernel
theorem dX12_see_53 : decode cX12_see 53 = .ok (.lconst 0, 1) := by decide +kernel
theorem dX12_see_54 : decode cX12_see 54 = .ok (.lconst 1, 1) := by decide +kernel
theorem dX12_see_55 : decode cX12_see 55 = .ok (.invokestatic 17, 3) := by decide +kernel
theorem dX12_see_58 : decode cX12_see 58 = .ok (.ifCond .ne 6, 3) := by decide +kernel
theorem dX12_see_61 : decode cX12_see 61 = .ok (.bipush (-2), 2) := by decide +kernel
theorem dX12_see_63 : decode cX12_see 63 = .ok (.ireturn, 1) := by decide +kernel
theorem dX12_see_64 : decode cX12_see 64 = .ok (.aload_n 0, 1) := by decide +kernel
theorem dX12_see_65 : decode cX12_see 65 = .ok (.getfield 198, 3) := by decide +kernel
theorem dX12_see_68 : decode cX12_see 68 = .ok (.bipush 6, 2) := by decide +kernel
theorem dX12_see_70 : decode cX12_see 70 = .ok (.if_icmp .ne 6, 3) := by decide +kernel
theorem dX12_see_73 : decode cX12_see 73 = .ok (.bipush (-4), 2) := by decide +kernel
theorem dX12_see_75 : decode cX12_see 75 = .ok (.ireturn, 1) := by decide +kernel
theorem dX12_see_76 : decode cX12_see 76 = .ok (.aload_n 0, 1) := by decide +kernel
theorem dX12_see_77 : decode cX12_see 77 = .ok (.getfield 64, 3) := by decide +kernel
theorem dX12_see_80 : decode cX12_see 80 = .ok (.aload_n 0, 1) := by decide +kernel
theorem dX12_see_81 : decode cX12_see 81 = .ok (.getfield 198, 3) := by decide +kernel
theorem dX12_see_84 : decode cX12_see 84 = .ok (.iload_n 1, 1) := by decide +kernel
theorem dX12_see_85 : decode cX12_see 85 = .ok (.iastore, 1) := by decide +kernel
theorem dX12_see_86 : decode cX12_see 86 = .ok (.aload_n 0, 1) := by decide +kernel
theorem dX12_see_87 : decode cX12_see 87 = .ok (.getfield 67, 3) := by decide +kernel
theorem dX12_see_90 : decode cX12_see 90 = .ok (.aload_n 0, 1) := by decide +kernel
theorem dX12_see_91 : decode cX12_see 91 = .ok (.getfield 198, 3) := by decide +kernel
theorem dX12_see_94 : decode cX12_see 94 = .ok (.iload_n 2, 1) := by decide +kernel
theorem dX12_see_95 : decode cX12_see 95 = .ok (.iastore, 1) := by decide +kernel
theorem dX12_see_96 : decode cX12_see 96 = .ok (.aload_n 0, 1) := by decide +kernel
theorem dX12_see_97 : decode cX12_see 97 = .ok (.getfield 70, 3) := by decide +kernel
theorem dX12_see_100 : decode cX12_see 100 = .ok (.aload_n 0, 1) := by decide +kernel
theorem dX12_see_101 : decode cX12_see 101 = .ok (.getfield 198, 3) := by decide +kernel
theorem dX12_see_104 : decode cX12_see 104 = .ok (.iload_n 3, 1) := by decide +kernel
theorem dX12_see_105 : decode cX12_see 105 = .ok (.iastore, 1) := by decide +kernel
theorem dX12_see_106 : decode cX12_see 106 = .ok (.aload_n 0, 1) := by decide +kernel
theorem dX12_see_107 : decode cX12_see 107 = .ok (.getfield 73, 3) := by decide +kernel
theorem dX12_see_110 : decode cX12_see 110 = .ok (.aload_n 0, 1) := by decide +kernel
theorem dX12_see_111 : decode cX12_see 111 = .ok (.getfield 198, 3) := by decide +kernel
theorem dX12_see_114 : decode cX12_see 114 = .ok (.iload 4, 2) := by decide +kernel
theorem dX12_see_116 : decode cX12_see 116 = .ok (.iastore, 1) := by decide +kernel
theorem dX12_see_117 : decode cX12_see 117 = .ok (.aload_n 0, 1) := by decide +kernel
theorem dX12_see_118 : decode cX12_see 118 = .ok (.getfield 76, 3) := by decide +kernel
theorem dX12_see_121 : decode cX12_see 121 = .ok (.aload_n 0, 1) := by decide +kernel
theorem dX12_see_122 : decode cX12_see 122 = .ok (.getfield 198, 3) := by decide +kernel
theorem dX12_see_125 : decode cX12_see 125 = .ok (.iload 5, 2) := by decide +kernel
theorem dX12_see_127 : decode cX12_see 127 = .ok (.iastore, 1) := by decide +kernel
theorem dX12_see_128 : decode cX12_see 128 = .ok (.aload_n 0, 1) := by decide +kernel
theorem dX12_see_129 : decode cX12_see 129 = .ok (.dup, 1) := by decide +kernel
theorem dX12_see_130 : decode cX12_see 130 = .ok (.getfield 198, 3) := by decide +kernel
theorem dX12_see_133 : decode cX12_see 133 = .ok (.iconst 1, 1) := by decide +kernel
theorem dX12_see_134 : decode cX12_see 134 = .ok (.iadd, 1) := by decide +kernel
theorem dX12_see_135 : decode cX12_see 135 = .ok (.putfield 198, 3) := by decide +kernel
theorem dX12_see_138 : decode cX12_see 138 = .ok (.aload_n 0, 1) := by decide +kernel
theorem dX12_see_139 : decode cX12_see 139 = .ok (.getfield 198, 3) := by decide +kernel
theorem dX12_see_142 : decode cX12_see 142 = .ok (.ireturn, 1) := by decide +kernel
theorem mk_X12_see : MVk yX12_see "FairBlocksModel" cX12_see 6 (Option.some FieldType.int) 5 := ⟨w_984, w_982, w_983, w_13, rfl, by decide +kernel, by decide +kernel, by decide +kernel⟩
def BX12_see_0 (G : Nat → KT) (Q : Option mV → mM → Prop) : KT := (s_aload 0 (s_iconst (0) (s_puti 12 0 (s_aload 0 (s_iload 2 (s_callV 12 1 pre_X12_noUser fn_X12_noUser (s_if (fun x => x = 0) (s_at G 15 [true, true, true, true, true, true]) (s_iconst (-1) (s_iret Q)))))))))
set_option maxRecDepth 4000 in
theorem bsX12_see_0 {p : Program} {l : Launch} {e : Env} {s : State} {m : MethodId} {args : Array Value} {below : List Frame} {meth : Method} {c : Code} {D : va_G} {ca : Nat → ClassId} {ad : Nat → Nat} {A : Nat → Prop} {Q : Option mV → mM → Prop} (hX : CX p s m args meth c 6 cX12_see "FairBlocksModel" D ca ad A) (hr : meth.sig.returnType = (Option.some FieldType.int)) : ∀ lv st M, BX12_see_0 (Gd p l e (rmD 2) s m args below meth c 6 D ca ad A 0 0 (MQ below (QC D ca ad A Q) args s 0 0 A)) Q lv st M → Gd p l e (rmD 2) s m args below meth c 6 D ca ad A 0 0 (MQ below (QC D ca ad A Q) args s 0 0 A) 0 lv st M :=
  (sd_aload_n hX dX12_see_0 rfl (sd_iconst hX dX12_see_1 rfl (sd_puti hX fp_723 dX12_see_2 (sd_aload_n hX dX12_see_5 rfl (sd_iload_n hX dX12_see_6 rfl (sd_callV hX (kd := 12) rfl (by decide) (ct_X12_noUser l) mk_X12_noUser w_860 ⟨⟨by decide, by decide⟩, by decide, by decide⟩ dX12_see_7 (sd_if_eq hX dX12_see_10 (by decide) sd_at (sd_iconst hX dX12_see_13 rfl (sd_iret hX hr dX12_see_14)))))))))
def BX12_see_15 (G : Nat → KT) (Q : Option mV → mM → Prop) : KT := (s_iload 1 (s_i2l (s_lconst 0 (s_lconst (9) (s_callS 3 pre_X12_in fn_X12_in (s_if (fun x => x = 0) (s_at G 61 [false, false, false, false, false, false]) (s_iload 3 (s_i2l (s_lconst 0 (s_lconst 1 (s_callS 3 pre_X12_in fn_X12_in (s_if (fun x => x = 0) (s_at G 61 [false, false, false, false, false, false]) (s_iload 4 (s_i2l (s_lconst 0 (s_lconst (99) (s_callS 3 pre_X12_in fn_X12_in (s_if (fun x => x = 0) (s_at G 61 [false, false, false, false, false, false]) (s_iload 5 (s_i2l (s_lconst 0 (s_lconst 1 (s_callS 3 pre_X12_in fn_X12_in (s_if (fun x => x = 0) ((s_at G 61 [false, false, false, false, false, false])) (s_at G 64 [true, true, true, true, true, true])))))))))))))))))))))))))
set_option maxRecDepth 4000 in
theorem bsX12_see_15 {p : Program} {l : Launch} {e : Env} {s : State} {m : MethodId} {args : Array Value} {below : List Frame} {meth : Method} {c : Code} {D : va_G} {ca : Nat → ClassId} {ad : Nat → Nat} {A : Nat → Prop} {Q : Option mV → mM → Prop} (hX : CX p s m args meth c 6 cX12_see "FairBlocksModel" D ca ad A) (hr : meth.sig.returnType = (Option.some FieldType.int)) : ∀ lv st M, BX12_see_15 (Gd p l e (rmD 2) s m args below meth c 6 D ca ad A 0 0 (MQ below (QC D ca ad A Q) args s 0 0 A)) Q lv st M → Gd p l e (rmD 2) s m args below meth c 6 D ca ad A 0 0 (MQ below (QC D ca ad A Q) args s 0 0 A) 15 lv st M :=
  (sd_iload_n hX dX12_see_15 rfl (sd_i2l hX dX12_see_16 (sd_lconst hX dX12_see_17 rfl (sd_ldc2 hX w_926 dX12_see_18 (sd_callS hX (ct_X12_in l) mk_X12_in w_825 ⟨⟨by decide, by decide⟩, by decide, by decide⟩ dX12_see_21 (sd_if_eq hX dX12_see_24 (by decide) sd_at (sd_iload_n hX dX12_see_27 rfl (sd_i2l hX dX12_see_28 (sd_lconst hX dX12_see_29 rfl (sd_lconst hX dX12_see_30 rfl (sd_callS hX (ct_X12_in l) mk_X12_in w_825 ⟨⟨by decide, by decide⟩, by decide, by decide⟩ dX12_see_31 (sd_if_eq hX dX12_see_34 (by decide) sd_at (sd_iload hX dX12_see_37 (sd_i2l hX dX12_see_39 (sd_lconst hX dX12_see_40 rfl (sd_ldc2 hX w_873 dX12_see_41 (sd_callS hX (ct_X12_in l) mk_X12_in w_825 ⟨⟨by decide, by decide⟩, by decide, by decide⟩ dX12_see_44 (sd_if_eq hX dX12_see_47 (by decide) sd_at (sd_iload hX dX12_see_50 (sd_i2l hX dX12_see_52 (sd_lconst hX dX12_see_53 rfl (sd_lconst hX dX12_see_54 rfl (sd_callS hX (ct_X12_in l) mk_X12_in w_825 ⟨⟨by decide, by decide⟩, by decide, by decide⟩ dX12_see_55 (sd_if_ne hX dX12_see_58 (by decide) sd_at sd_at))))))))))))))))))))))))
def BX12_see_61 (G : Nat → KT) (Q : Option mV → mM → Prop) : KT := (s_iconst (-2) (s_iret Q))
set_option maxRecDepth 4000 in
theorem bsX12_see_61 {p : Program} {l : Launch} {e : Env} {s : State} {m : MethodId} {args : Array Value} {below : List Frame} {meth : Method} {c : Code} {D : va_G} {ca : Nat → ClassId} {ad : Nat → Nat} {A : Nat → Prop} {Q : Option mV → mM → Prop} (hX : CX p s m args meth c 6 cX12_see "FairBlocksModel" D ca ad A) (hr : meth.sig.returnType = (Option.some FieldType.int)) : ∀ lv st M, BX12_see_61 (Gd p l e (rmD 2) s m args below meth c 6 D ca ad A 0 0 (MQ below (QC D ca ad A Q) args s 0 0 A)) Q lv st M → Gd p l e (rmD 2) s m args below meth c 6 D ca ad A 0 0 (MQ below (QC D ca ad A Q) args s 0 0 A) 61 lv st M :=
  (sd_bipush hX dX12_see_61 rfl (sd_iret hX hr dX12_see_63))
def BX12_see_64 (G : Nat → KT) (Q : Option mV → mM → Prop) : KT := (s_aload 0 (s_geti 12 23 (s_iconst (6) (s_icmp (fun x y => x = y) ((s_iconst (-4) (s_iret Q))) (s_at G 76 [true, true, true, true, true, true])))))
set_option maxRecDepth 4000 in
theorem bsX12_see_64 {p : Program} {l : Launch} {e : Env} {s : State} {m : MethodId} {args : Array Value} {below : List Frame} {meth : Method} {c : Code} {D : va_G} {ca : Nat → ClassId} {ad : Nat → Nat} {A : Nat → Prop} {Q : Option mV → mM → Prop} (hX : CX p s m args meth c 6 cX12_see "FairBlocksModel" D ca ad A) (hr : meth.sig.returnType = (Option.some FieldType.int)) : ∀ lv st M, BX12_see_64 (Gd p l e (rmD 2) s m args below meth c 6 D ca ad A 0 0 (MQ below (QC D ca ad A Q) args s 0 0 A)) Q lv st M → Gd p l e (rmD 2) s m args below meth c 6 D ca ad A 0 0 (MQ below (QC D ca ad A Q) args s 0 0 A) 64 lv st M :=
  (sd_aload_n hX dX12_see_64 rfl (sd_geti hX fl_746 (by decide) dX12_see_65 (sd_bipush hX dX12_see_68 rfl (sd_icmp_ne hX dX12_see_70 (by decide) sd_at (sd_bipush hX dX12_see_73 rfl (sd_iret hX hr dX12_see_75))))))
def BX12_see_76 (G : Nat → KT) (Q : Option mV → mM → Prop) : KT := (s_aload 0 (s_getr 12 13 (fun _ => 171) (s_aload 0 (s_geti 12 23 (s_iload 1 (s_iast (s_aload 0 (s_getr 12 13 (fun _ => 172) (s_aload 0 (s_geti 12 23 (s_iload 2 (s_iast (s_aload 0 (s_getr 12 13 (fun _ => 173) (s_aload 0 (s_geti 12 23 (s_iload 3 (s_iast (s_aload 0 (s_getr 12 13 (fun _ => 174) (s_aload 0 (s_geti 12 23 (s_iload 4 (s_iast (s_aload 0 (s_getr 12 13 (fun _ => 175) (s_aload 0 (s_geti 12 23 (s_iload 5 (s_iast (s_aload 0 (s_dup (s_geti 12 23 (s_iconst (1) (s_bin (fun x y => x + y) (s_puti 12 23 (s_aload 0 (s_geti 12 23 (s_iret Q)))))))))))))))))))))))))))))))))))))))
set_option maxRecDepth 4000 in
theorem bsX12_see_76 {p : Program} {l : Launch} {e : Env} {s : State} {m : MethodId} {args : Array Value} {below : List Frame} {meth : Method} {c : Code} {D : va_G} {ca : Nat → ClassId} {ad : Nat → Nat} {A : Nat → Prop} {Q : Option mV → mM → Prop} (hX : CX p s m args meth c 6 cX12_see "FairBlocksModel" D ca ad A) (hr : meth.sig.returnType = (Option.some FieldType.int)) : ∀ lv st M, BX12_see_76 (Gd p l e (rmD 2) s m args below meth c 6 D ca ad A 0 0 (MQ below (QC D ca ad A Q) args s 0 0 A)) Q lv st M → Gd p l e (rmD 2) s m args below meth c 6 D ca ad A 0 0 (MQ below (QC D ca ad A Q) args s 0 0 A) 76 lv st M :=
  (sd_aload_n hX dX12_see_76 rfl (sd_getr hX fl_747 (fun _ => rfl) (fun _ _ _ => by decide +kernel) dX12_see_77 (sd_aload_n hX dX12_see_80 rfl (sd_geti hX fl_746 (by decide) dX12_see_81 (sd_iload_n hX dX12_see_84 rfl (sd_iast hX dX12_see_85 (sd_aload_n hX dX12_see_86 rfl (sd_getr hX fl_748 (fun _ => rfl) (fun _ _ _ => by decide +kernel) dX12_see_87 (sd_aload_n hX dX12_see_90 rfl (sd_geti hX fl_746 (by decide) dX12_see_91 (sd_iload_n hX dX12_see_94 rfl (sd_iast hX dX12_see_95 (sd_aload_n hX dX12_see_96 rfl (sd_getr hX fl_749 (fun _ => rfl) (fun _ _ _ => by decide +kernel) dX12_see_97 (sd_aload_n hX dX12_see_100 rfl (sd_geti hX fl_746 (by decide) dX12_see_101 (sd_iload_n hX dX12_see_104 rfl (sd_iast hX dX12_see_105 (sd_aload_n hX dX12_see_106 rfl (sd_getr hX fl_750 (fun _ => rfl) (fun _ _ _ => by decide +kernel) dX12_see_107 (sd_aload_n hX dX12_see_110 rfl (sd_geti hX fl_746 (by decide) dX12_see_111 (sd_iload hX dX12_see_114 (sd_iast hX dX12_see_116 (sd_aload_n hX dX12_see_117 rfl (sd_getr hX fl_751 (fun _ => rfl) (fun _ _ _ => by decide +kernel) dX12_see_118 (sd_aload_n hX dX12_see_121 rfl (sd_geti hX fl_746 (by decide) dX12_see_122 (sd_iload hX dX12_see_125 (sd_iast hX dX12_see_127 (sd_aload_n hX dX12_see_128 rfl (sd_dup hX dX12_see_129 (sd_geti hX fl_746 (by decide) dX12_see_130 (sd_iconst hX dX12_see_133 rfl (sd_iadd hX dX12_see_134 (sd_puti hX fp_746 dX12_see_135 (sd_aload_n hX dX12_see_138 rfl (sd_geti hX fl_746 (by decide) dX12_see_139 (sd_iret hX hr dX12_see_142)))))))))))))))))))))))))))))))))))))))
set_option maxHeartbeats 400000 in
theorem pf_X12_see (G : Nat → KT) (Q : Option mV → mM → Prop) (h0 : ∀ lv st M, BX12_see_0 G Q lv st M → G 0 lv st M) (h15 : ∀ lv st M, BX12_see_15 G Q lv st M → G 15 lv st M) (h61 : ∀ lv st M, BX12_see_61 G Q lv st M → G 61 lv st M) (h64 : ∀ lv st M, BX12_see_64 G Q lv st M → G 64 lv st M) (h76 : ∀ lv st M, BX12_see_76 G Q lv st M → G 76 lv st M) (as : List mV) (M : mM) (ho : ∀ v ∈ as, okV v) (hp : pre_X12_see as M) (hQ : Q (fn_X12_see as M).1 (fn_X12_see as M).2) : G 0 (inL as ++ List.replicate (6 - (inL as).length) none) [] M := by
  obtain ⟨c, n, u, w, v, s, rfl, hM⟩ := hp
  obtain rfl : c = 158 := k12 (ho (.inr (.inr (12, c))) (by simp))
  have hI := MI_0 hM
  have e1 : iL n.toInt64 0 9 = wi n 0 9 := iLw n 0 9
  have e2 : iL w.toInt64 0 1 = wi w 0 1 := iLw w 0 1
  have e3 : iL v.toInt64 0 99 = wi v 0 99 := iLw v 0 99
  have e4 : iL s.toInt64 0 1 = wi s 0 1 := iLw s 0 1
  simp only [fn_X12_see, m_see] at hQ
  have F : ∀ M, Q (some (.inl (-2))) M → G 61 [none, none, none, none, none, none] [] M := by
    intro M hQ
    (apply h61; simp only [BX12_see_61, s_mth, s_mab, s_at, s_iconst, s_lconst, s_iload, s_lload, s_aload, s_istore, s_lstore, s_astore, s_iinc, s_bin, s_binG, s_un, s_lbin, s_lbinG, s_lsh, s_lcmp, s_i2l, s_l2i, s_dup, s_dup2, s_pop, s_if, s_icmp, s_geti, s_getl, s_getr, s_puti, s_putz, s_putl, s_iald, s_zald, s_iast, s_zast, s_aaldS, s_aaldU, s_gets, s_tald, s_tsw, tsw, s_iret, s_zret, s_lret, s_aret, s_vret, s_callV, s_callS, c1, nl1, keepL, csum, pushR, inL, List.getD_cons_zero, List.getD_cons_succ, List.set_cons_zero, List.set_cons_succ, List.cons_append, List.nil_append, List.append_nil, List.replicate, List.length_cons, List.length_nil, List.take_succ_cons, List.take_zero, List.drop_succ_cons, List.drop_zero, List.reverse_cons, List.reverse_nil, true_and, and_true, forall_const, not_true_eq_false, not_false_eq_true, false_implies, true_implies, implies_true, one0, m10, Nat.reduceAdd, Nat.reduceSub, Nat.reduceLeDiff, Nat.zero_add, Nat.add_zero, fn_X12_in, fn_X12_noUser])
    exact hQ
  (apply h0; simp only [BX12_see_0, s_mth, s_mab, s_at, s_iconst, s_lconst, s_iload, s_lload, s_aload, s_istore, s_lstore, s_astore, s_iinc, s_bin, s_binG, s_un, s_lbin, s_lbinG, s_lsh, s_lcmp, s_i2l, s_l2i, s_dup, s_dup2, s_pop, s_if, s_icmp, s_geti, s_getl, s_getr, s_puti, s_putz, s_putl, s_iald, s_zald, s_iast, s_zast, s_aaldS, s_aaldU, s_gets, s_tald, s_tsw, tsw, s_iret, s_zret, s_lret, s_aret, s_vret, s_callV, s_callS, c1, nl1, keepL, csum, pushR, inL, List.getD_cons_zero, List.getD_cons_succ, List.set_cons_zero, List.set_cons_succ, List.cons_append, List.nil_append, List.append_nil, List.replicate, List.length_cons, List.length_nil, List.take_succ_cons, List.take_zero, List.drop_succ_cons, List.drop_zero, List.reverse_cons, List.reverse_nil, true_and, and_true, forall_const, not_true_eq_false, not_false_eq_true, false_implies, true_implies, implies_true, one0, m10, Nat.reduceAdd, Nat.reduceSub, Nat.reduceLeDiff, Nat.zero_add, Nat.add_zero, fn_X12_in, fn_X12_noUser])
  rw [show mset M 158 0 0 = m0 M from rfl]
  generalize m0 M = M0 at *
  refine ⟨⟨_, _, rfl⟩, fun h => ?_, fun h => ?_⟩
  · rw [if_pos h] at hQ
    (apply h15; simp only [BX12_see_15, s_mth, s_mab, s_at, s_iconst, s_lconst, s_iload, s_lload, s_aload, s_istore, s_lstore, s_astore, s_iinc, s_bin, s_binG, s_un, s_lbin, s_lbinG, s_lsh, s_lcmp, s_i2l, s_l2i, s_dup, s_dup2, s_pop, s_if, s_icmp, s_geti, s_getl, s_getr, s_puti, s_putz, s_putl, s_iald, s_zald, s_iast, s_zast, s_aaldS, s_aaldU, s_gets, s_tald, s_tsw, tsw, s_iret, s_zret, s_lret, s_aret, s_vret, s_callV, s_callS, c1, nl1, keepL, csum, pushR, inL, List.getD_cons_zero, List.getD_cons_succ, List.set_cons_zero, List.set_cons_succ, List.cons_append, List.nil_append, List.append_nil, List.replicate, List.length_cons, List.length_nil, List.take_succ_cons, List.take_zero, List.drop_succ_cons, List.drop_zero, List.reverse_cons, List.reverse_nil, true_and, and_true, forall_const, not_true_eq_false, not_false_eq_true, false_implies, true_implies, implies_true, one0, m10, Nat.reduceAdd, Nat.reduceSub, Nat.reduceLeDiff, Nat.zero_add, Nat.add_zero, fn_X12_in, fn_X12_noUser])
    rw [e1, e2, e3, e4]
    refine ⟨⟨_, _, _, rfl⟩, fun g1 => ?_, fun g1 => ⟨⟨_, _, _, rfl⟩, fun g2 => ?_, fun g2 => ⟨⟨_, _, _, rfl⟩, fun g3 => ?_, fun g3 => ⟨⟨_, _, _, rfl⟩, fun g4 => ?_, fun g4 => ?_⟩⟩⟩⟩
    · rw [if_pos g1] at hQ; exact F _ hQ
    · rw [if_neg g1, if_pos g2] at hQ; exact F _ hQ
    · rw [if_neg g1, if_neg g2, if_pos g3] at hQ; exact F _ hQ
    · rw [if_neg g1, if_neg g2, if_neg g3, if_pos g4] at hQ; exact F _ hQ
    · rw [if_neg g1, if_neg g2, if_neg g3, if_neg g4] at hQ
      (apply h64; simp only [BX12_see_64, s_mth, s_mab, s_at, s_iconst, s_lconst, s_iload, s_lload, s_aload, s_istore, s_lstore, s_astore, s_iinc, s_bin, s_binG, s_un, s_lbin, s_lbinG, s_lsh, s_lcmp, s_i2l, s_l2i, s_dup, s_dup2, s_pop, s_if, s_icmp, s_geti, s_getl, s_getr, s_puti, s_putz, s_putl, s_iald, s_zald, s_iast, s_zast, s_aaldS, s_aaldU, s_gets, s_tald, s_tsw, tsw, s_iret, s_zret, s_lret, s_aret, s_vret, s_callV, s_callS, c1, nl1, keepL, csum, pushR, inL, List.getD_cons_zero, List.getD_cons_succ, List.set_cons_zero, List.set_cons_succ, List.cons_append, List.nil_append, List.append_nil, List.replicate, List.length_cons, List.length_nil, List.take_succ_cons, List.take_zero, List.drop_succ_cons, List.drop_zero, List.reverse_cons, List.reverse_nil, true_and, and_true, forall_const, not_true_eq_false, not_false_eq_true, false_implies, true_implies, implies_true, one0, m10, Nat.reduceAdd, Nat.reduceSub, Nat.reduceLeDiff, Nat.zero_add, Nat.add_zero, fn_X12_in, fn_X12_noUser])
      refine ⟨fun g5 => ?_, fun g5 => ?_⟩
      · rw [if_pos g5] at hQ; exact hQ
      · rw [if_neg g5] at hQ
        obtain ⟨z, hz, ez, -⟩ := hI.2.2.2.1
        have hz6 : z ≠ 6 := fun g => g5 (by rw [ez, g]; rfl)
        have hv : vp_in (nI z) 6 := vz (by omega) (by decide)
        unfold seA at hQ
        rw [ez] at hQ
        (apply h76; simp only [BX12_see_76, s_mth, s_mab, s_at, s_iconst, s_lconst, s_iload, s_lload, s_aload, s_istore, s_lstore, s_astore, s_iinc, s_bin, s_binG, s_un, s_lbin, s_lbinG, s_lsh, s_lcmp, s_i2l, s_l2i, s_dup, s_dup2, s_pop, s_if, s_icmp, s_geti, s_getl, s_getr, s_puti, s_putz, s_putl, s_iald, s_zald, s_iast, s_zast, s_aaldS, s_aaldU, s_gets, s_tald, s_tsw, tsw, s_iret, s_zret, s_lret, s_aret, s_vret, s_callV, s_callS, c1, nl1, keepL, csum, pushR, inL, List.getD_cons_zero, List.getD_cons_succ, List.set_cons_zero, List.set_cons_succ, List.cons_append, List.nil_append, List.append_nil, List.replicate, List.length_cons, List.length_nil, List.take_succ_cons, List.take_zero, List.drop_succ_cons, List.drop_zero, List.reverse_cons, List.reverse_nil, true_and, and_true, forall_const, not_true_eq_false, not_false_eq_true, false_implies, true_implies, implies_true, one0, m10, Nat.reduceAdd, Nat.reduceSub, Nat.reduceLeDiff, Nat.zero_add, Nat.add_zero, fn_X12_in, fn_X12_noUser])
        simp only [mset_get, Nat.reduceEqDiff, false_and, if_false, and_self, if_true, ez, lM]
        exact ⟨hv, hv, hv, hv, hv, hQ⟩
  · rw [if_neg h] at hQ; exact hQ
theorem ct_X12_see (l : Launch) : Con l yX12_see cX12_see 6 (Option.some FieldType.int) 2 pre_X12_see fn_X12_see := con_of (by decide +kernel) ok_X12_see len_X12_see (fun p e s m args below meth c D ca ad A as M hX hr hp ho => pf_X12_see _ _ (bsX12_see_0 hX hr) (bsX12_see_15 hX hr) (bsX12_see_61 hX hr) (bsX12_see_64 hX hr) (bsX12_see_76 hX hr) as M ho hp ⟨rfl, rfl⟩)
def pre_X12_unsee (as : List mV) (M : mM) : Prop := ∃ c, as = [.inr (.inr (12, c))]
def fn_X12_unsee : List mV → mM → Option mV × mM
  | [.inr (.inr (_, c))], M => (some (.inl ((m0 M).1 158 23)), mset (m0 M) 158 23 0)
  | _, M => (none, M)
theorem ok_X12_unsee (as : List mV) (M : mM) (h : pre_X12_unsee as M) (_ : ∀ v ∈ as, okV v) : okR (fn_X12_unsee as M).1 := by
  obtain ⟨c, rfl⟩ := h
  first | trivial | exact (by decide +kernel : kof 14 = 8)
theorem len_X12_unsee (as : List mV) (M : mM) (h : pre_X12_unsee as M) : (inL as).length ≤ 2 := by
  obtain ⟨c, rfl⟩ := h
  exact Nat.le_of_ble_eq_true rfl


theorem dX12_unsee_0 : decode cX12_unsee 0 = .ok (.aload_n 0, 1) := by decide +kernel
theorem dX12_unsee_1 : decode cX12_unsee 1 = .ok (.iconst 0, 1) := by decide +kernel
theorem dX12_unsee_2 : decode cX12_unsee 2 = .ok (.putfield 1, 3) := by decide +kernel
theorem dX12_unsee_5 : decode cX12_unsee 5 = .ok (.aload_n 0, 1) := by decide +kernel
theorem dX12_unsee_6 : decode cX12_unsee 6 = .ok (.getfield 198, 3) := by decide +kernel
theorem dX12_unsee_9 : decode cX12_unsee 9 = .ok (.istore_n 1, 1) := by decide +kernel
theorem dX12_unsee_10 : decode cX12_unsee 10 = .ok (.aload_n 0, 1) := by decide +kernel
theorem dX12_unsee_11 : decode cX12_unsee 11 = .ok (.iconst 0, 1) := by decide +kernel
theorem dX12_unsee_12 : decode cX12_unsee 12 = .ok (.putfield 198, 3) := by decide +kernel
theorem dX12_unsee_15 : decode cX12_unsee 15 = .ok (.iload_n 1, 1) := by decide +kernel
theorem dX12_unsee_16 : decode cX12_unsee 16 = .ok (.ireturn, 1) := by decide +kernel
theorem mk_X12_unsee : MVk yX12_unsee "FairBlocksModel" cX12_unsee 2 (Option.some FieldType.int) 0 := ⟨w_988, w_986, w_987, w_13, rfl, by decide +kernel, by decide +kernel, by decide +kernel⟩
def BX12_unsee_0 (G : Nat → KT) (Q : Option mV → mM → Prop) : KT := (s_aload 0 (s_iconst (0) (s_puti 12 0 (s_aload 0 (s_geti 12 23 (s_istore 1 (s_aload 0 (s_iconst (0) (s_puti 12 23 (s_iload 1 (s_iret Q)))))))))))
set_option maxRecDepth 4000 in
theorem bsX12_unsee_0 {p : Program} {l : Launch} {e : Env} {s : State} {m : MethodId} {args : Array Value} {below : List Frame} {meth : Method} {c : Code} {D : va_G} {ca : Nat → ClassId} {ad : Nat → Nat} {A : Nat → Prop} {Q : Option mV → mM → Prop} (hX : CX p s m args meth c 2 cX12_unsee "FairBlocksModel" D ca ad A) (hr : meth.sig.returnType = (Option.some FieldType.int)) : ∀ lv st M, BX12_unsee_0 (Gd p l e (rmD 0) s m args below meth c 2 D ca ad A 0 0 (MQ below (QC D ca ad A Q) args s 0 0 A)) Q lv st M → Gd p l e (rmD 0) s m args below meth c 2 D ca ad A 0 0 (MQ below (QC D ca ad A Q) args s 0 0 A) 0 lv st M :=
  (sd_aload_n hX dX12_unsee_0 rfl (sd_iconst hX dX12_unsee_1 rfl (sd_puti hX fp_723 dX12_unsee_2 (sd_aload_n hX dX12_unsee_5 rfl (sd_geti hX fl_746 (by decide) dX12_unsee_6 (sd_istore_n hX (by decide) dX12_unsee_9 rfl (sd_aload_n hX dX12_unsee_10 rfl (sd_iconst hX dX12_unsee_11 rfl (sd_puti hX fp_746 dX12_unsee_12 (sd_iload_n hX dX12_unsee_15 rfl (sd_iret hX hr dX12_unsee_16)))))))))))
set_option maxHeartbeats 400000 in
theorem pf_X12_unsee (G : Nat → KT) (Q : Option mV → mM → Prop) (h0 : ∀ lv st M, BX12_unsee_0 G Q lv st M → G 0 lv st M) (as : List mV) (M : mM) (ho : ∀ v ∈ as, okV v) (hp : pre_X12_unsee as M) (hQ : Q (fn_X12_unsee as M).1 (fn_X12_unsee as M).2) : G 0 (inL as ++ List.replicate (2 - (inL as).length) none) [] M := by
  obtain ⟨c, rfl⟩ := hp
  obtain rfl : c = 158 := k12 (ho (.inr (.inr (12, c))) (by simp))
  simp only [fn_X12_unsee] at hQ
  (apply h0; simp only [BX12_unsee_0, s_mth, s_mab, s_at, s_iconst, s_lconst, s_iload, s_lload, s_aload, s_istore, s_lstore, s_astore, s_iinc, s_bin, s_binG, s_un, s_lbin, s_lbinG, s_lsh, s_lcmp, s_i2l, s_l2i, s_dup, s_dup2, s_pop, s_if, s_icmp, s_geti, s_getl, s_getr, s_puti, s_putz, s_putl, s_iald, s_zald, s_iast, s_zast, s_aaldS, s_aaldU, s_gets, s_tald, s_tsw, tsw, s_iret, s_zret, s_lret, s_aret, s_vret, s_callV, s_callS, c1, nl1, keepL, csum, pushR, inL, List.getD_cons_zero, List.getD_cons_succ, List.set_cons_zero, List.set_cons_succ, List.cons_append, List.nil_append, List.append_nil, List.replicate, List.length_cons, List.length_nil, List.take_succ_cons, List.take_zero, List.drop_succ_cons, List.drop_zero, List.reverse_cons, List.reverse_nil, true_and, and_true, forall_const, not_true_eq_false, not_false_eq_true, false_implies, true_implies, implies_true, one0, m10, Nat.reduceAdd, Nat.reduceSub, Nat.reduceLeDiff, Nat.zero_add, Nat.add_zero])
  exact hQ
theorem ct_X12_unsee (l : Launch) : Con l yX12_unsee cX12_unsee 2 (Option.some FieldType.int) 0 pre_X12_unsee fn_X12_unsee := con_of (by decide +kernel) ok_X12_unsee len_X12_unsee (fun p e s m args below meth c D ca ad A as M hX hr hp ho => pf_X12_unsee _ _ (bsX12_unsee_0 hX hr) as M ho hp ⟨rfl, rfl⟩)
def is1 (M : mM) (off : Nat) : mM := mset (lay M) 166 (10 * off + 3) 1
def isM (M : mM) (off k : Nat) : mM := (sos (is1 M off) 166 (M.1 171 k).toNatClampNeg).2
def isV (M : mM) (u k : Nat) : Int32 := if M.1 173 k = 0 then M.1 166 (10 * u + 7) else M.1 166 (10 * u + 4) + M.1 166 (10 * u + 5)
def isB (M : mM) (u k : Nat) : Int32 := if (if isV M u k = M.1 174 k then (1 : Int32) else 0) = (if M.1 175 k = 1 then 1 else 0) then 1 else 0
def isF (M : mM) (off k : Nat) : Int32 × mM := if nu M (M.1 172 k) = 0 then (isB (isM M off k) (M.1 172 k).toNatClampNeg k, isM M off k) else (1, M)
theorem is1_f {M : mM} {off : Nat} (ho : off < 5) (hP : PM M) (hG : PG M 165 1000) : TR M (is1 M off) ∧ PM (is1 M off) ∧ PG (is1 M off) 166 1000 :=
  ⟨TR_mset TR_lay, PM_mset (PM_lay hP) (by decide) (by decide), PG_mset (PG_lay hG) (by omega)⟩
theorem TR_is {M : mM} {off k : Nat} (ho : off < 5) (hk : ∃ a, a ≤ 9 ∧ M.1 171 k = nI a) (hP : PM M) (hG : PG M 165 1000) : TR M (isM M off k) := by
  obtain ⟨a, ha, e⟩ := hk
  obtain ⟨h1, h2, h3⟩ := is1_f ho hP hG
  unfold isM
  rw [e, nI_clamp (by omega)]
  exact TR_sos h1 h2 (PG_le h3 (by omega))
theorem TR_isF {M : mM} {off k : Nat} (ho : off < 5) (hk : ∃ a, a ≤ 9 ∧ M.1 171 k = nI a) (hP : PM M) (hG : PG M 165 1000) : TR M (isF M off k).2 := by
  unfold isF
  split
  · exact TR_is ho hk hP hG
  · exact TR_r
def pre_X12_isSo (as : List mV) (M : mM) : Prop := ∃ c o k, as = [.inr (.inr (12, c)), .inl o, .inl k] ∧ (PM M ∧ PG M 165 1000) ∧ (∃ j, j < 5 ∧ o = nI j) ∧ ∃ j, j < 6 ∧ k = nI j ∧ ∃ a, a ≤ 9 ∧ M.1 171 j = nI a
def fn_X12_isSo : List mV → mM → Option mV × mM
  | [.inr (.inr (_, c)), .inl o, .inl k], M => (some (.inl (isF M o.toNatClampNeg k.toNatClampNeg).1), (isF M o.toNatClampNeg k.toNatClampNeg).2)
  | _, M => (none, M)
theorem ok_X12_isSo (as : List mV) (M : mM) (h : pre_X12_isSo as M) (_ : ∀ v ∈ as, okV v) : okR (fn_X12_isSo as M).1 := by
  obtain ⟨c, o, k, rfl, -⟩ := h
  first | trivial | exact (by decide +kernel : kof 14 = 8)
theorem len_X12_isSo (as : List mV) (M : mM) (h : pre_X12_isSo as M) : (inL as).length ≤ 5 := by
  obtain ⟨c, o, k, rfl, -⟩ := h
  exact Nat.le_of_ble_eq_true rfl


theorem dX12_isSo_0 : decode cX12_isSo 0 = .ok (.aload_n 0, 1) := by decide +kernel
theorem dX12_isSo_1 : decode cX12_isSo 1 = .ok (.getfield 67, 3) := by decide +kernel
theorem dX12_isSo_4 : decode cX12_isSo 4 = .ok (.iload_n 2, 1) := by decide +kernel
theorem dX12_isSo_5 : decode cX12_isSo 5 = .ok (.iaload, 1) := by decide +kernel
theorem dX12_isSo_6 : decode cX12_isSo 6 = .ok (.istore_n 3, 1) := by decide +kernel
theorem dX12_isSo_7 : decode cX12_isSo 7 = .ok (.aload_n 0, 1) := by decide +kernel
theorem dX12_isSo_8 : decode cX12_isSo 8 = .ok (.iload_n 3, 1) := by decide +kernel
theorem dX12_isSo_9 : decode cX12_isSo 9 = .ok (.invokevirtual 156, 3) := by decide +kernel
theorem dX12_isSo_12 : decode cX12_isSo 12 = .ok (.ifCond .eq 5, 3) := by decide +kernel
theorem dX12_isSo_15 : decode cX12_isSo 15 = .ok (.iconst 1, 1) := by decide +kernel
theorem dX12_isSo_16 : decode cX12_isSo 16 = .ok (.ireturn, 1) := by decide +kernel
theorem dX12_isSo_17 : decode cX12_isSo 17 = .ok (.aload_n 0, 1) := by decide +kernel
theorem dX12_isSo_18 : decode cX12_isSo 18 = .ok (.invokevirtual 176, 3) := by decide +kernel
theorem dX12_isSo_21 : decode cX12_isSo 21 = .ok (.aload_n 0, 1) := by decide +kernel
theorem dX12_isSo_22 : decode cX12_isSo 22 = .ok (.getfield 7, 3) := by decide +kernel
theorem dX12_isSo_25 : decode cX12_isSo 25 = .ok (.bipush 10, 2) := by decide +kernel
theorem dX12_isSo_27 : decode cX12_isSo 27 = .ok (.iload_n 1, 1) := by decide +kernel
theorem dX12_isSo_28 : decode cX12_isSo 28 = .ok (.imul, 1) := by decide +kernel
theorem dX12_isSo_29 : decode cX12_isSo 29 = .ok (.iconst 3, 1) := by decide +kernel
theorem dX12_isSo_30 : decode cX12_isSo 30 = .ok (.iadd, 1) := by decide +kernel
theorem dX12_isSo_31 : decode cX12_isSo 31 = .ok (.iconst 1, 1) := by decide +kernel
theorem dX12_isSo_32 : decode cX12_isSo 32 = .ok (.iastore, 1) := by decide +kernel
theorem dX12_isSo_33 : decode cX12_isSo 33 = .ok (.aload_n 0, 1) := by decide +kernel
theorem dX12_isSo_34 : decode cX12_isSo 34 = .ok (.aload_n 0, 1) := by decide +kernel
theorem dX12_isSo_35 : decode cX12_isSo 35 = .ok (.getfield 7, 3) := by decide +kernel
theorem dX12_isSo_38 : decode cX12_isSo 38 = .ok (.aload_n 0, 1) := by decide +kernel
theorem dX12_isSo_39 : decode cX12_isSo 39 = .ok (.getfield 64, 3) := by decide +kernel
theorem dX12_isSo_42 : decode cX12_isSo 42 = .ok (.iload_n 2, 1) := by decide +kernel
theorem dX12_isSo_43 : decode cX12_isSo 43 = .ok (.iaload, 1) := by decide +kernel
theorem dX12_isSo_44 : decode cX12_isSo 44 = .ok (.invokevirtual 167, 3) := by decide +kernel
theorem dX12_isSo_47 : decode cX12_isSo 47 = .ok (.pop, 1) := by decide +kernel
theorem dX12_isSo_48 : decode cX12_isSo 48 = .ok (.aload_n 0, 1) := by decide +kernel
theorem dX12_isSo_49 : decode cX12_isSo 49 = .ok (.getfield 70, 3) := by decide +kernel
theorem dX12_isSo_52 : decode cX12_isSo 52 = .ok (.iload_n 2, 1) := by decide +kernel
theorem dX12_isSo_53 : decode cX12_isSo 53 = .ok (.iaload, 1) := by decide +kernel
theorem dX12_isSo_54 : decode cX12_isSo 54 = .ok (.ifCond .ne 18, 3) := by decide +kernel
theorem dX12_isSo_57 : decode cX12_isSo 57 = .ok (.aload_n 0, 1) := by decide +kernel
theorem dX12_isSo_58 : decode cX12_isSo 58 = .ok (.getfield 7, 3) := by decide +kernel
theorem dX12_isSo_61 : decode cX12_isSo 61 = .ok (.bipush 10, 2) := by decide +kernel
theorem dX12_isSo_63 : decode cX12_isSo 63 = .ok (.iload_n 3, 1) := by decide +kernel
theorem dX12_isSo_64 : decode cX12_isSo 64 = .ok (.imul, 1) := by decide +kernel
theorem dX12_isSo_65 : decode cX12_isSo 65 = .ok (.bipush 7, 2) := by decide +kernel
theorem dX12_isSo_67 : decode cX12_isSo 67 = .ok (.iadd, 1) := by decide +kernel
theorem dX12_isSo_68 : decode cX12_isSo 68 = .ok (.iaload, 1) := by decide +kernel
theorem dX12_isSo_69 : decode cX12_isSo 69 = .ok (.goto 26, 3) := by decide +kernel
theorem dX12_isSo_72 : decode cX12_isSo 72 = .ok (.aload_n 0, 1) := by decide +kernel
theorem dX12_isSo_73 : decode cX12_isSo 73 = .ok (.getfield 7, 3) := by decide +kernel
theorem dX12_isSo_76 : decode cX12_isSo 76 = .ok (.bipush 10, 2) := by decide +kernel
theorem dX12_isSo_78 : decode cX12_isSo 78 = .ok (.iload_n 3, 1) := by decide +kernel
theorem dX12_isSo_79 : decode cX12_isSo 79 = .ok (.imul, 1) := by decide +kernel
theorem dX12_isSo_80 : decode cX12_isSo 80 = .ok (.iconst 4, 1) := by decide +kernel
theorem dX12_isSo_81 : decode cX12_isSo 81 = .ok (.iadd, 1) := by decide +kernel
theorem dX12_isSo_82 : decode cX12_isSo 82 = .ok (.iaload, 1) := by decide +kernel
theorem dX12_isSo_83 : decode cX12_isSo 83 = .ok (.aload_n 0, 1) := by decide +kernel
theorem dX12_isSo_84 : decode cX12_isSo 84 = .ok (.getfield 7, 3) := by decide +kernel
theorem dX12_isSo_87 : decode cX12_isSo 87 = .ok (.bipush 10, 2) := by decide +kernel
theorem dX12_isSo_89 : decode cX12_isSo 89 = .ok (.iload_n 3, 1) := by decide +kernel
theorem dX12_isSo_90 : decode cX12_isSo 90 = .ok (.imul, 1) := by decide +kernel
theorem dX12_isSo_91 : decode cX12_isSo 91 = .ok (.iconst 5, 1) := by decide +kernel
theorem dX12_isSo_92 : decode cX12_isSo 92 = .ok (.iadd, 1) := by decide +kernel
theorem dX12_isSo_93 : decode cX12_isSo 93 = .ok (.iaload, 1) := by decide +kernel
theorem dX12_isSo_94 : decode cX12_isSo 94 = .ok (.iadd, 1) := by decide +kernel
theorem dX12_isSo_95 : decode cX12_isSo 95 = .ok (.istore 4, 2) := by decide +kernel
theorem dX12_isSo_97 : decode cX12_isSo 97 = .ok (.iload 4, 2) := by decide +kernel
theorem dX12_isSo_99 : decode cX12_isSo 99 = .ok (.aload_n 0, 1) := by decide +kernel
theorem dX12_isSo_100 : decode cX12_isSo 100 = .ok (.getfield 73, 3) := by decide +kernel
theorem dX12_isSo_103 : decode cX12_isSo 103 = .ok (.iload_n 2, 1) := by decide +kernel
theorem dX12_isSo_104 : decode cX12_isSo 104 = .ok (.iaload, 1) := by decide +kernel
theorem dX12_isSo_105 : decode cX12_isSo 105 = .ok (.if_icmp .ne 7, 3) := by decide +kernel
theorem dX12_isSo_108 : decode cX12_isSo 108 = .ok (.iconst 1, 1) := by decide +kernel
theorem dX12_isSo_109 : decode cX12_isSo 109 = .ok (.goto 4, 3) := by decide +kernel
theorem dX12_isSo_112 : decode cX12_isSo 112 = .ok (.iconst 0, 1) := by decide +kernel
theorem dX12_isSo_113 : decode cX12_isSo 113 = .ok (.aload_n 0, 1) := by decide +kernel
theorem dX12_isSo_114 : decode cX12_isSo 114 = .ok (.getfield 76, 3) := by decide +kernel
theorem dX12_isSo_117 : decode cX12_isSo 117 = .ok (.iload_n 2, 1) := by decide +kernel
theorem dX12_isSo_118 : decode cX12_isSo 118 = .ok (.iaload, 1) := by decide +kernel
theorem dX12_isSo_119 : decode cX12_isSo 119 = .ok (.iconst 1, 1) := by decide +kernel
theorem dX12_isSo_120 : decode cX12_isSo 120 = .ok (.if_icmp .ne 7, 3) := by decide +kernel
theorem dX12_isSo_123 : decode cX12_isSo 123 = .ok (.iconst 1, 1) := by decide +kernel
theorem dX12_isSo_124 : decode cX12_isSo 124 = .ok (.goto 4, 3) := by decide +kernel
theorem dX12_isSo_127 : decode cX12_isSo 127 = .ok (.iconst 0, 1) := by decide +kernel
theorem dX12_isSo_128 : decode cX12_isSo 128 = .ok (.if_icmp .ne 7, 3) := by decide +kernel
theorem dX12_isSo_131 : decode cX12_isSo 131 = .ok (.iconst 1, 1) := by decide +kernel
theorem dX12_isSo_132 : decode cX12_isSo 132 = .ok (.goto 4, 3) := by decide +kernel
theorem dX12_isSo_135 : decode cX12_isSo 135 = .ok (.iconst 0, 1) := by decide +kernel
theorem dX12_isSo_136 : decode cX12_isSo 136 = .ok (.ireturn, 1) := by decide +kernel
theorem mk_X12_isSo : MVk yX12_isSo "FairBlocksModel" cX12_isSo 5 (Option.some FieldType.boolean) 2 := ⟨w_996, w_995, wp_33, w_13, rfl, by decide +kernel, by decide +kernel, by decide +kernel⟩
def BX12_isSo_0 (G : Nat → KT) (Q : Option mV → mM → Prop) : KT := (s_aload 0 (s_getr 12 13 (fun _ => 172) (s_iload 2 (s_iald (s_istore 3 (s_aload 0 (s_iload 3 (s_callV 12 1 pre_X12_noUser fn_X12_noUser (s_if (fun x => x = 0) (s_at G 17 [true, true, true, true, false]) (s_iconst (1) (s_zret Q)))))))))))
set_option maxRecDepth 4000 in
theorem bsX12_isSo_0 {p : Program} {l : Launch} {e : Env} {s : State} {m : MethodId} {args : Array Value} {below : List Frame} {meth : Method} {c : Code} {D : va_G} {ca : Nat → ClassId} {ad : Nat → Nat} {A : Nat → Prop} {Q : Option mV → mM → Prop} (hX : CX p s m args meth c 5 cX12_isSo "FairBlocksModel" D ca ad A) (hr : meth.sig.returnType = (Option.some FieldType.boolean)) : ∀ lv st M, BX12_isSo_0 (Gd p l e (rmD 5) s m args below meth c 5 D ca ad A 0 0 (MQ below (QC D ca ad A Q) args s 0 0 A)) Q lv st M → Gd p l e (rmD 5) s m args below meth c 5 D ca ad A 0 0 (MQ below (QC D ca ad A Q) args s 0 0 A) 0 lv st M :=
  (sd_aload_n hX dX12_isSo_0 rfl (sd_getr hX fl_748 (fun _ => rfl) (fun _ _ _ => by decide +kernel) dX12_isSo_1 (sd_iload_n hX dX12_isSo_4 rfl (sd_iald hX dX12_isSo_5 (sd_istore_n hX (by decide) dX12_isSo_6 rfl (sd_aload_n hX dX12_isSo_7 rfl (sd_iload_n hX dX12_isSo_8 rfl (sd_callV hX (kd := 12) rfl (by decide) (ct_X12_noUser l) mk_X12_noUser w_860 ⟨⟨by decide, by decide⟩, by decide, by decide⟩ dX12_isSo_9 (sd_if_eq hX dX12_isSo_12 (by decide) sd_at (sd_iconst hX dX12_isSo_15 rfl (sd_zret hX hr dX12_isSo_16)))))))))))
def BX12_isSo_17 (G : Nat → KT) (Q : Option mV → mM → Prop) : KT := (s_aload 0 (s_callV 12 0 pre_X12_layTrial fn_X12_layTrial (s_aload 0 (s_getr 12 13 (fun _ => 166) (s_iconst (10) (s_iload 1 (s_bin (fun x y => x * y) (s_iconst (3) (s_bin (fun x y => x + y) (s_iconst (1) (s_iast (s_aload 0 (s_aload 0 (s_getr 12 13 (fun _ => 166) (s_aload 0 (s_getr 12 13 (fun _ => 171) (s_iload 2 (s_iald (s_callV 12 2 pre_X12_slotsOn fn_X12_slotsOn (s_pop (s_aload 0 (s_getr 12 13 (fun _ => 173) (s_iload 2 (s_iald (s_if (fun x => x = 0) ((s_aload 0 (s_getr 12 13 (fun _ => 166) (s_iconst (10) (s_iload 3 (s_bin (fun x y => x * y) (s_iconst (7) (s_bin (fun x y => x + y) (s_iald (s_at G 95 [true, false, true, false, false])))))))))) (s_at G 72 [true, false, true, true, false]))))))))))))))))))))))))))
set_option maxRecDepth 4000 in
theorem bsX12_isSo_17 {p : Program} {l : Launch} {e : Env} {s : State} {m : MethodId} {args : Array Value} {below : List Frame} {meth : Method} {c : Code} {D : va_G} {ca : Nat → ClassId} {ad : Nat → Nat} {A : Nat → Prop} {Q : Option mV → mM → Prop} (hX : CX p s m args meth c 5 cX12_isSo "FairBlocksModel" D ca ad A) (hr : meth.sig.returnType = (Option.some FieldType.boolean)) : ∀ lv st M, BX12_isSo_17 (Gd p l e (rmD 5) s m args below meth c 5 D ca ad A 0 0 (MQ below (QC D ca ad A Q) args s 0 0 A)) Q lv st M → Gd p l e (rmD 5) s m args below meth c 5 D ca ad A 0 0 (MQ below (QC D ca ad A Q) args s 0 0 A) 17 lv st M :=
  (sd_aload_n hX dX12_isSo_17 rfl (sd_callV hX (kd := 12) rfl (by decide) (ct_X12_layTrial l) mk_X12_layTrial w_940 ⟨⟨by decide, by decide⟩, by decide, by decide⟩ dX12_isSo_18 (sd_aload_n hX dX12_isSo_21 rfl (sd_getr hX fl_740 (fun _ => rfl) (fun _ _ _ => by decide +kernel) dX12_isSo_22 (sd_bipush hX dX12_isSo_25 rfl (sd_iload_n hX dX12_isSo_27 rfl (sd_imul hX dX12_isSo_28 (sd_iconst hX dX12_isSo_29 rfl (sd_iadd hX dX12_isSo_30 (sd_iconst hX dX12_isSo_31 rfl (sd_iast hX dX12_isSo_32 (sd_aload_n hX dX12_isSo_33 rfl (sd_aload_n hX dX12_isSo_34 rfl (sd_getr hX fl_740 (fun _ => rfl) (fun _ _ _ => by decide +kernel) dX12_isSo_35 (sd_aload_n hX dX12_isSo_38 rfl (sd_getr hX fl_747 (fun _ => rfl) (fun _ _ _ => by decide +kernel) dX12_isSo_39 (sd_iload_n hX dX12_isSo_42 rfl (sd_iald hX dX12_isSo_43 (sd_callV hX (kd := 12) rfl (by decide) (ct_X12_slotsOn l) mk_X12_slotsOn w_878 ⟨⟨by decide, by decide⟩, by decide, by decide⟩ dX12_isSo_44 (sd_pop hX dX12_isSo_47 (sd_aload_n hX dX12_isSo_48 rfl (sd_getr hX fl_749 (fun _ => rfl) (fun _ _ _ => by decide +kernel) dX12_isSo_49 (sd_iload_n hX dX12_isSo_52 rfl (sd_iald hX dX12_isSo_53 (sd_if_ne hX dX12_isSo_54 (by decide) sd_at (sd_aload_n hX dX12_isSo_57 rfl (sd_getr hX fl_740 (fun _ => rfl) (fun _ _ _ => by decide +kernel) dX12_isSo_58 (sd_bipush hX dX12_isSo_61 rfl (sd_iload_n hX dX12_isSo_63 rfl (sd_imul hX dX12_isSo_64 (sd_bipush hX dX12_isSo_65 rfl (sd_iadd hX dX12_isSo_67 (sd_iald hX dX12_isSo_68 (sd_goto hX dX12_isSo_69 (by decide) sd_at))))))))))))))))))))))))))))))))))
def BX12_isSo_72 (G : Nat → KT) (Q : Option mV → mM → Prop) : KT := (s_aload 0 (s_getr 12 13 (fun _ => 166) (s_iconst (10) (s_iload 3 (s_bin (fun x y => x * y) (s_iconst (4) (s_bin (fun x y => x + y) (s_iald (s_aload 0 (s_getr 12 13 (fun _ => 166) (s_iconst (10) (s_iload 3 (s_bin (fun x y => x * y) (s_iconst (5) (s_bin (fun x y => x + y) (s_iald (s_bin (fun x y => x + y) (s_at G 95 [true, false, true, false, false]))))))))))))))))))
set_option maxRecDepth 4000 in
theorem bsX12_isSo_72 {p : Program} {l : Launch} {e : Env} {s : State} {m : MethodId} {args : Array Value} {below : List Frame} {meth : Method} {c : Code} {D : va_G} {ca : Nat → ClassId} {ad : Nat → Nat} {A : Nat → Prop} {Q : Option mV → mM → Prop} (hX : CX p s m args meth c 5 cX12_isSo "FairBlocksModel" D ca ad A) (hr : meth.sig.returnType = (Option.some FieldType.boolean)) : ∀ lv st M, BX12_isSo_72 (Gd p l e (rmD 5) s m args below meth c 5 D ca ad A 0 0 (MQ below (QC D ca ad A Q) args s 0 0 A)) Q lv st M → Gd p l e (rmD 5) s m args below meth c 5 D ca ad A 0 0 (MQ below (QC D ca ad A Q) args s 0 0 A) 72 lv st M :=
  (sd_aload_n hX dX12_isSo_72 rfl (sd_getr hX fl_740 (fun _ => rfl) (fun _ _ _ => by decide +kernel) dX12_isSo_73 (sd_bipush hX dX12_isSo_76 rfl (sd_iload_n hX dX12_isSo_78 rfl (sd_imul hX dX12_isSo_79 (sd_iconst hX dX12_isSo_80 rfl (sd_iadd hX dX12_isSo_81 (sd_iald hX dX12_isSo_82 (sd_aload_n hX dX12_isSo_83 rfl (sd_getr hX fl_740 (fun _ => rfl) (fun _ _ _ => by decide +kernel) dX12_isSo_84 (sd_bipush hX dX12_isSo_87 rfl (sd_iload_n hX dX12_isSo_89 rfl (sd_imul hX dX12_isSo_90 (sd_iconst hX dX12_isSo_91 rfl (sd_iadd hX dX12_isSo_92 (sd_iald hX dX12_isSo_93 (sd_iadd hX dX12_isSo_94 sd_at)))))))))))))))))
def BX12_isSo_95 (G : Nat → KT) (Q : Option mV → mM → Prop) : KT := (s_istore 4 (s_iload 4 (s_aload 0 (s_getr 12 13 (fun _ => 174) (s_iload 2 (s_iald (s_icmp (fun x y => x = y) ((s_iconst (1) (s_at G 113 [true, false, true, false, false]))) (s_at G 112 [true, false, true, false, false]))))))))
set_option maxRecDepth 4000 in
theorem bsX12_isSo_95 {p : Program} {l : Launch} {e : Env} {s : State} {m : MethodId} {args : Array Value} {below : List Frame} {meth : Method} {c : Code} {D : va_G} {ca : Nat → ClassId} {ad : Nat → Nat} {A : Nat → Prop} {Q : Option mV → mM → Prop} (hX : CX p s m args meth c 5 cX12_isSo "FairBlocksModel" D ca ad A) (hr : meth.sig.returnType = (Option.some FieldType.boolean)) : ∀ lv st M, BX12_isSo_95 (Gd p l e (rmD 5) s m args below meth c 5 D ca ad A 0 0 (MQ below (QC D ca ad A Q) args s 0 0 A)) Q lv st M → Gd p l e (rmD 5) s m args below meth c 5 D ca ad A 0 0 (MQ below (QC D ca ad A Q) args s 0 0 A) 95 lv st M :=
  (sd_istore hX (by decide) dX12_isSo_95 (sd_iload hX dX12_isSo_97 (sd_aload_n hX dX12_isSo_99 rfl (sd_getr hX fl_750 (fun _ => rfl) (fun _ _ _ => by decide +kernel) dX12_isSo_100 (sd_iload_n hX dX12_isSo_103 rfl (sd_iald hX dX12_isSo_104 (sd_icmp_ne hX dX12_isSo_105 (by decide) sd_at (sd_iconst hX dX12_isSo_108 rfl (sd_goto hX dX12_isSo_109 (by decide) sd_at)))))))))
def BX12_isSo_112 (G : Nat → KT) (Q : Option mV → mM → Prop) : KT := (s_iconst (0) (s_at G 113 [true, false, true, false, false]))
set_option maxRecDepth 4000 in
theorem bsX12_isSo_112 {p : Program} {l : Launch} {e : Env} {s : State} {m : MethodId} {args : Array Value} {below : List Frame} {meth : Method} {c : Code} {D : va_G} {ca : Nat → ClassId} {ad : Nat → Nat} {A : Nat → Prop} {Q : Option mV → mM → Prop} (hX : CX p s m args meth c 5 cX12_isSo "FairBlocksModel" D ca ad A) (hr : meth.sig.returnType = (Option.some FieldType.boolean)) : ∀ lv st M, BX12_isSo_112 (Gd p l e (rmD 5) s m args below meth c 5 D ca ad A 0 0 (MQ below (QC D ca ad A Q) args s 0 0 A)) Q lv st M → Gd p l e (rmD 5) s m args below meth c 5 D ca ad A 0 0 (MQ below (QC D ca ad A Q) args s 0 0 A) 112 lv st M :=
  (sd_iconst hX dX12_isSo_112 rfl sd_at)
def BX12_isSo_113 (G : Nat → KT) (Q : Option mV → mM → Prop) : KT := (s_aload 0 (s_getr 12 13 (fun _ => 175) (s_iload 2 (s_iald (s_iconst (1) (s_icmp (fun x y => x = y) ((s_iconst (1) (s_at G 128 [false, false, false, false, false]))) (s_at G 127 [false, false, false, false, false])))))))
set_option maxRecDepth 4000 in
theorem bsX12_isSo_113 {p : Program} {l : Launch} {e : Env} {s : State} {m : MethodId} {args : Array Value} {below : List Frame} {meth : Method} {c : Code} {D : va_G} {ca : Nat → ClassId} {ad : Nat → Nat} {A : Nat → Prop} {Q : Option mV → mM → Prop} (hX : CX p s m args meth c 5 cX12_isSo "FairBlocksModel" D ca ad A) (hr : meth.sig.returnType = (Option.some FieldType.boolean)) : ∀ lv st M, BX12_isSo_113 (Gd p l e (rmD 5) s m args below meth c 5 D ca ad A 0 0 (MQ below (QC D ca ad A Q) args s 0 0 A)) Q lv st M → Gd p l e (rmD 5) s m args below meth c 5 D ca ad A 0 0 (MQ below (QC D ca ad A Q) args s 0 0 A) 113 lv st M :=
  (sd_aload_n hX dX12_isSo_113 rfl (sd_getr hX fl_751 (fun _ => rfl) (fun _ _ _ => by decide +kernel) dX12_isSo_114 (sd_iload_n hX dX12_isSo_117 rfl (sd_iald hX dX12_isSo_118 (sd_iconst hX dX12_isSo_119 rfl (sd_icmp_ne hX dX12_isSo_120 (by decide) sd_at (sd_iconst hX dX12_isSo_123 rfl (sd_goto hX dX12_isSo_124 (by decide) sd_at))))))))
def BX12_isSo_127 (G : Nat → KT) (Q : Option mV → mM → Prop) : KT := (s_iconst (0) (s_at G 128 [false, false, false, false, false]))
set_option maxRecDepth 4000 in
theorem bsX12_isSo_127 {p : Program} {l : Launch} {e : Env} {s : State} {m : MethodId} {args : Array Value} {below : List Frame} {meth : Method} {c : Code} {D : va_G} {ca : Nat → ClassId} {ad : Nat → Nat} {A : Nat → Prop} {Q : Option mV → mM → Prop} (hX : CX p s m args meth c 5 cX12_isSo "FairBlocksModel" D ca ad A) (hr : meth.sig.returnType = (Option.some FieldType.boolean)) : ∀ lv st M, BX12_isSo_127 (Gd p l e (rmD 5) s m args below meth c 5 D ca ad A 0 0 (MQ below (QC D ca ad A Q) args s 0 0 A)) Q lv st M → Gd p l e (rmD 5) s m args below meth c 5 D ca ad A 0 0 (MQ below (QC D ca ad A Q) args s 0 0 A) 127 lv st M :=
  (sd_iconst hX dX12_isSo_127 rfl sd_at)
def BX12_isSo_128 (G : Nat → KT) (Q : Option mV → mM → Prop) : KT := (s_icmp (fun x y => x = y) ((s_iconst (1) (s_at G 136 [false, false, false, false, false]))) (s_at G 135 [false, false, false, false, false]))
set_option maxRecDepth 4000 in
theorem bsX12_isSo_128 {p : Program} {l : Launch} {e : Env} {s : State} {m : MethodId} {args : Array Value} {below : List Frame} {meth : Method} {c : Code} {D : va_G} {ca : Nat → ClassId} {ad : Nat → Nat} {A : Nat → Prop} {Q : Option mV → mM → Prop} (hX : CX p s m args meth c 5 cX12_isSo "FairBlocksModel" D ca ad A) (hr : meth.sig.returnType = (Option.some FieldType.boolean)) : ∀ lv st M, BX12_isSo_128 (Gd p l e (rmD 5) s m args below meth c 5 D ca ad A 0 0 (MQ below (QC D ca ad A Q) args s 0 0 A)) Q lv st M → Gd p l e (rmD 5) s m args below meth c 5 D ca ad A 0 0 (MQ below (QC D ca ad A Q) args s 0 0 A) 128 lv st M :=
  (sd_icmp_ne hX dX12_isSo_128 (by decide) sd_at (sd_iconst hX dX12_isSo_131 rfl (sd_goto hX dX12_isSo_132 (by decide) sd_at)))
def BX12_isSo_135 (G : Nat → KT) (Q : Option mV → mM → Prop) : KT := (s_iconst (0) (s_at G 136 [false, false, false, false, false]))
set_option maxRecDepth 4000 in
theorem bsX12_isSo_135 {p : Program} {l : Launch} {e : Env} {s : State} {m : MethodId} {args : Array Value} {below : List Frame} {meth : Method} {c : Code} {D : va_G} {ca : Nat → ClassId} {ad : Nat → Nat} {A : Nat → Prop} {Q : Option mV → mM → Prop} (hX : CX p s m args meth c 5 cX12_isSo "FairBlocksModel" D ca ad A) (hr : meth.sig.returnType = (Option.some FieldType.boolean)) : ∀ lv st M, BX12_isSo_135 (Gd p l e (rmD 5) s m args below meth c 5 D ca ad A 0 0 (MQ below (QC D ca ad A Q) args s 0 0 A)) Q lv st M → Gd p l e (rmD 5) s m args below meth c 5 D ca ad A 0 0 (MQ below (QC D ca ad A Q) args s 0 0 A) 135 lv st M :=
  (sd_iconst hX dX12_isSo_135 rfl sd_at)
def BX12_isSo_136 (G : Nat → KT) (Q : Option mV → mM → Prop) : KT := (s_zret Q)
set_option maxRecDepth 4000 in
theorem bsX12_isSo_136 {p : Program} {l : Launch} {e : Env} {s : State} {m : MethodId} {args : Array Value} {below : List Frame} {meth : Method} {c : Code} {D : va_G} {ca : Nat → ClassId} {ad : Nat → Nat} {A : Nat → Prop} {Q : Option mV → mM → Prop} (hX : CX p s m args meth c 5 cX12_isSo "FairBlocksModel" D ca ad A) (hr : meth.sig.returnType = (Option.some FieldType.boolean)) : ∀ lv st M, BX12_isSo_136 (Gd p l e (rmD 5) s m args below meth c 5 D ca ad A 0 0 (MQ below (QC D ca ad A Q) args s 0 0 A)) Q lv st M → Gd p l e (rmD 5) s m args below meth c 5 D ca ad A 0 0 (MQ below (QC D ca ad A Q) args s 0 0 A) 136 lv st M :=
  sd_zret hX hr dX12_isSo_136
set_option maxHeartbeats 400000 in
theorem pf_X12_isSo (G : Nat → KT) (Q : Option mV → mM → Prop) (h0 : ∀ lv st M, BX12_isSo_0 G Q lv st M → G 0 lv st M) (h17 : ∀ lv st M, BX12_isSo_17 G Q lv st M → G 17 lv st M) (h72 : ∀ lv st M, BX12_isSo_72 G Q lv st M → G 72 lv st M) (h95 : ∀ lv st M, BX12_isSo_95 G Q lv st M → G 95 lv st M) (h112 : ∀ lv st M, BX12_isSo_112 G Q lv st M → G 112 lv st M) (h113 : ∀ lv st M, BX12_isSo_113 G Q lv st M → G 113 lv st M) (h127 : ∀ lv st M, BX12_isSo_127 G Q lv st M → G 127 lv st M) (h128 : ∀ lv st M, BX12_isSo_128 G Q lv st M → G 128 lv st M) (h135 : ∀ lv st M, BX12_isSo_135 G Q lv st M → G 135 lv st M) (h136 : ∀ lv st M, BX12_isSo_136 G Q lv st M → G 136 lv st M) (as : List mV) (M : mM) (ho : ∀ v ∈ as, okV v) (hp : pre_X12_isSo as M) (hQ : Q (fn_X12_isSo as M).1 (fn_X12_isSo as M).2) : G 0 (inL as ++ List.replicate (5 - (inL as).length) none) [] M := by
  obtain ⟨c, o, k, rfl, ⟨hP, hG⟩, ⟨off, ho5, rfl⟩, K, hK, rfl, ha⟩ := hp
  have eK : (nI K).toNatClampNeg = K := nI_clamp (by omega)
  simp only [fn_X12_isSo, isF, eK, nI_clamp (show off < 2 ^ 31 by omega)] at hQ
  have hvK : vp_in (nI K) 6 := vz hK (by decide)
  have hTR := TR_is ho5 ha hP hG
  obtain ⟨A, hA, eA⟩ := ha
  obtain ⟨h1, h2, h3⟩ := is1_f ho5 hP hG
  have eI : isM M off K = (sos (is1 M off) 166 A).2 := by unfold isM; rw [eA, nI_clamp (by omega)]
  have ax0 : ((10 : Int32) * nI off + 0).toNatClampNeg = 10 * off + 0 := cx ho5 0 (by decide)
  have av0 : vp_in ((10 : Int32) * nI off + 0) 52 := vx ho5 0 (by decide)
  have ax1 : ((10 : Int32) * nI off + 1).toNatClampNeg = 10 * off + 1 := cx ho5 1 (by decide)
  have av1 : vp_in ((10 : Int32) * nI off + 1) 52 := vx ho5 1 (by decide)
  have ax2 : ((10 : Int32) * nI off + 2).toNatClampNeg = 10 * off + 2 := cx ho5 2 (by decide)
  have av2 : vp_in ((10 : Int32) * nI off + 2) 52 := vx ho5 2 (by decide)
  have ax3 : ((10 : Int32) * nI off + 3).toNatClampNeg = 10 * off + 3 := cx ho5 3 (by decide)
  have av3 : vp_in ((10 : Int32) * nI off + 3) 52 := vx ho5 3 (by decide)
  have ax4 : ((10 : Int32) * nI off + 4).toNatClampNeg = 10 * off + 4 := cx ho5 4 (by decide)
  have av4 : vp_in ((10 : Int32) * nI off + 4) 52 := vx ho5 4 (by decide)
  have ax5 : ((10 : Int32) * nI off + 5).toNatClampNeg = 10 * off + 5 := cx ho5 5 (by decide)
  have av5 : vp_in ((10 : Int32) * nI off + 5) 52 := vx ho5 5 (by decide)
  have ax6 : ((10 : Int32) * nI off + 6).toNatClampNeg = 10 * off + 6 := cx ho5 6 (by decide)
  have av6 : vp_in ((10 : Int32) * nI off + 6) 52 := vx ho5 6 (by decide)
  have ax7 : ((10 : Int32) * nI off + 7).toNatClampNeg = 10 * off + 7 := cx ho5 7 (by decide)
  have av7 : vp_in ((10 : Int32) * nI off + 7) 52 := vx ho5 7 (by decide)
  have ax8 : ((10 : Int32) * nI off + 8).toNatClampNeg = 10 * off + 8 := cx ho5 8 (by decide)
  have av8 : vp_in ((10 : Int32) * nI off + 8) 52 := vx ho5 8 (by decide)
  have ax9 : ((10 : Int32) * nI off + 9).toNatClampNeg = 10 * off + 9 := cx ho5 9 (by decide)
  have av9 : vp_in ((10 : Int32) * nI off + 9) 52 := vx ho5 9 (by decide)
  (apply h0; simp only [BX12_isSo_0, s_mth, s_mab, s_at, s_iconst, s_lconst, s_iload, s_lload, s_aload, s_istore, s_lstore, s_astore, s_iinc, s_bin, s_binG, s_un, s_lbin, s_lbinG, s_lsh, s_lcmp, s_i2l, s_l2i, s_dup, s_dup2, s_pop, s_if, s_icmp, s_geti, s_getl, s_getr, s_puti, s_putz, s_putl, s_iald, s_zald, s_iast, s_zast, s_aaldS, s_aaldU, s_gets, s_tald, s_tsw, tsw, s_iret, s_zret, s_lret, s_aret, s_vret, s_callV, s_callS, c1, nl1, keepL, csum, pushR, inL, List.getD_cons_zero, List.getD_cons_succ, List.set_cons_zero, List.set_cons_succ, List.cons_append, List.nil_append, List.append_nil, List.replicate, List.length_cons, List.length_nil, List.take_succ_cons, List.take_zero, List.drop_succ_cons, List.drop_zero, List.reverse_cons, List.reverse_nil, true_and, and_true, forall_const, not_true_eq_false, not_false_eq_true, false_implies, true_implies, implies_true, one0, m10, Nat.reduceAdd, Nat.reduceSub, Nat.reduceLeDiff, Nat.zero_add, Nat.add_zero, fn_X12_layTrial, fn_X12_noUser, fn_X12_slotsOn])
  simp only [lM, eK]
  refine ⟨hvK, ⟨_, _, rfl⟩, fun h => ?_, fun h => ?_⟩
  · rw [if_pos h] at hQ
    obtain ⟨j, hj, ej⟩ := nu_u hP h
    have hn := (nM_e hP).1
    have hj5 : j < 5 := by omega
    rw [ej, nI_clamp (by omega : j < 2 ^ 31)] at hQ
    rw [ej]
    have x0 : ((10 : Int32) * nI j + 0).toNatClampNeg = 10 * j + 0 := cx hj5 0 (by decide)
    have v0 : vp_in ((10 : Int32) * nI j + 0) 52 := vx hj5 0 (by decide)
    have x1 : ((10 : Int32) * nI j + 1).toNatClampNeg = 10 * j + 1 := cx hj5 1 (by decide)
    have v1 : vp_in ((10 : Int32) * nI j + 1) 52 := vx hj5 1 (by decide)
    have x2 : ((10 : Int32) * nI j + 2).toNatClampNeg = 10 * j + 2 := cx hj5 2 (by decide)
    have v2 : vp_in ((10 : Int32) * nI j + 2) 52 := vx hj5 2 (by decide)
    have x3 : ((10 : Int32) * nI j + 3).toNatClampNeg = 10 * j + 3 := cx hj5 3 (by decide)
    have v3 : vp_in ((10 : Int32) * nI j + 3) 52 := vx hj5 3 (by decide)
    have x4 : ((10 : Int32) * nI j + 4).toNatClampNeg = 10 * j + 4 := cx hj5 4 (by decide)
    have v4 : vp_in ((10 : Int32) * nI j + 4) 52 := vx hj5 4 (by decide)
    have x5 : ((10 : Int32) * nI j + 5).toNatClampNeg = 10 * j + 5 := cx hj5 5 (by decide)
    have v5 : vp_in ((10 : Int32) * nI j + 5) 52 := vx hj5 5 (by decide)
    have x6 : ((10 : Int32) * nI j + 6).toNatClampNeg = 10 * j + 6 := cx hj5 6 (by decide)
    have v6 : vp_in ((10 : Int32) * nI j + 6) 52 := vx hj5 6 (by decide)
    have x7 : ((10 : Int32) * nI j + 7).toNatClampNeg = 10 * j + 7 := cx hj5 7 (by decide)
    have v7 : vp_in ((10 : Int32) * nI j + 7) 52 := vx hj5 7 (by decide)
    have x8 : ((10 : Int32) * nI j + 8).toNatClampNeg = 10 * j + 8 := cx hj5 8 (by decide)
    have v8 : vp_in ((10 : Int32) * nI j + 8) 52 := vx hj5 8 (by decide)
    have x9 : ((10 : Int32) * nI j + 9).toNatClampNeg = 10 * j + 9 := cx hj5 9 (by decide)
    have v9 : vp_in ((10 : Int32) * nI j + 9) 52 := vx hj5 9 (by decide)
    have L95 : ∀ v, v = isV (isM M off K) j K → G 95 [some (.inr (.inr (12, c))), none, some (.inl (nI K)), none, none] [.inl v] (isM M off K) := by
      intro v ev
      unfold isB at hQ
      rw [← ev] at hQ
      have L128 : ∀ x y : Int32, Q (some (.inl (if x = y then 1 else 0))) (isM M off K) → G 128 [none, none, none, none, none] [.inl y, .inl x] (isM M off K) := by
        intro x y hq
        (apply h128; simp only [BX12_isSo_128, s_mth, s_mab, s_at, s_iconst, s_lconst, s_iload, s_lload, s_aload, s_istore, s_lstore, s_astore, s_iinc, s_bin, s_binG, s_un, s_lbin, s_lbinG, s_lsh, s_lcmp, s_i2l, s_l2i, s_dup, s_dup2, s_pop, s_if, s_icmp, s_geti, s_getl, s_getr, s_puti, s_putz, s_putl, s_iald, s_zald, s_iast, s_zast, s_aaldS, s_aaldU, s_gets, s_tald, s_tsw, tsw, s_iret, s_zret, s_lret, s_aret, s_vret, s_callV, s_callS, c1, nl1, keepL, csum, pushR, inL, List.getD_cons_zero, List.getD_cons_succ, List.set_cons_zero, List.set_cons_succ, List.cons_append, List.nil_append, List.append_nil, List.replicate, List.length_cons, List.length_nil, List.take_succ_cons, List.take_zero, List.drop_succ_cons, List.drop_zero, List.reverse_cons, List.reverse_nil, true_and, and_true, forall_const, not_true_eq_false, not_false_eq_true, false_implies, true_implies, implies_true, one0, m10, Nat.reduceAdd, Nat.reduceSub, Nat.reduceLeDiff, Nat.zero_add, Nat.add_zero, fn_X12_layTrial, fn_X12_noUser, fn_X12_slotsOn])
        refine ⟨fun g => ?_, fun g => ?_⟩
        · rw [if_pos g] at hq
          (apply h136; simp only [BX12_isSo_136, s_mth, s_mab, s_at, s_iconst, s_lconst, s_iload, s_lload, s_aload, s_istore, s_lstore, s_astore, s_iinc, s_bin, s_binG, s_un, s_lbin, s_lbinG, s_lsh, s_lcmp, s_i2l, s_l2i, s_dup, s_dup2, s_pop, s_if, s_icmp, s_geti, s_getl, s_getr, s_puti, s_putz, s_putl, s_iald, s_zald, s_iast, s_zast, s_aaldS, s_aaldU, s_gets, s_tald, s_tsw, tsw, s_iret, s_zret, s_lret, s_aret, s_vret, s_callV, s_callS, c1, nl1, keepL, csum, pushR, inL, List.getD_cons_zero, List.getD_cons_succ, List.set_cons_zero, List.set_cons_succ, List.cons_append, List.nil_append, List.append_nil, List.replicate, List.length_cons, List.length_nil, List.take_succ_cons, List.take_zero, List.drop_succ_cons, List.drop_zero, List.reverse_cons, List.reverse_nil, true_and, and_true, forall_const, not_true_eq_false, not_false_eq_true, false_implies, true_implies, implies_true, one0, m10, Nat.reduceAdd, Nat.reduceSub, Nat.reduceLeDiff, Nat.zero_add, Nat.add_zero, fn_X12_layTrial, fn_X12_noUser, fn_X12_slotsOn])
          exact ⟨by simp, hq⟩
        · rw [if_neg g] at hq
          (apply h135; simp only [BX12_isSo_135, s_mth, s_mab, s_at, s_iconst, s_lconst, s_iload, s_lload, s_aload, s_istore, s_lstore, s_astore, s_iinc, s_bin, s_binG, s_un, s_lbin, s_lbinG, s_lsh, s_lcmp, s_i2l, s_l2i, s_dup, s_dup2, s_pop, s_if, s_icmp, s_geti, s_getl, s_getr, s_puti, s_putz, s_putl, s_iald, s_zald, s_iast, s_zast, s_aaldS, s_aaldU, s_gets, s_tald, s_tsw, tsw, s_iret, s_zret, s_lret, s_aret, s_vret, s_callV, s_callS, c1, nl1, keepL, csum, pushR, inL, List.getD_cons_zero, List.getD_cons_succ, List.set_cons_zero, List.set_cons_succ, List.cons_append, List.nil_append, List.append_nil, List.replicate, List.length_cons, List.length_nil, List.take_succ_cons, List.take_zero, List.drop_succ_cons, List.drop_zero, List.reverse_cons, List.reverse_nil, true_and, and_true, forall_const, not_true_eq_false, not_false_eq_true, false_implies, true_implies, implies_true, one0, m10, Nat.reduceAdd, Nat.reduceSub, Nat.reduceLeDiff, Nat.zero_add, Nat.add_zero, fn_X12_layTrial, fn_X12_noUser, fn_X12_slotsOn])
          (apply h136; simp only [BX12_isSo_136, s_mth, s_mab, s_at, s_iconst, s_lconst, s_iload, s_lload, s_aload, s_istore, s_lstore, s_astore, s_iinc, s_bin, s_binG, s_un, s_lbin, s_lbinG, s_lsh, s_lcmp, s_i2l, s_l2i, s_dup, s_dup2, s_pop, s_if, s_icmp, s_geti, s_getl, s_getr, s_puti, s_putz, s_putl, s_iald, s_zald, s_iast, s_zast, s_aaldS, s_aaldU, s_gets, s_tald, s_tsw, tsw, s_iret, s_zret, s_lret, s_aret, s_vret, s_callV, s_callS, c1, nl1, keepL, csum, pushR, inL, List.getD_cons_zero, List.getD_cons_succ, List.set_cons_zero, List.set_cons_succ, List.cons_append, List.nil_append, List.append_nil, List.replicate, List.length_cons, List.length_nil, List.take_succ_cons, List.take_zero, List.drop_succ_cons, List.drop_zero, List.reverse_cons, List.reverse_nil, true_and, and_true, forall_const, not_true_eq_false, not_false_eq_true, false_implies, true_implies, implies_true, one0, m10, Nat.reduceAdd, Nat.reduceSub, Nat.reduceLeDiff, Nat.zero_add, Nat.add_zero, fn_X12_layTrial, fn_X12_noUser, fn_X12_slotsOn])
          exact ⟨by simp, hq⟩
      have L113 : ∀ x : Int32, Q (some (.inl (if x = (if (isM M off K).1 175 K = 1 then 1 else 0) then 1 else 0))) (isM M off K) → G 113 [some (.inr (.inr (12, c))), none, some (.inl (nI K)), none, none] [.inl x] (isM M off K) := by
        intro x hq
        (apply h113; simp only [BX12_isSo_113, s_mth, s_mab, s_at, s_iconst, s_lconst, s_iload, s_lload, s_aload, s_istore, s_lstore, s_astore, s_iinc, s_bin, s_binG, s_un, s_lbin, s_lbinG, s_lsh, s_lcmp, s_i2l, s_l2i, s_dup, s_dup2, s_pop, s_if, s_icmp, s_geti, s_getl, s_getr, s_puti, s_putz, s_putl, s_iald, s_zald, s_iast, s_zast, s_aaldS, s_aaldU, s_gets, s_tald, s_tsw, tsw, s_iret, s_zret, s_lret, s_aret, s_vret, s_callV, s_callS, c1, nl1, keepL, csum, pushR, inL, List.getD_cons_zero, List.getD_cons_succ, List.set_cons_zero, List.set_cons_succ, List.cons_append, List.nil_append, List.append_nil, List.replicate, List.length_cons, List.length_nil, List.take_succ_cons, List.take_zero, List.drop_succ_cons, List.drop_zero, List.reverse_cons, List.reverse_nil, true_and, and_true, forall_const, not_true_eq_false, not_false_eq_true, false_implies, true_implies, implies_true, one0, m10, Nat.reduceAdd, Nat.reduceSub, Nat.reduceLeDiff, Nat.zero_add, Nat.add_zero, fn_X12_layTrial, fn_X12_noUser, fn_X12_slotsOn])
        simp only [lM, eK]
        refine ⟨hvK, fun g => ?_, fun g => ?_⟩
        · exact L128 x 1 (by simpa only [if_pos g] using hq)
        · (apply h127; simp only [BX12_isSo_127, s_mth, s_mab, s_at, s_iconst, s_lconst, s_iload, s_lload, s_aload, s_istore, s_lstore, s_astore, s_iinc, s_bin, s_binG, s_un, s_lbin, s_lbinG, s_lsh, s_lcmp, s_i2l, s_l2i, s_dup, s_dup2, s_pop, s_if, s_icmp, s_geti, s_getl, s_getr, s_puti, s_putz, s_putl, s_iald, s_zald, s_iast, s_zast, s_aaldS, s_aaldU, s_gets, s_tald, s_tsw, tsw, s_iret, s_zret, s_lret, s_aret, s_vret, s_callV, s_callS, c1, nl1, keepL, csum, pushR, inL, List.getD_cons_zero, List.getD_cons_succ, List.set_cons_zero, List.set_cons_succ, List.cons_append, List.nil_append, List.append_nil, List.replicate, List.length_cons, List.length_nil, List.take_succ_cons, List.take_zero, List.drop_succ_cons, List.drop_zero, List.reverse_cons, List.reverse_nil, true_and, and_true, forall_const, not_true_eq_false, not_false_eq_true, false_implies, true_implies, implies_true, one0, m10, Nat.reduceAdd, Nat.reduceSub, Nat.reduceLeDiff, Nat.zero_add, Nat.add_zero, fn_X12_layTrial, fn_X12_noUser, fn_X12_slotsOn])
          exact L128 x 0 (by simpa only [if_neg g] using hq)
      (apply h95; simp only [BX12_isSo_95, s_mth, s_mab, s_at, s_iconst, s_lconst, s_iload, s_lload, s_aload, s_istore, s_lstore, s_astore, s_iinc, s_bin, s_binG, s_un, s_lbin, s_lbinG, s_lsh, s_lcmp, s_i2l, s_l2i, s_dup, s_dup2, s_pop, s_if, s_icmp, s_geti, s_getl, s_getr, s_puti, s_putz, s_putl, s_iald, s_zald, s_iast, s_zast, s_aaldS, s_aaldU, s_gets, s_tald, s_tsw, tsw, s_iret, s_zret, s_lret, s_aret, s_vret, s_callV, s_callS, c1, nl1, keepL, csum, pushR, inL, List.getD_cons_zero, List.getD_cons_succ, List.set_cons_zero, List.set_cons_succ, List.cons_append, List.nil_append, List.append_nil, List.replicate, List.length_cons, List.length_nil, List.take_succ_cons, List.take_zero, List.drop_succ_cons, List.drop_zero, List.reverse_cons, List.reverse_nil, true_and, and_true, forall_const, not_true_eq_false, not_false_eq_true, false_implies, true_implies, implies_true, one0, m10, Nat.reduceAdd, Nat.reduceSub, Nat.reduceLeDiff, Nat.zero_add, Nat.add_zero, fn_X12_layTrial, fn_X12_noUser, fn_X12_slotsOn])
      simp only [lM, eK]
      refine ⟨hvK, fun g => ?_, fun g => ?_⟩
      · exact L113 1 (by simpa only [if_pos g] using hQ)
      · (apply h112; simp only [BX12_isSo_112, s_mth, s_mab, s_at, s_iconst, s_lconst, s_iload, s_lload, s_aload, s_istore, s_lstore, s_astore, s_iinc, s_bin, s_binG, s_un, s_lbin, s_lbinG, s_lsh, s_lcmp, s_i2l, s_l2i, s_dup, s_dup2, s_pop, s_if, s_icmp, s_geti, s_getl, s_getr, s_puti, s_putz, s_putl, s_iald, s_zald, s_iast, s_zast, s_aaldS, s_aaldU, s_gets, s_tald, s_tsw, tsw, s_iret, s_zret, s_lret, s_aret, s_vret, s_callV, s_callS, c1, nl1, keepL, csum, pushR, inL, List.getD_cons_zero, List.getD_cons_succ, List.set_cons_zero, List.set_cons_succ, List.cons_append, List.nil_append, List.append_nil, List.replicate, List.length_cons, List.length_nil, List.take_succ_cons, List.take_zero, List.drop_succ_cons, List.drop_zero, List.reverse_cons, List.reverse_nil, true_and, and_true, forall_const, not_true_eq_false, not_false_eq_true, false_implies, true_implies, implies_true, one0, m10, Nat.reduceAdd, Nat.reduceSub, Nat.reduceLeDiff, Nat.zero_add, Nat.add_zero, fn_X12_layTrial, fn_X12_noUser, fn_X12_slotsOn])
        exact L113 0 (by simpa only [if_neg g] using hQ)
    unfold isV at L95
    have h171 : (is1 M off).1 171 K = nI A := by rw [h1.1 171 (by decide) (by decide) (by decide)]; exact eA
    (apply h17; simp only [BX12_isSo_17, s_mth, s_mab, s_at, s_iconst, s_lconst, s_iload, s_lload, s_aload, s_istore, s_lstore, s_astore, s_iinc, s_bin, s_binG, s_un, s_lbin, s_lbinG, s_lsh, s_lcmp, s_i2l, s_l2i, s_dup, s_dup2, s_pop, s_if, s_icmp, s_geti, s_getl, s_getr, s_puti, s_putz, s_putl, s_iald, s_zald, s_iast, s_zast, s_aaldS, s_aaldU, s_gets, s_tald, s_tsw, tsw, s_iret, s_zret, s_lret, s_aret, s_vret, s_callV, s_callS, c1, nl1, keepL, csum, pushR, inL, List.getD_cons_zero, List.getD_cons_succ, List.set_cons_zero, List.set_cons_succ, List.cons_append, List.nil_append, List.append_nil, List.replicate, List.length_cons, List.length_nil, List.take_succ_cons, List.take_zero, List.drop_succ_cons, List.drop_zero, List.reverse_cons, List.reverse_nil, true_and, and_true, forall_const, not_true_eq_false, not_false_eq_true, false_implies, true_implies, implies_true, one0, m10, Nat.reduceAdd, Nat.reduceSub, Nat.reduceLeDiff, Nat.zero_add, Nat.add_zero, fn_X12_layTrial, fn_X12_noUser, fn_X12_slotsOn])
    simp only [lM, ax3, eK, x7]
    rw [show mset (lay M) 166 (10 * off + 3) 1 = is1 M off from rfl, h171, nI_clamp (by omega : A < 2 ^ 31), ← eI]
    refine ⟨⟨_, rfl⟩, av3, hvK, ⟨_, _, _, rfl, h2, A, by omega, rfl, PG_le h3 (by omega)⟩, hvK, fun g => ⟨v7, ?_⟩, fun g => ?_⟩
    · exact L95 _ (by rw [if_pos g])
    · (apply h72; simp only [BX12_isSo_72, s_mth, s_mab, s_at, s_iconst, s_lconst, s_iload, s_lload, s_aload, s_istore, s_lstore, s_astore, s_iinc, s_bin, s_binG, s_un, s_lbin, s_lbinG, s_lsh, s_lcmp, s_i2l, s_l2i, s_dup, s_dup2, s_pop, s_if, s_icmp, s_geti, s_getl, s_getr, s_puti, s_putz, s_putl, s_iald, s_zald, s_iast, s_zast, s_aaldS, s_aaldU, s_gets, s_tald, s_tsw, tsw, s_iret, s_zret, s_lret, s_aret, s_vret, s_callV, s_callS, c1, nl1, keepL, csum, pushR, inL, List.getD_cons_zero, List.getD_cons_succ, List.set_cons_zero, List.set_cons_succ, List.cons_append, List.nil_append, List.append_nil, List.replicate, List.length_cons, List.length_nil, List.take_succ_cons, List.take_zero, List.drop_succ_cons, List.drop_zero, List.reverse_cons, List.reverse_nil, true_and, and_true, forall_const, not_true_eq_false, not_false_eq_true, false_implies, true_implies, implies_true, one0, m10, Nat.reduceAdd, Nat.reduceSub, Nat.reduceLeDiff, Nat.zero_add, Nat.add_zero, fn_X12_layTrial, fn_X12_noUser, fn_X12_slotsOn])
      simp only [lM, x4, x5]
      exact ⟨v4, v5, L95 _ (by rw [if_neg g])⟩
  · rw [if_neg h] at hQ
    exact ⟨by simp, hQ⟩
theorem ct_X12_isSo (l : Launch) : Con l yX12_isSo cX12_isSo 5 (Option.some FieldType.boolean) 5 pre_X12_isSo fn_X12_isSo := con_of (by decide +kernel) ok_X12_isSo len_X12_isSo (fun p e s m args below meth c D ca ad A as M hX hr hp ho => pf_X12_isSo _ _ (bsX12_isSo_0 hX hr) (bsX12_isSo_17 hX hr) (bsX12_isSo_72 hX hr) (bsX12_isSo_95 hX hr) (bsX12_isSo_112 hX hr) (bsX12_isSo_113 hX hr) (bsX12_isSo_127 hX hr) (bsX12_isSo_128 hX hr) (bsX12_isSo_135 hX hr) (bsX12_isSo_136 hX hr) as M ho hp ⟨rfl, rfl⟩)
def wkI (u k : Nat) (q : Int32 × mM) : Int32 × mM := if q.1 = 0 then (0, q.2) else (if (isF q.2 u k).1 = 0 then 0 else 1, (isF q.2 u k).2)
def nS (M : mM) : Nat := (M.1 158 23).toNatClampNeg
def wkJ (u : Nat) (M : mM) : Int32 × mM := itr (wkI u) 0 (nS M) (if M.1 165 (10 * u + 3) = 0 then 1 else 0, M)
def wkO (u : Nat) (q : Int32 × mM) : Int32 × mM := (q.1 ||| (if (wkJ u q.2).1 = 0 then 0 else (1 : Int32) <<< (nI u &&& 31)), (wkJ u q.2).2)
def m_which (M : mM) : Int32 × mM := itr wkO 0 (nM M) (0, M)
theorem TR_wkJ {M : mM} {u : Nat} (hu : u < 5) (hP : PM M) (hG : PG M 165 1000) (hS : ∀ i, i < nS M → ∃ a, a ≤ 9 ∧ M.1 171 i = nI a) : TR M (wkJ u M).2 :=
  itr_inv (wkI u) (fun q => TR M q.2) (nS M) 0 _ (fun j q _ h2 hq => by
    unfold wkI
    split
    · exact hq
    · refine TR_t hq (TR_isF hu ?_ (TR_PM hq hP) (TR_PG hq hG))
      rw [hq.1 171 (by decide) (by decide) (by decide)]
      exact hS j (by omega)) TR_r
def pre_X12_which (as : List mV) (M : mM) : Prop := ∃ c, as = [.inr (.inr (12, c))] ∧ MI M
def fn_X12_which : List mV → mM → Option mV × mM
  | [.inr (.inr (_, c))], M => (some (.inl (m_which (m0 M)).1), (m_which (m0 M)).2)
  | _, M => (none, M)
theorem ok_X12_which (as : List mV) (M : mM) (h : pre_X12_which as M) (_ : ∀ v ∈ as, okV v) : okR (fn_X12_which as M).1 := by
  obtain ⟨c, rfl, -⟩ := h
  first | trivial | exact (by decide +kernel : kof 14 = 8)
theorem len_X12_which (as : List mV) (M : mM) (h : pre_X12_which as M) : (inL as).length ≤ 5 := by
  obtain ⟨c, rfl, -⟩ := h
  exact Nat.le_of_ble_eq_true rfl


theorem dX12_which_0 : decode cX12_which 0 = .ok (.aload_n 0, 1) := by decide +kernel
theorem dX12_which_1 : decode cX12_which 1 = .ok (.iconst 0, 1) := by decide +kernel
theorem dX12_which_2 : decode cX12_which 2 = .ok (.putfield 1, 3) := by decide +kernel
theorem dX12_which_5 : decode cX12_which 5 = .ok (.iconst 0, 1) := by decide +kernel
theorem dX12_which_6 : decode cX12_which 6 = .ok (.istore_n 1, 1) := by decide +kernel
theorem dX12_which_7 : decode cX12_which 7 = .ok (.iconst 0, 1) := by decide +kernel
theorem dX12_which_8 : decode cX12_which 8 = .ok (.istore_n 2, 1) := by decide +kernel
theorem dX12_which_9 : decode cX12_which 9 = .ok (.iload_n 2, 1) := by decide +kernel
theorem dX12_which_10 : decode cX12_which 10 = .ok (.aload_n 0, 1) := by decide +kernel
theorem dX12_which_11 : decode cX12_which 11 = .ok (.getfield 14, 3) := by decide +kernel
theorem dX12_which_14 : decode cX12_which 14 = .ok (.if_icmp .ge 81, 3) := by decide +kernel
theorem dX12_which_17 : decode cX12_which 17 = .ok (.aload_n 0, 1) := by decide +kernel
theorem dX12_which_18 : decode cX12_which 18 = .ok (.getfield 11, 3) := by decide +kernel
theorem dX12_which_21 : decode cX12_which 21 = .ok (.bipush 10, 2) := by decide +kernel
theorem dX12_which_23 : decode cX12_which 23 = .ok (.iload_n 2, 1) := by decide +kernel
theorem dX12_which_24 : decode cX12_which 24 = .ok (.imul, 1) := by decide +kernel
theorem dX12_which_25 : decode cX12_which 25 = .ok (.iconst 3, 1) := by decide +kernel
theorem dX12_which_26 : decode cX12_which 26 = .ok (.iadd, 1) := by decide +kernel
theorem dX12_which_27 : decode cX12_which 27 = .ok (.iaload, 1) := by decide +kernel
theorem dX12_which_28 : decode cX12_which 28 = .ok (.ifCond .ne 7, 3) := by decide +kernel
theorem dX12_which_31 : decode cX12_which 31 = .ok (.iconst 1, 1) := by decide +kernel
theorem dX12_which_32 : decode cX12_which 32 = .ok (.goto 4, 3) := by decide +kernel
theorem dX12_which_35 : decode cX12_which 35 = .ok (.iconst 0, 1) := by decide +kernel
theorem dX12_which_36 : decode cX12_which 36 = .ok (.istore_n 3, 1) := by decide +kernel
theorem dX12_which_37 : decode cX12_which 37 = .ok (.iconst 0, 1) := by decide +kernel
theorem dX12_which_38 : decode cX12_which 38 = .ok (.istore 4, 2) := by decide +kernel
theorem dX12_which_40 : decode cX12_which 40 = .ok (.iload 4, 2) := by decide +kernel
theorem dX12_which_42 : decode cX12_which 42 = .ok (.aload_n 0, 1) := by decide +kernel
theorem dX12_which_43 : decode cX12_which 43 = .ok (.getfield 198, 3) := by decide +kernel
theorem dX12_which_46 : decode cX12_which 46 = .ok (.if_icmp .ge 29, 3) := by decide +kernel
theorem dX12_which_49 : decode cX12_which 49 = .ok (.iload_n 3, 1) := by decide +kernel
theorem dX12_which_50 : decode cX12_which 50 = .ok (.ifCond .eq 17, 3) := by decide +kernel
theorem dX12_which_53 : decode cX12_which 53 = .ok (.aload_n 0, 1) := by decide +kernel
theorem dX12_which_54 : decode cX12_which 54 = .ok (.iload_n 2, 1) := by decide +kernel
theorem dX12_which_55 : decode cX12_which 55 = .ok (.iload 4, 2) := by decide +kernel
theorem dX12_which_57 : decode cX12_which 57 = .ok (.invokevirtual 201, 3) := by decide +kernel
theorem dX12_which_60 : decode cX12_which 60 = .ok (.ifCond .eq 7, 3) := by decide +kernel
theorem dX12_which_63 : decode cX12_which 63 = .ok (.iconst 1, 1) := by decide +kernel
theorem dX12_which_64 : decode cX12_which 64 = .ok (.goto 4, 3) := by decide +kernel
theorem dX12_which_67 : decode cX12_which 67 = .ok (.iconst 0, 1) := by decide +kernel
theorem dX12_which_68 : decode cX12_which 68 = .ok (.istore_n 3, 1) := by decide +kernel
theorem dX12_which_69 : decode cX12_which 69 = .ok (.iinc 4 1, 3) := by decide +kernel
theorem dX12_which_72 : decode cX12_which 72 = .ok (.goto (-32), 3) := by decide +kernel
theorem dX12_which_75 : decode cX12_which 75 = .ok (.iload_n 1, 1) := by decide +kernel
theorem dX12_which_76 : decode cX12_which 76 = .ok (.iload_n 3, 1) := by decide +kernel
theorem dX12_which_77 : decode cX12_which 77 = .ok (.ifCond .eq 9, 3) := by decide +kernel
theorem dX12_which_80 : decode cX12_which 80 = .ok (.iconst 1, 1) := by decide +kernel
theorem dX12_which_81 : decode cX12_which 81 = .ok (.iload_n 2, 1) := by decide +kernel
theorem dX12_which_82 : decode cX12_which 82 = .ok (.ishl, 1) := by decide +kernel
theorem dX12_which_83 : decode cX12_which 83 = .ok (.goto 4, 3) := by decide +kernel
theorem dX12_which_86 : decode cX12_which 86 = .ok (.iconst 0, 1) := by decide +kernel
theorem dX12_which_87 : decode cX12_which 87 = .ok (.ior, 1) := by decide +kernel
theorem dX12_which_88 : decode cX12_which 88 = .ok (.istore_n 1, 1) := by decide +kernel
theorem dX12_which_89 : decode cX12_which 89 = .ok (.iinc 2 1, 3) := by decide +kernel
theorem dX12_which_92 : decode cX12_which 92 = .ok (.goto (-83), 3) := by decide +kernel
theorem dX12_which_95 : decode cX12_which 95 = .ok (.iload_n 1, 1) := by decide +kernel
theorem dX12_which_96 : decode cX12_which 96 = .ok (.ireturn, 1) := by decide +kernel
theorem mk_X12_which : MVk yX12_which "FairBlocksModel" cX12_which 5 (Option.some FieldType.int) 0 := ⟨w_992, w_990, w_991, w_13, rfl, by decide +kernel, by decide +kernel, by decide +kernel⟩
def BX12_which_0 (G : Nat → KT) (Q : Option mV → mM → Prop) : KT := (s_aload 0 (s_iconst (0) (s_puti 12 0 (s_iconst (0) (s_istore 1 (s_iconst (0) (s_istore 2 (s_at G 9 [true, true, true, false, false]))))))))
set_option maxRecDepth 4000 in
theorem bsX12_which_0 {p : Program} {l : Launch} {e : Env} {s : State} {m : MethodId} {args : Array Value} {below : List Frame} {meth : Method} {c : Code} {D : va_G} {ca : Nat → ClassId} {ad : Nat → Nat} {A : Nat → Prop} {Q : Option mV → mM → Prop} (hX : CX p s m args meth c 5 cX12_which "FairBlocksModel" D ca ad A) (hr : meth.sig.returnType = (Option.some FieldType.int)) : ∀ lv st M, BX12_which_0 (Gd p l e (rmD 6) s m args below meth c 5 D ca ad A 0 0 (MQ below (QC D ca ad A Q) args s 0 0 A)) Q lv st M → Gd p l e (rmD 6) s m args below meth c 5 D ca ad A 0 0 (MQ below (QC D ca ad A Q) args s 0 0 A) 0 lv st M :=
  (sd_aload_n hX dX12_which_0 rfl (sd_iconst hX dX12_which_1 rfl (sd_puti hX fp_723 dX12_which_2 (sd_iconst hX dX12_which_5 rfl (sd_istore_n hX (by decide) dX12_which_6 rfl (sd_iconst hX dX12_which_7 rfl (sd_istore_n hX (by decide) dX12_which_8 rfl sd_at)))))))
def BX12_which_9 (G : Nat → KT) (Q : Option mV → mM → Prop) : KT := (s_iload 2 (s_aload 0 (s_geti 12 6 (s_icmp (fun x y => y ≤ x) (s_at G 95 [false, true, false, false, false]) (s_aload 0 (s_getr 12 13 (fun _ => 165) (s_iconst (10) (s_iload 2 (s_bin (fun x y => x * y) (s_iconst (3) (s_bin (fun x y => x + y) (s_iald (s_if (fun x => x = 0) ((s_iconst (1) (s_at G 36 [true, true, true, false, false]))) (s_at G 35 [true, true, true, false, false]))))))))))))))
set_option maxRecDepth 4000 in
theorem bsX12_which_9 {p : Program} {l : Launch} {e : Env} {s : State} {m : MethodId} {args : Array Value} {below : List Frame} {meth : Method} {c : Code} {D : va_G} {ca : Nat → ClassId} {ad : Nat → Nat} {A : Nat → Prop} {Q : Option mV → mM → Prop} (hX : CX p s m args meth c 5 cX12_which "FairBlocksModel" D ca ad A) (hr : meth.sig.returnType = (Option.some FieldType.int)) : ∀ lv st M, BX12_which_9 (Gd p l e (rmD 6) s m args below meth c 5 D ca ad A 0 0 (MQ below (QC D ca ad A Q) args s 0 0 A)) Q lv st M → Gd p l e (rmD 6) s m args below meth c 5 D ca ad A 0 0 (MQ below (QC D ca ad A Q) args s 0 0 A) 9 lv st M :=
  (sd_iload_n hX dX12_which_9 rfl (sd_aload_n hX dX12_which_10 rfl (sd_geti hX fl_729 (by decide) dX12_which_11 (sd_icmp_ge hX dX12_which_14 (by decide) sd_at (sd_aload_n hX dX12_which_17 rfl (sd_getr hX fl_739 (fun _ => rfl) (fun _ _ _ => by decide +kernel) dX12_which_18 (sd_bipush hX dX12_which_21 rfl (sd_iload_n hX dX12_which_23 rfl (sd_imul hX dX12_which_24 (sd_iconst hX dX12_which_25 rfl (sd_iadd hX dX12_which_26 (sd_iald hX dX12_which_27 (sd_if_ne hX dX12_which_28 (by decide) sd_at (sd_iconst hX dX12_which_31 rfl (sd_goto hX dX12_which_32 (by decide) sd_at)))))))))))))))
def BX12_which_35 (G : Nat → KT) (Q : Option mV → mM → Prop) : KT := (s_iconst (0) (s_at G 36 [true, true, true, false, false]))
set_option maxRecDepth 4000 in
theorem bsX12_which_35 {p : Program} {l : Launch} {e : Env} {s : State} {m : MethodId} {args : Array Value} {below : List Frame} {meth : Method} {c : Code} {D : va_G} {ca : Nat → ClassId} {ad : Nat → Nat} {A : Nat → Prop} {Q : Option mV → mM → Prop} (hX : CX p s m args meth c 5 cX12_which "FairBlocksModel" D ca ad A) (hr : meth.sig.returnType = (Option.some FieldType.int)) : ∀ lv st M, BX12_which_35 (Gd p l e (rmD 6) s m args below meth c 5 D ca ad A 0 0 (MQ below (QC D ca ad A Q) args s 0 0 A)) Q lv st M → Gd p l e (rmD 6) s m args below meth c 5 D ca ad A 0 0 (MQ below (QC D ca ad A Q) args s 0 0 A) 35 lv st M :=
  (sd_iconst hX dX12_which_35 rfl sd_at)
def BX12_which_36 (G : Nat → KT) (Q : Option mV → mM → Prop) : KT := (s_istore 3 (s_iconst (0) (s_istore 4 (s_at G 40 [true, true, true, true, true]))))
set_option maxRecDepth 4000 in
theorem bsX12_which_36 {p : Program} {l : Launch} {e : Env} {s : State} {m : MethodId} {args : Array Value} {below : List Frame} {meth : Method} {c : Code} {D : va_G} {ca : Nat → ClassId} {ad : Nat → Nat} {A : Nat → Prop} {Q : Option mV → mM → Prop} (hX : CX p s m args meth c 5 cX12_which "FairBlocksModel" D ca ad A) (hr : meth.sig.returnType = (Option.some FieldType.int)) : ∀ lv st M, BX12_which_36 (Gd p l e (rmD 6) s m args below meth c 5 D ca ad A 0 0 (MQ below (QC D ca ad A Q) args s 0 0 A)) Q lv st M → Gd p l e (rmD 6) s m args below meth c 5 D ca ad A 0 0 (MQ below (QC D ca ad A Q) args s 0 0 A) 36 lv st M :=
  (sd_istore_n hX (by decide) dX12_which_36 rfl (sd_iconst hX dX12_which_37 rfl (sd_istore hX (by decide) dX12_which_38 sd_at)))
def BX12_which_40 (G : Nat → KT) (Q : Option mV → mM → Prop) : KT := (s_iload 4 (s_aload 0 (s_geti 12 23 (s_icmp (fun x y => y ≤ x) (s_at G 75 [true, true, true, true, false]) (s_iload 3 (s_if (fun x => x = 0) (s_at G 67 [true, true, true, false, true]) (s_aload 0 (s_iload 2 (s_iload 4 (s_callV 12 2 pre_X12_isSo fn_X12_isSo (s_if (fun x => x = 0) (s_at G 67 [true, true, true, false, true]) (s_iconst (1) (s_at G 68 [true, true, true, false, true])))))))))))))
set_option maxRecDepth 4000 in
theorem bsX12_which_40 {p : Program} {l : Launch} {e : Env} {s : State} {m : MethodId} {args : Array Value} {below : List Frame} {meth : Method} {c : Code} {D : va_G} {ca : Nat → ClassId} {ad : Nat → Nat} {A : Nat → Prop} {Q : Option mV → mM → Prop} (hX : CX p s m args meth c 5 cX12_which "FairBlocksModel" D ca ad A) (hr : meth.sig.returnType = (Option.some FieldType.int)) : ∀ lv st M, BX12_which_40 (Gd p l e (rmD 6) s m args below meth c 5 D ca ad A 0 0 (MQ below (QC D ca ad A Q) args s 0 0 A)) Q lv st M → Gd p l e (rmD 6) s m args below meth c 5 D ca ad A 0 0 (MQ below (QC D ca ad A Q) args s 0 0 A) 40 lv st M :=
  (sd_iload hX dX12_which_40 (sd_aload_n hX dX12_which_42 rfl (sd_geti hX fl_746 (by decide) dX12_which_43 (sd_icmp_ge hX dX12_which_46 (by decide) sd_at (sd_iload_n hX dX12_which_49 rfl (sd_if_eq hX dX12_which_50 (by decide) sd_at (sd_aload_n hX dX12_which_53 rfl (sd_iload_n hX dX12_which_54 rfl (sd_iload hX dX12_which_55 (sd_callV hX (kd := 12) rfl (by decide) (ct_X12_isSo l) mk_X12_isSo w_993 ⟨⟨by decide, by decide⟩, by decide, by decide⟩ dX12_which_57 (sd_if_eq hX dX12_which_60 (by decide) sd_at (sd_iconst hX dX12_which_63 rfl (sd_goto hX dX12_which_64 (by decide) sd_at)))))))))))))
def BX12_which_67 (G : Nat → KT) (Q : Option mV → mM → Prop) : KT := (s_iconst (0) (s_at G 68 [true, true, true, false, true]))
set_option maxRecDepth 4000 in
theorem bsX12_which_67 {p : Program} {l : Launch} {e : Env} {s : State} {m : MethodId} {args : Array Value} {below : List Frame} {meth : Method} {c : Code} {D : va_G} {ca : Nat → ClassId} {ad : Nat → Nat} {A : Nat → Prop} {Q : Option mV → mM → Prop} (hX : CX p s m args meth c 5 cX12_which "FairBlocksModel" D ca ad A) (hr : meth.sig.returnType = (Option.some FieldType.int)) : ∀ lv st M, BX12_which_67 (Gd p l e (rmD 6) s m args below meth c 5 D ca ad A 0 0 (MQ below (QC D ca ad A Q) args s 0 0 A)) Q lv st M → Gd p l e (rmD 6) s m args below meth c 5 D ca ad A 0 0 (MQ below (QC D ca ad A Q) args s 0 0 A) 67 lv st M :=
  (sd_iconst hX dX12_which_67 rfl sd_at)
def BX12_which_68 (G : Nat → KT) (Q : Option mV → mM → Prop) : KT := (s_istore 3 (s_iinc 4 (1) (s_at G 40 [true, true, true, true, true])))
set_option maxRecDepth 4000 in
theorem bsX12_which_68 {p : Program} {l : Launch} {e : Env} {s : State} {m : MethodId} {args : Array Value} {below : List Frame} {meth : Method} {c : Code} {D : va_G} {ca : Nat → ClassId} {ad : Nat → Nat} {A : Nat → Prop} {Q : Option mV → mM → Prop} (hX : CX p s m args meth c 5 cX12_which "FairBlocksModel" D ca ad A) (hr : meth.sig.returnType = (Option.some FieldType.int)) : ∀ lv st M, BX12_which_68 (Gd p l e (rmD 6) s m args below meth c 5 D ca ad A 0 0 (MQ below (QC D ca ad A Q) args s 0 0 A)) Q lv st M → Gd p l e (rmD 6) s m args below meth c 5 D ca ad A 0 0 (MQ below (QC D ca ad A Q) args s 0 0 A) 68 lv st M :=
  (sd_istore_n hX (by decide) dX12_which_68 rfl (sd_iinc hX (by decide) dX12_which_69 rfl (sd_goto hX dX12_which_72 (by decide) sd_at)))
def BX12_which_75 (G : Nat → KT) (Q : Option mV → mM → Prop) : KT := (s_iload 1 (s_iload 3 (s_if (fun x => x = 0) (s_at G 86 [true, false, true, false, false]) (s_iconst (1) (s_iload 2 (s_bin (fun x y => x <<< (y &&& 31)) (s_at G 87 [true, false, true, false, false])))))))
set_option maxRecDepth 4000 in
theorem bsX12_which_75 {p : Program} {l : Launch} {e : Env} {s : State} {m : MethodId} {args : Array Value} {below : List Frame} {meth : Method} {c : Code} {D : va_G} {ca : Nat → ClassId} {ad : Nat → Nat} {A : Nat → Prop} {Q : Option mV → mM → Prop} (hX : CX p s m args meth c 5 cX12_which "FairBlocksModel" D ca ad A) (hr : meth.sig.returnType = (Option.some FieldType.int)) : ∀ lv st M, BX12_which_75 (Gd p l e (rmD 6) s m args below meth c 5 D ca ad A 0 0 (MQ below (QC D ca ad A Q) args s 0 0 A)) Q lv st M → Gd p l e (rmD 6) s m args below meth c 5 D ca ad A 0 0 (MQ below (QC D ca ad A Q) args s 0 0 A) 75 lv st M :=
  (sd_iload_n hX dX12_which_75 rfl (sd_iload_n hX dX12_which_76 rfl (sd_if_eq hX dX12_which_77 (by decide) sd_at (sd_iconst hX dX12_which_80 rfl (sd_iload_n hX dX12_which_81 rfl (sd_ishl hX dX12_which_82 (sd_goto hX dX12_which_83 (by decide) sd_at)))))))
def BX12_which_86 (G : Nat → KT) (Q : Option mV → mM → Prop) : KT := (s_iconst (0) (s_at G 87 [true, false, true, false, false]))
set_option maxRecDepth 4000 in
theorem bsX12_which_86 {p : Program} {l : Launch} {e : Env} {s : State} {m : MethodId} {args : Array Value} {below : List Frame} {meth : Method} {c : Code} {D : va_G} {ca : Nat → ClassId} {ad : Nat → Nat} {A : Nat → Prop} {Q : Option mV → mM → Prop} (hX : CX p s m args meth c 5 cX12_which "FairBlocksModel" D ca ad A) (hr : meth.sig.returnType = (Option.some FieldType.int)) : ∀ lv st M, BX12_which_86 (Gd p l e (rmD 6) s m args below meth c 5 D ca ad A 0 0 (MQ below (QC D ca ad A Q) args s 0 0 A)) Q lv st M → Gd p l e (rmD 6) s m args below meth c 5 D ca ad A 0 0 (MQ below (QC D ca ad A Q) args s 0 0 A) 86 lv st M :=
  (sd_iconst hX dX12_which_86 rfl sd_at)
def BX12_which_87 (G : Nat → KT) (Q : Option mV → mM → Prop) : KT := (s_bin (fun x y => x ||| y) (s_istore 1 (s_iinc 2 (1) (s_at G 9 [true, true, true, false, false]))))
set_option maxRecDepth 4000 in
theorem bsX12_which_87 {p : Program} {l : Launch} {e : Env} {s : State} {m : MethodId} {args : Array Value} {below : List Frame} {meth : Method} {c : Code} {D : va_G} {ca : Nat → ClassId} {ad : Nat → Nat} {A : Nat → Prop} {Q : Option mV → mM → Prop} (hX : CX p s m args meth c 5 cX12_which "FairBlocksModel" D ca ad A) (hr : meth.sig.returnType = (Option.some FieldType.int)) : ∀ lv st M, BX12_which_87 (Gd p l e (rmD 6) s m args below meth c 5 D ca ad A 0 0 (MQ below (QC D ca ad A Q) args s 0 0 A)) Q lv st M → Gd p l e (rmD 6) s m args below meth c 5 D ca ad A 0 0 (MQ below (QC D ca ad A Q) args s 0 0 A) 87 lv st M :=
  (sd_ior hX dX12_which_87 (sd_istore_n hX (by decide) dX12_which_88 rfl (sd_iinc hX (by decide) dX12_which_89 rfl (sd_goto hX dX12_which_92 (by decide) sd_at))))
def BX12_which_95 (G : Nat → KT) (Q : Option mV → mM → Prop) : KT := (s_iload 1 (s_iret Q))
set_option maxRecDepth 4000 in
theorem bsX12_which_95 {p : Program} {l : Launch} {e : Env} {s : State} {m : MethodId} {args : Array Value} {below : List Frame} {meth : Method} {c : Code} {D : va_G} {ca : Nat → ClassId} {ad : Nat → Nat} {A : Nat → Prop} {Q : Option mV → mM → Prop} (hX : CX p s m args meth c 5 cX12_which "FairBlocksModel" D ca ad A) (hr : meth.sig.returnType = (Option.some FieldType.int)) : ∀ lv st M, BX12_which_95 (Gd p l e (rmD 6) s m args below meth c 5 D ca ad A 0 0 (MQ below (QC D ca ad A Q) args s 0 0 A)) Q lv st M → Gd p l e (rmD 6) s m args below meth c 5 D ca ad A 0 0 (MQ below (QC D ca ad A Q) args s 0 0 A) 95 lv st M :=
  (sd_iload_n hX dX12_which_95 rfl (sd_iret hX hr dX12_which_96))
set_option maxHeartbeats 400000 in
theorem pf_X12_which (G : Nat → KT) (Q : Option mV → mM → Prop) (h0 : ∀ lv st M, BX12_which_0 G Q lv st M → G 0 lv st M) (h9 : ∀ lv st M, BX12_which_9 G Q lv st M → G 9 lv st M) (h35 : ∀ lv st M, BX12_which_35 G Q lv st M → G 35 lv st M) (h36 : ∀ lv st M, BX12_which_36 G Q lv st M → G 36 lv st M) (h40 : ∀ lv st M, BX12_which_40 G Q lv st M → G 40 lv st M) (h67 : ∀ lv st M, BX12_which_67 G Q lv st M → G 67 lv st M) (h68 : ∀ lv st M, BX12_which_68 G Q lv st M → G 68 lv st M) (h75 : ∀ lv st M, BX12_which_75 G Q lv st M → G 75 lv st M) (h86 : ∀ lv st M, BX12_which_86 G Q lv st M → G 86 lv st M) (h87 : ∀ lv st M, BX12_which_87 G Q lv st M → G 87 lv st M) (h95 : ∀ lv st M, BX12_which_95 G Q lv st M → G 95 lv st M) (as : List mV) (M : mM) (ho : ∀ v ∈ as, okV v) (hp : pre_X12_which as M) (hQ : Q (fn_X12_which as M).1 (fn_X12_which as M).2) : G 0 (inL as ++ List.replicate (5 - (inL as).length) none) [] M := by
  obtain ⟨c, rfl, hM⟩ := hp
  obtain rfl : c = 158 := k12 (ho (.inr (.inr (12, c))) (by simp))
  have hI := MI_0 hM
  simp only [fn_X12_which, m_which] at hQ
  (apply h0; simp only [BX12_which_0, s_mth, s_mab, s_at, s_iconst, s_lconst, s_iload, s_lload, s_aload, s_istore, s_lstore, s_astore, s_iinc, s_bin, s_binG, s_un, s_lbin, s_lbinG, s_lsh, s_lcmp, s_i2l, s_l2i, s_dup, s_dup2, s_pop, s_if, s_icmp, s_geti, s_getl, s_getr, s_puti, s_putz, s_putl, s_iald, s_zald, s_iast, s_zast, s_aaldS, s_aaldU, s_gets, s_tald, s_tsw, tsw, s_iret, s_zret, s_lret, s_aret, s_vret, s_callV, s_callS, c1, nl1, keepL, csum, pushR, inL, List.getD_cons_zero, List.getD_cons_succ, List.set_cons_zero, List.set_cons_succ, List.cons_append, List.nil_append, List.append_nil, List.replicate, List.length_cons, List.length_nil, List.take_succ_cons, List.take_zero, List.drop_succ_cons, List.drop_zero, List.reverse_cons, List.reverse_nil, true_and, and_true, forall_const, not_true_eq_false, not_false_eq_true, false_implies, true_implies, implies_true, one0, m10, Nat.reduceAdd, Nat.reduceSub, Nat.reduceLeDiff, Nat.zero_add, Nat.add_zero, fn_X12_isSo])
  rw [show mset M 158 0 0 = m0 M from rfl]
  generalize m0 M = M0 at *
  obtain ⟨hn, en, -⟩ := nM_e hI.1.1
  obtain ⟨z, hz, ez, hS⟩ := hI.2.2.2.1
  have hnS : ∀ M', TR M0 M' → nS M' = z ∧ M'.1 158 23 = nI z := by
    intro M' h
    have e := h.1 158 (by decide) (by decide) (by decide)
    refine ⟨?_, by rw [e]; exact ez⟩
    unfold nS
    rw [e, ez, nI_clamp (by omega)]
  have hS' : ∀ M', TR M0 M' → ∀ i, i < nS M' → ∃ a, a ≤ 9 ∧ M'.1 171 i = nI a := by
    intro M' h i hi
    rw [(hnS M' h).1] at hi
    rw [h.1 171 (by decide) (by decide) (by decide)]
    exact hS i hi
  have loop : ∀ (n u : Nat) (s : Int32) (M' : mM), u + n = nM M0 → TR M0 M' → Q (some (.inl (itr wkO u n (s, M')).1)) (itr wkO u n (s, M')).2 → G 9 [some (.inr (.inr (12, 158))), some (.inl s), some (.inl (nI u)), none, none] [] M' := by
    intro n
    induction n with
    | zero =>
      intro u s M' hu hT hq
      (apply h9; simp only [BX12_which_9, s_mth, s_mab, s_at, s_iconst, s_lconst, s_iload, s_lload, s_aload, s_istore, s_lstore, s_astore, s_iinc, s_bin, s_binG, s_un, s_lbin, s_lbinG, s_lsh, s_lcmp, s_i2l, s_l2i, s_dup, s_dup2, s_pop, s_if, s_icmp, s_geti, s_getl, s_getr, s_puti, s_putz, s_putl, s_iald, s_zald, s_iast, s_zast, s_aaldS, s_aaldU, s_gets, s_tald, s_tsw, tsw, s_iret, s_zret, s_lret, s_aret, s_vret, s_callV, s_callS, c1, nl1, keepL, csum, pushR, inL, List.getD_cons_zero, List.getD_cons_succ, List.set_cons_zero, List.set_cons_succ, List.cons_append, List.nil_append, List.append_nil, List.replicate, List.length_cons, List.length_nil, List.take_succ_cons, List.take_zero, List.drop_succ_cons, List.drop_zero, List.reverse_cons, List.reverse_nil, true_and, and_true, forall_const, not_true_eq_false, not_false_eq_true, false_implies, true_implies, implies_true, one0, m10, Nat.reduceAdd, Nat.reduceSub, Nat.reduceLeDiff, Nat.zero_add, Nat.add_zero, fn_X12_isSo])
      rw [hT.1 158 (by decide) (by decide) (by decide), en]
      refine ⟨fun _ => ?_, fun h => absurd (nI_le (by omega) (by omega)) h⟩
      (apply h95; simp only [BX12_which_95, s_mth, s_mab, s_at, s_iconst, s_lconst, s_iload, s_lload, s_aload, s_istore, s_lstore, s_astore, s_iinc, s_bin, s_binG, s_un, s_lbin, s_lbinG, s_lsh, s_lcmp, s_i2l, s_l2i, s_dup, s_dup2, s_pop, s_if, s_icmp, s_geti, s_getl, s_getr, s_puti, s_putz, s_putl, s_iald, s_zald, s_iast, s_zast, s_aaldS, s_aaldU, s_gets, s_tald, s_tsw, tsw, s_iret, s_zret, s_lret, s_aret, s_vret, s_callV, s_callS, c1, nl1, keepL, csum, pushR, inL, List.getD_cons_zero, List.getD_cons_succ, List.set_cons_zero, List.set_cons_succ, List.cons_append, List.nil_append, List.append_nil, List.replicate, List.length_cons, List.length_nil, List.take_succ_cons, List.take_zero, List.drop_succ_cons, List.drop_zero, List.reverse_cons, List.reverse_nil, true_and, and_true, forall_const, not_true_eq_false, not_false_eq_true, false_implies, true_implies, implies_true, one0, m10, Nat.reduceAdd, Nat.reduceSub, Nat.reduceLeDiff, Nat.zero_add, Nat.add_zero, fn_X12_isSo])
      exact hq
    | succ n ih =>
      intro u s M' hu hT hq
      have hu5 : u < 5 := by omega
      have hP := TR_PM hT hI.1.1
      have hG := TR_PG hT hI.1.2
      have hTJ := TR_wkJ hu5 hP hG (hS' M' hT)
      have x0 : ((10 : Int32) * nI u + 0).toNatClampNeg = 10 * u + 0 := cx hu5 0 (by decide)
      have v0 : vp_in ((10 : Int32) * nI u + 0) 52 := vx hu5 0 (by decide)
      have x1 : ((10 : Int32) * nI u + 1).toNatClampNeg = 10 * u + 1 := cx hu5 1 (by decide)
      have v1 : vp_in ((10 : Int32) * nI u + 1) 52 := vx hu5 1 (by decide)
      have x2 : ((10 : Int32) * nI u + 2).toNatClampNeg = 10 * u + 2 := cx hu5 2 (by decide)
      have v2 : vp_in ((10 : Int32) * nI u + 2) 52 := vx hu5 2 (by decide)
      have x3 : ((10 : Int32) * nI u + 3).toNatClampNeg = 10 * u + 3 := cx hu5 3 (by decide)
      have v3 : vp_in ((10 : Int32) * nI u + 3) 52 := vx hu5 3 (by decide)
      have x4 : ((10 : Int32) * nI u + 4).toNatClampNeg = 10 * u + 4 := cx hu5 4 (by decide)
      have v4 : vp_in ((10 : Int32) * nI u + 4) 52 := vx hu5 4 (by decide)
      have x5 : ((10 : Int32) * nI u + 5).toNatClampNeg = 10 * u + 5 := cx hu5 5 (by decide)
      have v5 : vp_in ((10 : Int32) * nI u + 5) 52 := vx hu5 5 (by decide)
      have x6 : ((10 : Int32) * nI u + 6).toNatClampNeg = 10 * u + 6 := cx hu5 6 (by decide)
      have v6 : vp_in ((10 : Int32) * nI u + 6) 52 := vx hu5 6 (by decide)
      have x7 : ((10 : Int32) * nI u + 7).toNatClampNeg = 10 * u + 7 := cx hu5 7 (by decide)
      have v7 : vp_in ((10 : Int32) * nI u + 7) 52 := vx hu5 7 (by decide)
      have x8 : ((10 : Int32) * nI u + 8).toNatClampNeg = 10 * u + 8 := cx hu5 8 (by decide)
      have v8 : vp_in ((10 : Int32) * nI u + 8) 52 := vx hu5 8 (by decide)
      have x9 : ((10 : Int32) * nI u + 9).toNatClampNeg = 10 * u + 9 := cx hu5 9 (by decide)
      have v9 : vp_in ((10 : Int32) * nI u + 9) 52 := vx hu5 9 (by decide)
      have L75 : ∀ q, q = wkJ u M' → G 75 [some (.inr (.inr (12, 158))), some (.inl s), some (.inl (nI u)), some (.inl q.1), none] [] q.2 := by
        rintro _ rfl
        have L87 : ∀ b, b = (if (wkJ u M').1 = 0 then 0 else (1 : Int32) <<< (nI u &&& 31)) → G 87 [some (.inr (.inr (12, 158))), none, some (.inl (nI u)), none, none] [.inl b, .inl s] (wkJ u M').2 := by
          intro b eb
          (apply h87; simp only [BX12_which_87, s_mth, s_mab, s_at, s_iconst, s_lconst, s_iload, s_lload, s_aload, s_istore, s_lstore, s_astore, s_iinc, s_bin, s_binG, s_un, s_lbin, s_lbinG, s_lsh, s_lcmp, s_i2l, s_l2i, s_dup, s_dup2, s_pop, s_if, s_icmp, s_geti, s_getl, s_getr, s_puti, s_putz, s_putl, s_iald, s_zald, s_iast, s_zast, s_aaldS, s_aaldU, s_gets, s_tald, s_tsw, tsw, s_iret, s_zret, s_lret, s_aret, s_vret, s_callV, s_callS, c1, nl1, keepL, csum, pushR, inL, List.getD_cons_zero, List.getD_cons_succ, List.set_cons_zero, List.set_cons_succ, List.cons_append, List.nil_append, List.append_nil, List.replicate, List.length_cons, List.length_nil, List.take_succ_cons, List.take_zero, List.drop_succ_cons, List.drop_zero, List.reverse_cons, List.reverse_nil, true_and, and_true, forall_const, not_true_eq_false, not_false_eq_true, false_implies, true_implies, implies_true, one0, m10, Nat.reduceAdd, Nat.reduceSub, Nat.reduceLeDiff, Nat.zero_add, Nat.add_zero, fn_X12_isSo])
          rw [nI_1, eb]
          exact ih (u + 1) _ _ (by omega) (TR_t hT hTJ) hq
        (apply h75; simp only [BX12_which_75, s_mth, s_mab, s_at, s_iconst, s_lconst, s_iload, s_lload, s_aload, s_istore, s_lstore, s_astore, s_iinc, s_bin, s_binG, s_un, s_lbin, s_lbinG, s_lsh, s_lcmp, s_i2l, s_l2i, s_dup, s_dup2, s_pop, s_if, s_icmp, s_geti, s_getl, s_getr, s_puti, s_putz, s_putl, s_iald, s_zald, s_iast, s_zast, s_aaldS, s_aaldU, s_gets, s_tald, s_tsw, tsw, s_iret, s_zret, s_lret, s_aret, s_vret, s_callV, s_callS, c1, nl1, keepL, csum, pushR, inL, List.getD_cons_zero, List.getD_cons_succ, List.set_cons_zero, List.set_cons_succ, List.cons_append, List.nil_append, List.append_nil, List.replicate, List.length_cons, List.length_nil, List.take_succ_cons, List.take_zero, List.drop_succ_cons, List.drop_zero, List.reverse_cons, List.reverse_nil, true_and, and_true, forall_const, not_true_eq_false, not_false_eq_true, false_implies, true_implies, implies_true, one0, m10, Nat.reduceAdd, Nat.reduceSub, Nat.reduceLeDiff, Nat.zero_add, Nat.add_zero, fn_X12_isSo])
        refine ⟨fun g => ?_, fun g => ?_⟩
        · (apply h86; simp only [BX12_which_86, s_mth, s_mab, s_at, s_iconst, s_lconst, s_iload, s_lload, s_aload, s_istore, s_lstore, s_astore, s_iinc, s_bin, s_binG, s_un, s_lbin, s_lbinG, s_lsh, s_lcmp, s_i2l, s_l2i, s_dup, s_dup2, s_pop, s_if, s_icmp, s_geti, s_getl, s_getr, s_puti, s_putz, s_putl, s_iald, s_zald, s_iast, s_zast, s_aaldS, s_aaldU, s_gets, s_tald, s_tsw, tsw, s_iret, s_zret, s_lret, s_aret, s_vret, s_callV, s_callS, c1, nl1, keepL, csum, pushR, inL, List.getD_cons_zero, List.getD_cons_succ, List.set_cons_zero, List.set_cons_succ, List.cons_append, List.nil_append, List.append_nil, List.replicate, List.length_cons, List.length_nil, List.take_succ_cons, List.take_zero, List.drop_succ_cons, List.drop_zero, List.reverse_cons, List.reverse_nil, true_and, and_true, forall_const, not_true_eq_false, not_false_eq_true, false_implies, true_implies, implies_true, one0, m10, Nat.reduceAdd, Nat.reduceSub, Nat.reduceLeDiff, Nat.zero_add, Nat.add_zero, fn_X12_isSo])
          exact L87 0 (by rw [if_pos g])
        · exact L87 _ (by rw [if_neg g])
      have inner : ∀ (k i : Nat) (m : Int32) (M2 : mM), i + k = z → TR M' M2 → itr (wkI u) i k (m, M2) = wkJ u M' → G 40 [some (.inr (.inr (12, 158))), some (.inl s), some (.inl (nI u)), some (.inl m), some (.inl (nI i))] [] M2 := by
        intro k
        induction k with
        | zero =>
          intro i m M2 hi hT2 e
          (apply h40; simp only [BX12_which_40, s_mth, s_mab, s_at, s_iconst, s_lconst, s_iload, s_lload, s_aload, s_istore, s_lstore, s_astore, s_iinc, s_bin, s_binG, s_un, s_lbin, s_lbinG, s_lsh, s_lcmp, s_i2l, s_l2i, s_dup, s_dup2, s_pop, s_if, s_icmp, s_geti, s_getl, s_getr, s_puti, s_putz, s_putl, s_iald, s_zald, s_iast, s_zast, s_aaldS, s_aaldU, s_gets, s_tald, s_tsw, tsw, s_iret, s_zret, s_lret, s_aret, s_vret, s_callV, s_callS, c1, nl1, keepL, csum, pushR, inL, List.getD_cons_zero, List.getD_cons_succ, List.set_cons_zero, List.set_cons_succ, List.cons_append, List.nil_append, List.append_nil, List.replicate, List.length_cons, List.length_nil, List.take_succ_cons, List.take_zero, List.drop_succ_cons, List.drop_zero, List.reverse_cons, List.reverse_nil, true_and, and_true, forall_const, not_true_eq_false, not_false_eq_true, false_implies, true_implies, implies_true, one0, m10, Nat.reduceAdd, Nat.reduceSub, Nat.reduceLeDiff, Nat.zero_add, Nat.add_zero, fn_X12_isSo])
          rw [(hnS M2 (TR_t hT hT2)).2]
          refine ⟨fun _ => ?_, fun h => absurd (nI_le (by omega) (by omega)) h⟩
          exact L75 (m, M2) e
        | succ k ik =>
          intro i m M2 hi hT2 e
          have hT3 := TR_t hT hT2
          have ei : (nI i).toNatClampNeg = i := nI_clamp (by omega)
          have eu : (nI u).toNatClampNeg = u := nI_clamp (by omega)
          have hkk := hS' M2 hT3 i (by rw [(hnS M2 hT3).1]; omega)
          have e2 : itr (wkI u) (i + 1) k (wkI u i (m, M2)) = wkJ u M' := e
          unfold wkI at e2
          simp only at e2
          have L68 : ∀ (w : Int32) (M3 : mM), TR M' M3 → itr (wkI u) (i + 1) k (w, M3) = wkJ u M' → G 68 [some (.inr (.inr (12, 158))), some (.inl s), some (.inl (nI u)), none, some (.inl (nI i))] [.inl w] M3 := by
            intro w M3 hT4 e3
            (apply h68; simp only [BX12_which_68, s_mth, s_mab, s_at, s_iconst, s_lconst, s_iload, s_lload, s_aload, s_istore, s_lstore, s_astore, s_iinc, s_bin, s_binG, s_un, s_lbin, s_lbinG, s_lsh, s_lcmp, s_i2l, s_l2i, s_dup, s_dup2, s_pop, s_if, s_icmp, s_geti, s_getl, s_getr, s_puti, s_putz, s_putl, s_iald, s_zald, s_iast, s_zast, s_aaldS, s_aaldU, s_gets, s_tald, s_tsw, tsw, s_iret, s_zret, s_lret, s_aret, s_vret, s_callV, s_callS, c1, nl1, keepL, csum, pushR, inL, List.getD_cons_zero, List.getD_cons_succ, List.set_cons_zero, List.set_cons_succ, List.cons_append, List.nil_append, List.append_nil, List.replicate, List.length_cons, List.length_nil, List.take_succ_cons, List.take_zero, List.drop_succ_cons, List.drop_zero, List.reverse_cons, List.reverse_nil, true_and, and_true, forall_const, not_true_eq_false, not_false_eq_true, false_implies, true_implies, implies_true, one0, m10, Nat.reduceAdd, Nat.reduceSub, Nat.reduceLeDiff, Nat.zero_add, Nat.add_zero, fn_X12_isSo])
            rw [nI_1]
            exact ik (i + 1) w M3 (by omega) hT4 e3
          have hTF := TR_isF hu5 hkk (TR_PM hT3 hI.1.1) (TR_PG hT3 hI.1.2)
          (apply h40; simp only [BX12_which_40, s_mth, s_mab, s_at, s_iconst, s_lconst, s_iload, s_lload, s_aload, s_istore, s_lstore, s_astore, s_iinc, s_bin, s_binG, s_un, s_lbin, s_lbinG, s_lsh, s_lcmp, s_i2l, s_l2i, s_dup, s_dup2, s_pop, s_if, s_icmp, s_geti, s_getl, s_getr, s_puti, s_putz, s_putl, s_iald, s_zald, s_iast, s_zast, s_aaldS, s_aaldU, s_gets, s_tald, s_tsw, tsw, s_iret, s_zret, s_lret, s_aret, s_vret, s_callV, s_callS, c1, nl1, keepL, csum, pushR, inL, List.getD_cons_zero, List.getD_cons_succ, List.set_cons_zero, List.set_cons_succ, List.cons_append, List.nil_append, List.append_nil, List.replicate, List.length_cons, List.length_nil, List.take_succ_cons, List.take_zero, List.drop_succ_cons, List.drop_zero, List.reverse_cons, List.reverse_nil, true_and, and_true, forall_const, not_true_eq_false, not_false_eq_true, false_implies, true_implies, implies_true, one0, m10, Nat.reduceAdd, Nat.reduceSub, Nat.reduceLeDiff, Nat.zero_add, Nat.add_zero, fn_X12_isSo])
          rw [(hnS M2 hT3).2]
          simp only [ei, eu]
          refine ⟨fun h => absurd h (nI_ge (by omega) (by omega)), fun _ => ⟨fun g => ?_, fun g => ⟨⟨_, _, _, rfl, ⟨TR_PM hT3 hI.1.1, TR_PG hT3 hI.1.2⟩, ⟨u, hu5, rfl⟩, i, by omega, rfl, hkk⟩, fun g2 => ?_, fun g2 => ?_⟩⟩⟩
          · rw [if_pos g] at e2
            (apply h67; simp only [BX12_which_67, s_mth, s_mab, s_at, s_iconst, s_lconst, s_iload, s_lload, s_aload, s_istore, s_lstore, s_astore, s_iinc, s_bin, s_binG, s_un, s_lbin, s_lbinG, s_lsh, s_lcmp, s_i2l, s_l2i, s_dup, s_dup2, s_pop, s_if, s_icmp, s_geti, s_getl, s_getr, s_puti, s_putz, s_putl, s_iald, s_zald, s_iast, s_zast, s_aaldS, s_aaldU, s_gets, s_tald, s_tsw, tsw, s_iret, s_zret, s_lret, s_aret, s_vret, s_callV, s_callS, c1, nl1, keepL, csum, pushR, inL, List.getD_cons_zero, List.getD_cons_succ, List.set_cons_zero, List.set_cons_succ, List.cons_append, List.nil_append, List.append_nil, List.replicate, List.length_cons, List.length_nil, List.take_succ_cons, List.take_zero, List.drop_succ_cons, List.drop_zero, List.reverse_cons, List.reverse_nil, true_and, and_true, forall_const, not_true_eq_false, not_false_eq_true, false_implies, true_implies, implies_true, one0, m10, Nat.reduceAdd, Nat.reduceSub, Nat.reduceLeDiff, Nat.zero_add, Nat.add_zero, fn_X12_isSo])
            exact L68 0 M2 hT2 e2
          · rw [if_neg g, if_pos g2] at e2
            (apply h67; simp only [BX12_which_67, s_mth, s_mab, s_at, s_iconst, s_lconst, s_iload, s_lload, s_aload, s_istore, s_lstore, s_astore, s_iinc, s_bin, s_binG, s_un, s_lbin, s_lbinG, s_lsh, s_lcmp, s_i2l, s_l2i, s_dup, s_dup2, s_pop, s_if, s_icmp, s_geti, s_getl, s_getr, s_puti, s_putz, s_putl, s_iald, s_zald, s_iast, s_zast, s_aaldS, s_aaldU, s_gets, s_tald, s_tsw, tsw, s_iret, s_zret, s_lret, s_aret, s_vret, s_callV, s_callS, c1, nl1, keepL, csum, pushR, inL, List.getD_cons_zero, List.getD_cons_succ, List.set_cons_zero, List.set_cons_succ, List.cons_append, List.nil_append, List.append_nil, List.replicate, List.length_cons, List.length_nil, List.take_succ_cons, List.take_zero, List.drop_succ_cons, List.drop_zero, List.reverse_cons, List.reverse_nil, true_and, and_true, forall_const, not_true_eq_false, not_false_eq_true, false_implies, true_implies, implies_true, one0, m10, Nat.reduceAdd, Nat.reduceSub, Nat.reduceLeDiff, Nat.zero_add, Nat.add_zero, fn_X12_isSo])
            exact L68 0 _ (TR_t hT2 hTF) e2
          · rw [if_neg g, if_neg g2] at e2
            exact L68 1 _ (TR_t hT2 hTF) e2
      have L36 : ∀ m, m = (if M'.1 165 (10 * u + 3) = 0 then 1 else 0) → G 36 [some (.inr (.inr (12, 158))), some (.inl s), some (.inl (nI u)), none, none] [.inl m] M' := by
        intro m em
        (apply h36; simp only [BX12_which_36, s_mth, s_mab, s_at, s_iconst, s_lconst, s_iload, s_lload, s_aload, s_istore, s_lstore, s_astore, s_iinc, s_bin, s_binG, s_un, s_lbin, s_lbinG, s_lsh, s_lcmp, s_i2l, s_l2i, s_dup, s_dup2, s_pop, s_if, s_icmp, s_geti, s_getl, s_getr, s_puti, s_putz, s_putl, s_iald, s_zald, s_iast, s_zast, s_aaldS, s_aaldU, s_gets, s_tald, s_tsw, tsw, s_iret, s_zret, s_lret, s_aret, s_vret, s_callV, s_callS, c1, nl1, keepL, csum, pushR, inL, List.getD_cons_zero, List.getD_cons_succ, List.set_cons_zero, List.set_cons_succ, List.cons_append, List.nil_append, List.append_nil, List.replicate, List.length_cons, List.length_nil, List.take_succ_cons, List.take_zero, List.drop_succ_cons, List.drop_zero, List.reverse_cons, List.reverse_nil, true_and, and_true, forall_const, not_true_eq_false, not_false_eq_true, false_implies, true_implies, implies_true, one0, m10, Nat.reduceAdd, Nat.reduceSub, Nat.reduceLeDiff, Nat.zero_add, Nat.add_zero, fn_X12_isSo])
        refine inner z 0 m M' (by omega) TR_r ?_
        rw [em]
        unfold wkJ
        rw [(hnS M' hT).1]
      (apply h9; simp only [BX12_which_9, s_mth, s_mab, s_at, s_iconst, s_lconst, s_iload, s_lload, s_aload, s_istore, s_lstore, s_astore, s_iinc, s_bin, s_binG, s_un, s_lbin, s_lbinG, s_lsh, s_lcmp, s_i2l, s_l2i, s_dup, s_dup2, s_pop, s_if, s_icmp, s_geti, s_getl, s_getr, s_puti, s_putz, s_putl, s_iald, s_zald, s_iast, s_zast, s_aaldS, s_aaldU, s_gets, s_tald, s_tsw, tsw, s_iret, s_zret, s_lret, s_aret, s_vret, s_callV, s_callS, c1, nl1, keepL, csum, pushR, inL, List.getD_cons_zero, List.getD_cons_succ, List.set_cons_zero, List.set_cons_succ, List.cons_append, List.nil_append, List.append_nil, List.replicate, List.length_cons, List.length_nil, List.take_succ_cons, List.take_zero, List.drop_succ_cons, List.drop_zero, List.reverse_cons, List.reverse_nil, true_and, and_true, forall_const, not_true_eq_false, not_false_eq_true, false_implies, true_implies, implies_true, one0, m10, Nat.reduceAdd, Nat.reduceSub, Nat.reduceLeDiff, Nat.zero_add, Nat.add_zero, fn_X12_isSo])
      rw [hT.1 158 (by decide) (by decide) (by decide), en]
      simp only [lM, x3]
      refine ⟨fun h => absurd h (nI_ge (by omega) (by omega)), fun _ => ⟨v3, fun g => ?_, fun g => ?_⟩⟩
      · exact L36 1 (by rw [if_pos g])
      · (apply h35; simp only [BX12_which_35, s_mth, s_mab, s_at, s_iconst, s_lconst, s_iload, s_lload, s_aload, s_istore, s_lstore, s_astore, s_iinc, s_bin, s_binG, s_un, s_lbin, s_lbinG, s_lsh, s_lcmp, s_i2l, s_l2i, s_dup, s_dup2, s_pop, s_if, s_icmp, s_geti, s_getl, s_getr, s_puti, s_putz, s_putl, s_iald, s_zald, s_iast, s_zast, s_aaldS, s_aaldU, s_gets, s_tald, s_tsw, tsw, s_iret, s_zret, s_lret, s_aret, s_vret, s_callV, s_callS, c1, nl1, keepL, csum, pushR, inL, List.getD_cons_zero, List.getD_cons_succ, List.set_cons_zero, List.set_cons_succ, List.cons_append, List.nil_append, List.append_nil, List.replicate, List.length_cons, List.length_nil, List.take_succ_cons, List.take_zero, List.drop_succ_cons, List.drop_zero, List.reverse_cons, List.reverse_nil, true_and, and_true, forall_const, not_true_eq_false, not_false_eq_true, false_implies, true_implies, implies_true, one0, m10, Nat.reduceAdd, Nat.reduceSub, Nat.reduceLeDiff, Nat.zero_add, Nat.add_zero, fn_X12_isSo])
        exact L36 0 (by rw [if_neg g])
  exact loop (nM M0) 0 0 M0 (by omega) TR_r hQ
theorem ct_X12_which (l : Launch) : Con l yX12_which cX12_which 5 (Option.some FieldType.int) 6 pre_X12_which fn_X12_which := con_of (by decide +kernel) ok_X12_which len_X12_which (fun p e s m args below meth c D ca ad A as M hX hr hp ho => pf_X12_which _ _ (bsX12_which_0 hX hr) (bsX12_which_9 hX hr) (bsX12_which_35 hX hr) (bsX12_which_36 hX hr) (bsX12_which_40 hX hr) (bsX12_which_67 hX hr) (bsX12_which_68 hX hr) (bsX12_which_75 hX hr) (bsX12_which_86 hX hr) (bsX12_which_87 hX hr) (bsX12_which_95 hX hr) as M ho hp ⟨rfl, rfl⟩)
def ofS (M : mM) (u : Nat) (s : Int32) : Int32 := s ||| (M.1 165 (10 * u + 3) <<< (nI u &&& 31))
def ofM (M : mM) : Int32 := itr (ofS M) 0 (nM M) 0
def pre_X12_offOnes (as : List mV) (M : mM) : Prop := ∃ c, as = [.inr (.inr (12, c))] ∧ PM M
def fn_X12_offOnes : List mV → mM → Option mV × mM
  | [.inr (.inr (_, c))], M => (some (.inl (ofM M)), M)
  | _, M => (none, M)
theorem ok_X12_offOnes (as : List mV) (M : mM) (h : pre_X12_offOnes as M) (_ : ∀ v ∈ as, okV v) : okR (fn_X12_offOnes as M).1 := by
  obtain ⟨c, rfl, -⟩ := h
  first | trivial | exact (by decide +kernel : kof 14 = 8)
theorem len_X12_offOnes (as : List mV) (M : mM) (h : pre_X12_offOnes as M) : (inL as).length ≤ 3 := by
  obtain ⟨c, rfl, -⟩ := h
  exact Nat.le_of_ble_eq_true rfl


theorem dX12_offOnes_0 : decode cX12_offOnes 0 = .ok (.iconst 0, 1) := by decide +kernel
theorem dX12_offOnes_1 : decode cX12_offOnes 1 = .ok (.istore_n 1, 1) := by decide +kernel
theorem dX12_offOnes_2 : decode cX12_offOnes 2 = .ok (.iconst 0, 1) := by decide +kernel
theorem dX12_offOnes_3 : decode cX12_offOnes 3 = .ok (.istore_n 2, 1) := by decide +kernel
theorem dX12_offOnes_4 : decode cX12_offOnes 4 = .ok (.iload_n 2, 1) := by decide +kernel
theorem dX12_offOnes_5 : decode cX12_offOnes 5 = .ok (.aload_n 0, 1) := by decide +kernel
theorem dX12_offOnes_6 : decode cX12_offOnes 6 = .ok (.getfield 14, 3) := by decide +kernel
theorem dX12_offOnes_9 : decode cX12_offOnes 9 = .ok (.if_icmp .ge 25, 3) := by decide +kernel
theorem dX12_offOnes_12 : decode cX12_offOnes 12 = .ok (.iload_n 1, 1) := by decide +kernel
theorem dX12_offOnes_13 : decode cX12_offOnes 13 = .ok (.aload_n 0, 1) := by decide +kernel
theorem dX12_offOnes_14 : decode cX12_offOnes 14 = .ok (.getfield 11, 3) := by decide +kernel
theorem dX12_offOnes_17 : decode cX12_offOnes 17 = .ok (.bipush 10, 2) := by decide +kernel
theorem dX12_offOnes_19 : decode cX12_offOnes 19 = .ok (.iload_n 2, 1) := by decide +kernel
theorem dX12_offOnes_20 : decode cX12_offOnes 20 = .ok (.imul, 1) := by decide +kernel
theorem dX12_offOnes_21 : decode cX12_offOnes 21 = .ok (.iconst 3, 1) := by decide +kernel
theorem dX12_offOnes_22 : decode cX12_offOnes 22 = .ok (.iadd, 1) := by decide +kernel
theorem dX12_offOnes_23 : decode cX12_offOnes 23 = .ok (.iaload, 1) := by decide +kernel
theorem dX12_offOnes_24 : decode cX12_offOnes 24 = .ok (.iload_n 2, 1) := by decide +kernel
theorem dX12_offOnes_25 : decode cX12_offOnes 25 = .ok (.ishl, 1) := by decide +kernel
theorem dX12_offOnes_26 : decode cX12_offOnes 26 = .ok (.ior, 1) := by decide +kernel
theorem dX12_offOnes_27 : decode cX12_offOnes 27 = .ok (.istore_n 1, 1) := by decide +kernel
theorem dX12_offOnes_28 : decode cX12_offOnes 28 = .ok (.iinc 2 1, 3) := by decide +kernel
theorem dX12_offOnes_31 : decode cX12_offOnes 31 = .ok (.goto (-27), 3) := by decide +kernel
theorem dX12_offOnes_34 : decode cX12_offOnes 34 = .ok (.iload_n 1, 1) := by decide +kernel
theorem dX12_offOnes_35 : decode cX12_offOnes 35 = .ok (.ireturn, 1) := by decide +kernel
theorem mk_X12_offOnes : MVk yX12_offOnes "FairBlocksModel" cX12_offOnes 3 (Option.some FieldType.int) 0 := ⟨w_1004, w_1003, wp_34, w_13, rfl, by decide +kernel, by decide +kernel, by decide +kernel⟩
def BX12_offOnes_0 (G : Nat → KT) (Q : Option mV → mM → Prop) : KT := (s_iconst (0) (s_istore 1 (s_iconst (0) (s_istore 2 (s_at G 4 [true, true, true])))))
set_option maxRecDepth 4000 in
theorem bsX12_offOnes_0 {p : Program} {l : Launch} {e : Env} {s : State} {m : MethodId} {args : Array Value} {below : List Frame} {meth : Method} {c : Code} {D : va_G} {ca : Nat → ClassId} {ad : Nat → Nat} {A : Nat → Prop} {Q : Option mV → mM → Prop} (hX : CX p s m args meth c 3 cX12_offOnes "FairBlocksModel" D ca ad A) (hr : meth.sig.returnType = (Option.some FieldType.int)) : ∀ lv st M, BX12_offOnes_0 (Gd p l e (rmD 0) s m args below meth c 3 D ca ad A 0 0 (MQ below (QC D ca ad A Q) args s 0 0 A)) Q lv st M → Gd p l e (rmD 0) s m args below meth c 3 D ca ad A 0 0 (MQ below (QC D ca ad A Q) args s 0 0 A) 0 lv st M :=
  (sd_iconst hX dX12_offOnes_0 rfl (sd_istore_n hX (by decide) dX12_offOnes_1 rfl (sd_iconst hX dX12_offOnes_2 rfl (sd_istore_n hX (by decide) dX12_offOnes_3 rfl sd_at))))
def BX12_offOnes_4 (G : Nat → KT) (Q : Option mV → mM → Prop) : KT := (s_iload 2 (s_aload 0 (s_geti 12 6 (s_icmp (fun x y => y ≤ x) (s_at G 34 [false, true, false]) (s_iload 1 (s_aload 0 (s_getr 12 13 (fun _ => 165) (s_iconst (10) (s_iload 2 (s_bin (fun x y => x * y) (s_iconst (3) (s_bin (fun x y => x + y) (s_iald (s_iload 2 (s_bin (fun x y => x <<< (y &&& 31)) (s_bin (fun x y => x ||| y) (s_istore 1 (s_iinc 2 (1) (s_at G 4 [true, true, true])))))))))))))))))))
set_option maxRecDepth 4000 in
theorem bsX12_offOnes_4 {p : Program} {l : Launch} {e : Env} {s : State} {m : MethodId} {args : Array Value} {below : List Frame} {meth : Method} {c : Code} {D : va_G} {ca : Nat → ClassId} {ad : Nat → Nat} {A : Nat → Prop} {Q : Option mV → mM → Prop} (hX : CX p s m args meth c 3 cX12_offOnes "FairBlocksModel" D ca ad A) (hr : meth.sig.returnType = (Option.some FieldType.int)) : ∀ lv st M, BX12_offOnes_4 (Gd p l e (rmD 0) s m args below meth c 3 D ca ad A 0 0 (MQ below (QC D ca ad A Q) args s 0 0 A)) Q lv st M → Gd p l e (rmD 0) s m args below meth c 3 D ca ad A 0 0 (MQ below (QC D ca ad A Q) args s 0 0 A) 4 lv st M :=
  (sd_iload_n hX dX12_offOnes_4 rfl (sd_aload_n hX dX12_offOnes_5 rfl (sd_geti hX fl_729 (by decide) dX12_offOnes_6 (sd_icmp_ge hX dX12_offOnes_9 (by decide) sd_at (sd_iload_n hX dX12_offOnes_12 rfl (sd_aload_n hX dX12_offOnes_13 rfl (sd_getr hX fl_739 (fun _ => rfl) (fun _ _ _ => by decide +kernel) dX12_offOnes_14 (sd_bipush hX dX12_offOnes_17 rfl (sd_iload_n hX dX12_offOnes_19 rfl (sd_imul hX dX12_offOnes_20 (sd_iconst hX dX12_offOnes_21 rfl (sd_iadd hX dX12_offOnes_22 (sd_iald hX dX12_offOnes_23 (sd_iload_n hX dX12_offOnes_24 rfl (sd_ishl hX dX12_offOnes_25 (sd_ior hX dX12_offOnes_26 (sd_istore_n hX (by decide) dX12_offOnes_27 rfl (sd_iinc hX (by decide) dX12_offOnes_28 rfl (sd_goto hX dX12_offOnes_31 (by decide) sd_at)))))))))))))))))))
def BX12_offOnes_34 (G : Nat → KT) (Q : Option mV → mM → Prop) : KT := (s_iload 1 (s_iret Q))
set_option maxRecDepth 4000 in
theorem bsX12_offOnes_34 {p : Program} {l : Launch} {e : Env} {s : State} {m : MethodId} {args : Array Value} {below : List Frame} {meth : Method} {c : Code} {D : va_G} {ca : Nat → ClassId} {ad : Nat → Nat} {A : Nat → Prop} {Q : Option mV → mM → Prop} (hX : CX p s m args meth c 3 cX12_offOnes "FairBlocksModel" D ca ad A) (hr : meth.sig.returnType = (Option.some FieldType.int)) : ∀ lv st M, BX12_offOnes_34 (Gd p l e (rmD 0) s m args below meth c 3 D ca ad A 0 0 (MQ below (QC D ca ad A Q) args s 0 0 A)) Q lv st M → Gd p l e (rmD 0) s m args below meth c 3 D ca ad A 0 0 (MQ below (QC D ca ad A Q) args s 0 0 A) 34 lv st M :=
  (sd_iload_n hX dX12_offOnes_34 rfl (sd_iret hX hr dX12_offOnes_35))
set_option maxHeartbeats 400000 in
theorem pf_X12_offOnes (G : Nat → KT) (Q : Option mV → mM → Prop) (h0 : ∀ lv st M, BX12_offOnes_0 G Q lv st M → G 0 lv st M) (h4 : ∀ lv st M, BX12_offOnes_4 G Q lv st M → G 4 lv st M) (h34 : ∀ lv st M, BX12_offOnes_34 G Q lv st M → G 34 lv st M) (as : List mV) (M : mM) (ho : ∀ v ∈ as, okV v) (hp : pre_X12_offOnes as M) (hQ : Q (fn_X12_offOnes as M).1 (fn_X12_offOnes as M).2) : G 0 (inL as ++ List.replicate (3 - (inL as).length) none) [] M := by
  obtain ⟨c, rfl, hP⟩ := hp
  obtain rfl : c = 158 := k12 (ho (.inr (.inr (12, c))) (by simp))
  obtain ⟨hn, en, -⟩ := nM_e hP
  simp only [fn_X12_offOnes, ofM] at hQ
  have loop : ∀ (n u : Nat) (s : Int32), u + n = nM M → Q (some (.inl (itr (ofS M) u n s))) M → G 4 [some (.inr (.inr (12, 158))), some (.inl s), some (.inl (nI u))] [] M := by
    intro n
    induction n with
    | zero =>
      intro u s hu hq
      (apply h4; simp only [BX12_offOnes_4, s_mth, s_mab, s_at, s_iconst, s_lconst, s_iload, s_lload, s_aload, s_istore, s_lstore, s_astore, s_iinc, s_bin, s_binG, s_un, s_lbin, s_lbinG, s_lsh, s_lcmp, s_i2l, s_l2i, s_dup, s_dup2, s_pop, s_if, s_icmp, s_geti, s_getl, s_getr, s_puti, s_putz, s_putl, s_iald, s_zald, s_iast, s_zast, s_aaldS, s_aaldU, s_gets, s_tald, s_tsw, tsw, s_iret, s_zret, s_lret, s_aret, s_vret, s_callV, s_callS, c1, nl1, keepL, csum, pushR, inL, List.getD_cons_zero, List.getD_cons_succ, List.set_cons_zero, List.set_cons_succ, List.cons_append, List.nil_append, List.append_nil, List.replicate, List.length_cons, List.length_nil, List.take_succ_cons, List.take_zero, List.drop_succ_cons, List.drop_zero, List.reverse_cons, List.reverse_nil, true_and, and_true, forall_const, not_true_eq_false, not_false_eq_true, false_implies, true_implies, implies_true, one0, m10, Nat.reduceAdd, Nat.reduceSub, Nat.reduceLeDiff, Nat.zero_add, Nat.add_zero])
      rw [en]
      refine ⟨fun _ => ?_, fun h => absurd (nI_le (by omega) (by omega)) h⟩
      (apply h34; simp only [BX12_offOnes_34, s_mth, s_mab, s_at, s_iconst, s_lconst, s_iload, s_lload, s_aload, s_istore, s_lstore, s_astore, s_iinc, s_bin, s_binG, s_un, s_lbin, s_lbinG, s_lsh, s_lcmp, s_i2l, s_l2i, s_dup, s_dup2, s_pop, s_if, s_icmp, s_geti, s_getl, s_getr, s_puti, s_putz, s_putl, s_iald, s_zald, s_iast, s_zast, s_aaldS, s_aaldU, s_gets, s_tald, s_tsw, tsw, s_iret, s_zret, s_lret, s_aret, s_vret, s_callV, s_callS, c1, nl1, keepL, csum, pushR, inL, List.getD_cons_zero, List.getD_cons_succ, List.set_cons_zero, List.set_cons_succ, List.cons_append, List.nil_append, List.append_nil, List.replicate, List.length_cons, List.length_nil, List.take_succ_cons, List.take_zero, List.drop_succ_cons, List.drop_zero, List.reverse_cons, List.reverse_nil, true_and, and_true, forall_const, not_true_eq_false, not_false_eq_true, false_implies, true_implies, implies_true, one0, m10, Nat.reduceAdd, Nat.reduceSub, Nat.reduceLeDiff, Nat.zero_add, Nat.add_zero])
      exact hq
    | succ n ih =>
      intro u s hu hq
      have hu5 : u < 5 := by omega
      have x0 : ((10 : Int32) * nI u + 0).toNatClampNeg = 10 * u + 0 := cx hu5 0 (by decide)
      have v0 : vp_in ((10 : Int32) * nI u + 0) 52 := vx hu5 0 (by decide)
      have x1 : ((10 : Int32) * nI u + 1).toNatClampNeg = 10 * u + 1 := cx hu5 1 (by decide)
      have v1 : vp_in ((10 : Int32) * nI u + 1) 52 := vx hu5 1 (by decide)
      have x2 : ((10 : Int32) * nI u + 2).toNatClampNeg = 10 * u + 2 := cx hu5 2 (by decide)
      have v2 : vp_in ((10 : Int32) * nI u + 2) 52 := vx hu5 2 (by decide)
      have x3 : ((10 : Int32) * nI u + 3).toNatClampNeg = 10 * u + 3 := cx hu5 3 (by decide)
      have v3 : vp_in ((10 : Int32) * nI u + 3) 52 := vx hu5 3 (by decide)
      have x4 : ((10 : Int32) * nI u + 4).toNatClampNeg = 10 * u + 4 := cx hu5 4 (by decide)
      have v4 : vp_in ((10 : Int32) * nI u + 4) 52 := vx hu5 4 (by decide)
      have x5 : ((10 : Int32) * nI u + 5).toNatClampNeg = 10 * u + 5 := cx hu5 5 (by decide)
      have v5 : vp_in ((10 : Int32) * nI u + 5) 52 := vx hu5 5 (by decide)
      have x6 : ((10 : Int32) * nI u + 6).toNatClampNeg = 10 * u + 6 := cx hu5 6 (by decide)
      have v6 : vp_in ((10 : Int32) * nI u + 6) 52 := vx hu5 6 (by decide)
      have x7 : ((10 : Int32) * nI u + 7).toNatClampNeg = 10 * u + 7 := cx hu5 7 (by decide)
      have v7 : vp_in ((10 : Int32) * nI u + 7) 52 := vx hu5 7 (by decide)
      have x8 : ((10 : Int32) * nI u + 8).toNatClampNeg = 10 * u + 8 := cx hu5 8 (by decide)
      have v8 : vp_in ((10 : Int32) * nI u + 8) 52 := vx hu5 8 (by decide)
      have x9 : ((10 : Int32) * nI u + 9).toNatClampNeg = 10 * u + 9 := cx hu5 9 (by decide)
      have v9 : vp_in ((10 : Int32) * nI u + 9) 52 := vx hu5 9 (by decide)
      (apply h4; simp only [BX12_offOnes_4, s_mth, s_mab, s_at, s_iconst, s_lconst, s_iload, s_lload, s_aload, s_istore, s_lstore, s_astore, s_iinc, s_bin, s_binG, s_un, s_lbin, s_lbinG, s_lsh, s_lcmp, s_i2l, s_l2i, s_dup, s_dup2, s_pop, s_if, s_icmp, s_geti, s_getl, s_getr, s_puti, s_putz, s_putl, s_iald, s_zald, s_iast, s_zast, s_aaldS, s_aaldU, s_gets, s_tald, s_tsw, tsw, s_iret, s_zret, s_lret, s_aret, s_vret, s_callV, s_callS, c1, nl1, keepL, csum, pushR, inL, List.getD_cons_zero, List.getD_cons_succ, List.set_cons_zero, List.set_cons_succ, List.cons_append, List.nil_append, List.append_nil, List.replicate, List.length_cons, List.length_nil, List.take_succ_cons, List.take_zero, List.drop_succ_cons, List.drop_zero, List.reverse_cons, List.reverse_nil, true_and, and_true, forall_const, not_true_eq_false, not_false_eq_true, false_implies, true_implies, implies_true, one0, m10, Nat.reduceAdd, Nat.reduceSub, Nat.reduceLeDiff, Nat.zero_add, Nat.add_zero])
      rw [en]
      simp only [lM, x3]
      refine ⟨fun h => absurd h (nI_ge (by omega) (by omega)), fun _ => ⟨v3, ?_⟩⟩
      rw [nI_1]
      exact ih (u + 1) _ (by omega) hq
  (apply h0; simp only [BX12_offOnes_0, s_mth, s_mab, s_at, s_iconst, s_lconst, s_iload, s_lload, s_aload, s_istore, s_lstore, s_astore, s_iinc, s_bin, s_binG, s_un, s_lbin, s_lbinG, s_lsh, s_lcmp, s_i2l, s_l2i, s_dup, s_dup2, s_pop, s_if, s_icmp, s_geti, s_getl, s_getr, s_puti, s_putz, s_putl, s_iald, s_zald, s_iast, s_zast, s_aaldS, s_aaldU, s_gets, s_tald, s_tsw, tsw, s_iret, s_zret, s_lret, s_aret, s_vret, s_callV, s_callS, c1, nl1, keepL, csum, pushR, inL, List.getD_cons_zero, List.getD_cons_succ, List.set_cons_zero, List.set_cons_succ, List.cons_append, List.nil_append, List.append_nil, List.replicate, List.length_cons, List.length_nil, List.take_succ_cons, List.take_zero, List.drop_succ_cons, List.drop_zero, List.reverse_cons, List.reverse_nil, true_and, and_true, forall_const, not_true_eq_false, not_false_eq_true, false_implies, true_implies, implies_true, one0, m10, Nat.reduceAdd, Nat.reduceSub, Nat.reduceLeDiff, Nat.zero_add, Nat.add_zero])
  exact loop (nM M) 0 0 (by omega) hQ
theorem ct_X12_offOnes (l : Launch) : Con l yX12_offOnes cX12_offOnes 3 (Option.some FieldType.int) 0 pre_X12_offOnes fn_X12_offOnes := con_of (by decide +kernel) ok_X12_offOnes len_X12_offOnes (fun p e s m args below meth c D ca ad A as M hX hr hp ho => pf_X12_offOnes _ _ (bsX12_offOnes_0 hX hr) (bsX12_offOnes_4 hX hr) (bsX12_offOnes_34 hX hr) as M ho hp ⟨rfl, rfl⟩)
def wgS (M : mM) (u : Nat) (s : Int32) : Int32 := s ||| (if ha M 165 u = 0 then 0 else (1 : Int32) <<< (nI u &&& 31))
def wgM (M : mM) : Int32 := itr (wgS M) 0 (nM M) 0
def pre_X12_waiting (as : List mV) (M : mM) : Prop := ∃ c, as = [.inr (.inr (12, c))] ∧ PM M
def fn_X12_waiting : List mV → mM → Option mV × mM
  | [.inr (.inr (_, c))], M => (some (.inl (wgM M)), M)
  | _, M => (none, M)
theorem ok_X12_waiting (as : List mV) (M : mM) (h : pre_X12_waiting as M) (_ : ∀ v ∈ as, okV v) : okR (fn_X12_waiting as M).1 := by
  obtain ⟨c, rfl, -⟩ := h
  first | trivial | exact (by decide +kernel : kof 14 = 8)
theorem len_X12_waiting (as : List mV) (M : mM) (h : pre_X12_waiting as M) : (inL as).length ≤ 3 := by
  obtain ⟨c, rfl, -⟩ := h
  exact Nat.le_of_ble_eq_true rfl


theorem dX12_waiting_0 : decode cX12_waiting 0 = .ok (.iconst 0, 1) := by decide +kernel
theorem dX12_waiting_1 : decode cX12_waiting 1 = .ok (.istore_n 1, 1) := by decide +kernel
theorem dX12_waiting_2 : decode cX12_waiting 2 = .ok (.iconst 0, 1) := by decide +kernel
theorem dX12_waiting_3 : decode cX12_waiting 3 = .ok (.istore_n 2, 1) := by decide +kernel
theorem dX12_waiting_4 : decode cX12_waiting 4 = .ok (.iload_n 2, 1) := by decide +kernel
theorem dX12_waiting_5 : decode cX12_waiting 5 = .ok (.aload_n 0, 1) := by decide +kernel
theorem dX12_waiting_6 : decode cX12_waiting 6 = .ok (.getfield 14, 3) := by decide +kernel
theorem dX12_waiting_9 : decode cX12_waiting 9 = .ok (.if_icmp .ge 30, 3) := by decide +kernel
theorem dX12_waiting_12 : decode cX12_waiting 12 = .ok (.iload_n 1, 1) := by decide +kernel
theorem dX12_waiting_13 : decode cX12_waiting 13 = .ok (.aload_n 0, 1) := by decide +kernel
theorem dX12_waiting_14 : decode cX12_waiting 14 = .ok (.getfield 11, 3) := by decide +kernel
theorem dX12_waiting_17 : decode cX12_waiting 17 = .ok (.iload_n 2, 1) := by decide +kernel
theorem dX12_waiting_18 : decode cX12_waiting 18 = .ok (.invokestatic 127, 3) := by decide +kernel
theorem dX12_waiting_21 : decode cX12_waiting 21 = .ok (.ifCond .eq 9, 3) := by decide +kernel
theorem dX12_waiting_24 : decode cX12_waiting 24 = .ok (.iconst 1, 1) := by decide +kernel
theorem dX12_waiting_25 : decode cX12_waiting 25 = .ok (.iload_n 2, 1) := by decide +kernel
theorem dX12_waiting_26 : decode cX12_waiting 26 = .ok (.ishl, 1) := by decide +kernel
theorem dX12_waiting_27 : decode cX12_waiting 27 = .ok (.goto 4, 3) := by decide +kernel
theorem dX12_waiting_30 : decode cX12_waiting 30 = .ok (.iconst 0, 1) := by decide +kernel
theorem dX12_waiting_31 : decode cX12_waiting 31 = .ok (.ior, 1) := by decide +kernel
theorem dX12_waiting_32 : decode cX12_waiting 32 = .ok (.istore_n 1, 1) := by decide +kernel
theorem dX12_waiting_33 : decode cX12_waiting 33 = .ok (.iinc 2 1, 3) := by decide +kernel
theorem dX12_waiting_36 : decode cX12_waiting 36 = .ok (.goto (-32), 3) := by decide +kernel
theorem dX12_waiting_39 : decode cX12_waiting 39 = .ok (.iload_n 1, 1) := by decide +kernel
theorem dX12_waiting_40 : decode cX12_waiting 40 = .ok (.ireturn, 1) := by decide +kernel
theorem mk_X12_waiting : MVk yX12_waiting "FairBlocksModel" cX12_waiting 3 (Option.some FieldType.int) 0 := ⟨w_1058, w_1057, wp_36, w_13, rfl, by decide +kernel, by decide +kernel, by decide +kernel⟩
def BX12_waiting_0 (G : Nat → KT) (Q : Option mV → mM → Prop) : KT := (s_iconst (0) (s_istore 1 (s_iconst (0) (s_istore 2 (s_at G 4 [true, true, true])))))
set_option maxRecDepth 4000 in
theorem bsX12_waiting_0 {p : Program} {l : Launch} {e : Env} {s : State} {m : MethodId} {args : Array Value} {below : List Frame} {meth : Method} {c : Code} {D : va_G} {ca : Nat → ClassId} {ad : Nat → Nat} {A : Nat → Prop} {Q : Option mV → mM → Prop} (hX : CX p s m args meth c 3 cX12_waiting "FairBlocksModel" D ca ad A) (hr : meth.sig.returnType = (Option.some FieldType.int)) : ∀ lv st M, BX12_waiting_0 (Gd p l e (rmD 1) s m args below meth c 3 D ca ad A 0 0 (MQ below (QC D ca ad A Q) args s 0 0 A)) Q lv st M → Gd p l e (rmD 1) s m args below meth c 3 D ca ad A 0 0 (MQ below (QC D ca ad A Q) args s 0 0 A) 0 lv st M :=
  (sd_iconst hX dX12_waiting_0 rfl (sd_istore_n hX (by decide) dX12_waiting_1 rfl (sd_iconst hX dX12_waiting_2 rfl (sd_istore_n hX (by decide) dX12_waiting_3 rfl sd_at))))
def BX12_waiting_4 (G : Nat → KT) (Q : Option mV → mM → Prop) : KT := (s_iload 2 (s_aload 0 (s_geti 12 6 (s_icmp (fun x y => y ≤ x) (s_at G 39 [false, true, false]) (s_iload 1 (s_aload 0 (s_getr 12 13 (fun _ => 165) (s_iload 2 (s_callS 2 pre_X12_hasAny fn_X12_hasAny (s_if (fun x => x = 0) (s_at G 30 [true, false, true]) (s_iconst (1) (s_iload 2 (s_bin (fun x y => x <<< (y &&& 31)) (s_at G 31 [true, false, true]))))))))))))))
set_option maxRecDepth 4000 in
theorem bsX12_waiting_4 {p : Program} {l : Launch} {e : Env} {s : State} {m : MethodId} {args : Array Value} {below : List Frame} {meth : Method} {c : Code} {D : va_G} {ca : Nat → ClassId} {ad : Nat → Nat} {A : Nat → Prop} {Q : Option mV → mM → Prop} (hX : CX p s m args meth c 3 cX12_waiting "FairBlocksModel" D ca ad A) (hr : meth.sig.returnType = (Option.some FieldType.int)) : ∀ lv st M, BX12_waiting_4 (Gd p l e (rmD 1) s m args below meth c 3 D ca ad A 0 0 (MQ below (QC D ca ad A Q) args s 0 0 A)) Q lv st M → Gd p l e (rmD 1) s m args below meth c 3 D ca ad A 0 0 (MQ below (QC D ca ad A Q) args s 0 0 A) 4 lv st M :=
  (sd_iload_n hX dX12_waiting_4 rfl (sd_aload_n hX dX12_waiting_5 rfl (sd_geti hX fl_729 (by decide) dX12_waiting_6 (sd_icmp_ge hX dX12_waiting_9 (by decide) sd_at (sd_iload_n hX dX12_waiting_12 rfl (sd_aload_n hX dX12_waiting_13 rfl (sd_getr hX fl_739 (fun _ => rfl) (fun _ _ _ => by decide +kernel) dX12_waiting_14 (sd_iload_n hX dX12_waiting_17 rfl (sd_callS hX (ct_X12_hasAny l) mk_X12_hasAny w_894 ⟨⟨by decide, by decide⟩, by decide, by decide⟩ dX12_waiting_18 (sd_if_eq hX dX12_waiting_21 (by decide) sd_at (sd_iconst hX dX12_waiting_24 rfl (sd_iload_n hX dX12_waiting_25 rfl (sd_ishl hX dX12_waiting_26 (sd_goto hX dX12_waiting_27 (by decide) sd_at))))))))))))))
def BX12_waiting_30 (G : Nat → KT) (Q : Option mV → mM → Prop) : KT := (s_iconst (0) (s_at G 31 [true, false, true]))
set_option maxRecDepth 4000 in
theorem bsX12_waiting_30 {p : Program} {l : Launch} {e : Env} {s : State} {m : MethodId} {args : Array Value} {below : List Frame} {meth : Method} {c : Code} {D : va_G} {ca : Nat → ClassId} {ad : Nat → Nat} {A : Nat → Prop} {Q : Option mV → mM → Prop} (hX : CX p s m args meth c 3 cX12_waiting "FairBlocksModel" D ca ad A) (hr : meth.sig.returnType = (Option.some FieldType.int)) : ∀ lv st M, BX12_waiting_30 (Gd p l e (rmD 1) s m args below meth c 3 D ca ad A 0 0 (MQ below (QC D ca ad A Q) args s 0 0 A)) Q lv st M → Gd p l e (rmD 1) s m args below meth c 3 D ca ad A 0 0 (MQ below (QC D ca ad A Q) args s 0 0 A) 30 lv st M :=
  (sd_iconst hX dX12_waiting_30 rfl sd_at)
def BX12_waiting_31 (G : Nat → KT) (Q : Option mV → mM → Prop) : KT := (s_bin (fun x y => x ||| y) (s_istore 1 (s_iinc 2 (1) (s_at G 4 [true, true, true]))))
set_option maxRecDepth 4000 in
theorem bsX12_waiting_31 {p : Program} {l : Launch} {e : Env} {s : State} {m : MethodId} {args : Array Value} {below : List Frame} {meth : Method} {c : Code} {D : va_G} {ca : Nat → ClassId} {ad : Nat → Nat} {A : Nat → Prop} {Q : Option mV → mM → Prop} (hX : CX p s m args meth c 3 cX12_waiting "FairBlocksModel" D ca ad A) (hr : meth.sig.returnType = (Option.some FieldType.int)) : ∀ lv st M, BX12_waiting_31 (Gd p l e (rmD 1) s m args below meth c 3 D ca ad A 0 0 (MQ below (QC D ca ad A Q) args s 0 0 A)) Q lv st M → Gd p l e (rmD 1) s m args below meth c 3 D ca ad A 0 0 (MQ below (QC D ca ad A Q) args s 0 0 A) 31 lv st M :=
  (sd_ior hX dX12_waiting_31 (sd_istore_n hX (by decide) dX12_waiting_32 rfl (sd_iinc hX (by decide) dX12_waiting_33 rfl (sd_goto hX dX12_waiting_36 (by decide) sd_at))))
def BX12_waiting_39 (G : Nat → KT) (Q : Option mV → mM → Prop) : KT := (s_iload 1 (s_iret Q))
set_option maxRecDepth 4000 in
theorem bsX12_waiting_39 {p : Program} {l : Launch} {e : Env} {s : State} {m : MethodId} {args : Array Value} {below : List Frame} {meth : Method} {c : Code} {D : va_G} {ca : Nat → ClassId} {ad : Nat → Nat} {A : Nat → Prop} {Q : Option mV → mM → Prop} (hX : CX p s m args meth c 3 cX12_waiting "FairBlocksModel" D ca ad A) (hr : meth.sig.returnType = (Option.some FieldType.int)) : ∀ lv st M, BX12_waiting_39 (Gd p l e (rmD 1) s m args below meth c 3 D ca ad A 0 0 (MQ below (QC D ca ad A Q) args s 0 0 A)) Q lv st M → Gd p l e (rmD 1) s m args below meth c 3 D ca ad A 0 0 (MQ below (QC D ca ad A Q) args s 0 0 A) 39 lv st M :=
  (sd_iload_n hX dX12_waiting_39 rfl (sd_iret hX hr dX12_waiting_40))
set_option maxHeartbeats 400000 in
theorem pf_X12_waiting (G : Nat → KT) (Q : Option mV → mM → Prop) (h0 : ∀ lv st M, BX12_waiting_0 G Q lv st M → G 0 lv st M) (h4 : ∀ lv st M, BX12_waiting_4 G Q lv st M → G 4 lv st M) (h30 : ∀ lv st M, BX12_waiting_30 G Q lv st M → G 30 lv st M) (h31 : ∀ lv st M, BX12_waiting_31 G Q lv st M → G 31 lv st M) (h39 : ∀ lv st M, BX12_waiting_39 G Q lv st M → G 39 lv st M) (as : List mV) (M : mM) (ho : ∀ v ∈ as, okV v) (hp : pre_X12_waiting as M) (hQ : Q (fn_X12_waiting as M).1 (fn_X12_waiting as M).2) : G 0 (inL as ++ List.replicate (3 - (inL as).length) none) [] M := by
  obtain ⟨c, rfl, hP⟩ := hp
  obtain rfl : c = 158 := k12 (ho (.inr (.inr (12, c))) (by simp))
  obtain ⟨hn, en, -⟩ := nM_e hP
  simp only [fn_X12_waiting, wgM] at hQ
  have loop : ∀ (n u : Nat) (s : Int32), u + n = nM M → Q (some (.inl (itr (wgS M) u n s))) M → G 4 [some (.inr (.inr (12, 158))), some (.inl s), some (.inl (nI u))] [] M := by
    intro n
    induction n with
    | zero =>
      intro u s hu hq
      (apply h4; simp only [BX12_waiting_4, s_mth, s_mab, s_at, s_iconst, s_lconst, s_iload, s_lload, s_aload, s_istore, s_lstore, s_astore, s_iinc, s_bin, s_binG, s_un, s_lbin, s_lbinG, s_lsh, s_lcmp, s_i2l, s_l2i, s_dup, s_dup2, s_pop, s_if, s_icmp, s_geti, s_getl, s_getr, s_puti, s_putz, s_putl, s_iald, s_zald, s_iast, s_zast, s_aaldS, s_aaldU, s_gets, s_tald, s_tsw, tsw, s_iret, s_zret, s_lret, s_aret, s_vret, s_callV, s_callS, c1, nl1, keepL, csum, pushR, inL, List.getD_cons_zero, List.getD_cons_succ, List.set_cons_zero, List.set_cons_succ, List.cons_append, List.nil_append, List.append_nil, List.replicate, List.length_cons, List.length_nil, List.take_succ_cons, List.take_zero, List.drop_succ_cons, List.drop_zero, List.reverse_cons, List.reverse_nil, true_and, and_true, forall_const, not_true_eq_false, not_false_eq_true, false_implies, true_implies, implies_true, one0, m10, Nat.reduceAdd, Nat.reduceSub, Nat.reduceLeDiff, Nat.zero_add, Nat.add_zero, fn_X12_hasAny])
      rw [en]
      refine ⟨fun _ => ?_, fun h => absurd (nI_le (by omega) (by omega)) h⟩
      (apply h39; simp only [BX12_waiting_39, s_mth, s_mab, s_at, s_iconst, s_lconst, s_iload, s_lload, s_aload, s_istore, s_lstore, s_astore, s_iinc, s_bin, s_binG, s_un, s_lbin, s_lbinG, s_lsh, s_lcmp, s_i2l, s_l2i, s_dup, s_dup2, s_pop, s_if, s_icmp, s_geti, s_getl, s_getr, s_puti, s_putz, s_putl, s_iald, s_zald, s_iast, s_zast, s_aaldS, s_aaldU, s_gets, s_tald, s_tsw, tsw, s_iret, s_zret, s_lret, s_aret, s_vret, s_callV, s_callS, c1, nl1, keepL, csum, pushR, inL, List.getD_cons_zero, List.getD_cons_succ, List.set_cons_zero, List.set_cons_succ, List.cons_append, List.nil_append, List.append_nil, List.replicate, List.length_cons, List.length_nil, List.take_succ_cons, List.take_zero, List.drop_succ_cons, List.drop_zero, List.reverse_cons, List.reverse_nil, true_and, and_true, forall_const, not_true_eq_false, not_false_eq_true, false_implies, true_implies, implies_true, one0, m10, Nat.reduceAdd, Nat.reduceSub, Nat.reduceLeDiff, Nat.zero_add, Nat.add_zero, fn_X12_hasAny])
      exact hq
    | succ n ih =>
      intro u s hu hq
      have hu5 : u < 5 := by omega
      have eu : (nI u).toNatClampNeg = u := nI_clamp (by omega)
      have hq2 : Q (some (.inl (itr (wgS M) (u + 1) n (wgS M u s)))) M := hq
      unfold wgS at hq2
      have L31 : ∀ b, b = (if ha M 165 u = 0 then 0 else (1 : Int32) <<< (nI u &&& 31)) → G 31 [some (.inr (.inr (12, 158))), none, some (.inl (nI u))] [.inl b, .inl s] M := by
        intro b eb
        rw [← eb] at hq2
        (apply h31; simp only [BX12_waiting_31, s_mth, s_mab, s_at, s_iconst, s_lconst, s_iload, s_lload, s_aload, s_istore, s_lstore, s_astore, s_iinc, s_bin, s_binG, s_un, s_lbin, s_lbinG, s_lsh, s_lcmp, s_i2l, s_l2i, s_dup, s_dup2, s_pop, s_if, s_icmp, s_geti, s_getl, s_getr, s_puti, s_putz, s_putl, s_iald, s_zald, s_iast, s_zast, s_aaldS, s_aaldU, s_gets, s_tald, s_tsw, tsw, s_iret, s_zret, s_lret, s_aret, s_vret, s_callV, s_callS, c1, nl1, keepL, csum, pushR, inL, List.getD_cons_zero, List.getD_cons_succ, List.set_cons_zero, List.set_cons_succ, List.cons_append, List.nil_append, List.append_nil, List.replicate, List.length_cons, List.length_nil, List.take_succ_cons, List.take_zero, List.drop_succ_cons, List.drop_zero, List.reverse_cons, List.reverse_nil, true_and, and_true, forall_const, not_true_eq_false, not_false_eq_true, false_implies, true_implies, implies_true, one0, m10, Nat.reduceAdd, Nat.reduceSub, Nat.reduceLeDiff, Nat.zero_add, Nat.add_zero, fn_X12_hasAny])
        rw [nI_1]
        exact ih (u + 1) _ (by omega) hq2
      (apply h4; simp only [BX12_waiting_4, s_mth, s_mab, s_at, s_iconst, s_lconst, s_iload, s_lload, s_aload, s_istore, s_lstore, s_astore, s_iinc, s_bin, s_binG, s_un, s_lbin, s_lbinG, s_lsh, s_lcmp, s_i2l, s_l2i, s_dup, s_dup2, s_pop, s_if, s_icmp, s_geti, s_getl, s_getr, s_puti, s_putz, s_putl, s_iald, s_zald, s_iast, s_zast, s_aaldS, s_aaldU, s_gets, s_tald, s_tsw, tsw, s_iret, s_zret, s_lret, s_aret, s_vret, s_callV, s_callS, c1, nl1, keepL, csum, pushR, inL, List.getD_cons_zero, List.getD_cons_succ, List.set_cons_zero, List.set_cons_succ, List.cons_append, List.nil_append, List.append_nil, List.replicate, List.length_cons, List.length_nil, List.take_succ_cons, List.take_zero, List.drop_succ_cons, List.drop_zero, List.reverse_cons, List.reverse_nil, true_and, and_true, forall_const, not_true_eq_false, not_false_eq_true, false_implies, true_implies, implies_true, one0, m10, Nat.reduceAdd, Nat.reduceSub, Nat.reduceLeDiff, Nat.zero_add, Nat.add_zero, fn_X12_hasAny])
      rw [en]
      simp only [eu]
      refine ⟨fun h => absurd h (nI_ge (by omega) (by omega)), fun _ => ⟨⟨_, _, rfl, by simp only [lM], u, hu5, rfl⟩, fun g => ?_, fun g => ?_⟩⟩
      · (apply h30; simp only [BX12_waiting_30, s_mth, s_mab, s_at, s_iconst, s_lconst, s_iload, s_lload, s_aload, s_istore, s_lstore, s_astore, s_iinc, s_bin, s_binG, s_un, s_lbin, s_lbinG, s_lsh, s_lcmp, s_i2l, s_l2i, s_dup, s_dup2, s_pop, s_if, s_icmp, s_geti, s_getl, s_getr, s_puti, s_putz, s_putl, s_iald, s_zald, s_iast, s_zast, s_aaldS, s_aaldU, s_gets, s_tald, s_tsw, tsw, s_iret, s_zret, s_lret, s_aret, s_vret, s_callV, s_callS, c1, nl1, keepL, csum, pushR, inL, List.getD_cons_zero, List.getD_cons_succ, List.set_cons_zero, List.set_cons_succ, List.cons_append, List.nil_append, List.append_nil, List.replicate, List.length_cons, List.length_nil, List.take_succ_cons, List.take_zero, List.drop_succ_cons, List.drop_zero, List.reverse_cons, List.reverse_nil, true_and, and_true, forall_const, not_true_eq_false, not_false_eq_true, false_implies, true_implies, implies_true, one0, m10, Nat.reduceAdd, Nat.reduceSub, Nat.reduceLeDiff, Nat.zero_add, Nat.add_zero, fn_X12_hasAny])
        exact L31 0 (by rw [if_pos g])
      · exact L31 _ (by rw [if_neg g])
  (apply h0; simp only [BX12_waiting_0, s_mth, s_mab, s_at, s_iconst, s_lconst, s_iload, s_lload, s_aload, s_istore, s_lstore, s_astore, s_iinc, s_bin, s_binG, s_un, s_lbin, s_lbinG, s_lsh, s_lcmp, s_i2l, s_l2i, s_dup, s_dup2, s_pop, s_if, s_icmp, s_geti, s_getl, s_getr, s_puti, s_putz, s_putl, s_iald, s_zald, s_iast, s_zast, s_aaldS, s_aaldU, s_gets, s_tald, s_tsw, tsw, s_iret, s_zret, s_lret, s_aret, s_vret, s_callV, s_callS, c1, nl1, keepL, csum, pushR, inL, List.getD_cons_zero, List.getD_cons_succ, List.set_cons_zero, List.set_cons_succ, List.cons_append, List.nil_append, List.append_nil, List.replicate, List.length_cons, List.length_nil, List.take_succ_cons, List.take_zero, List.drop_succ_cons, List.drop_zero, List.reverse_cons, List.reverse_nil, true_and, and_true, forall_const, not_true_eq_false, not_false_eq_true, false_implies, true_implies, implies_true, one0, m10, Nat.reduceAdd, Nat.reduceSub, Nat.reduceLeDiff, Nat.zero_add, Nat.add_zero, fn_X12_hasAny])
  exact loop (nM M) 0 0 (by omega) hQ
theorem ct_X12_waiting (l : Launch) : Con l yX12_waiting cX12_waiting 3 (Option.some FieldType.int) 1 pre_X12_waiting fn_X12_waiting := con_of (by decide +kernel) ok_X12_waiting len_X12_waiting (fun p e s m args below meth c D ca ad A as M hX hr hp ho => pf_X12_waiting _ _ (bsX12_waiting_0 hX hr) (bsX12_waiting_4 hX hr) (bsX12_waiting_30 hX hr) (bsX12_waiting_31 hX hr) (bsX12_waiting_39 hX hr) as M ho hp ⟨rfl, rfl⟩)
def pre_X12_seed (as : List mV) (M : mM) : Prop := ∃ c v, as = [.inr (.inr (12, c)), .inr (.inl v)]
def fn_X12_seed : List mV → mM → Option mV × mM
  | [.inr (.inr (_, c)), .inr (.inl v)], M => (some (.inr (.inl ((m0 M).2 158))), lset (m0 M) 158 v)
  | _, M => (none, M)
theorem ok_X12_seed (as : List mV) (M : mM) (h : pre_X12_seed as M) (_ : ∀ v ∈ as, okV v) : okR (fn_X12_seed as M).1 := by
  obtain ⟨c, v, rfl⟩ := h
  first | trivial | exact (by decide +kernel : kof 14 = 8)
theorem len_X12_seed (as : List mV) (M : mM) (h : pre_X12_seed as M) : (inL as).length ≤ 5 := by
  obtain ⟨c, v, rfl⟩ := h
  exact Nat.le_of_ble_eq_true rfl

theorem fl_752 : FLk "FairBlocksModel" 231 12 29 2 := ⟨RX12, TX12, 32, rfl, inX12, by decide, w_752, by decide, rfl⟩
theorem fp_752 : FPk "FairBlocksModel" 231 12 29 2 .long := ⟨RX12, TX12, 32, tyX12, rfl, inX12, by decide, w_752, by decide, rfl, tyX12_ok, nmX12, rfl, rfl⟩
theorem dX12_seed_0 : decode cX12_seed 0 = .ok (.aload_n 0, 1) := by decide +kernel
theorem dX12_seed_1 : decode cX12_seed 1 = .ok (.iconst 0, 1) := by decide +kernel
theorem dX12_seed_2 : decode cX12_seed 2 = .ok (.putfield 1, 3) := by decide +kernel
theorem dX12_seed_5 : decode cX12_seed 5 = .ok (.aload_n 0, 1) := by decide +kernel
theorem dX12_seed_6 : decode cX12_seed 6 = .ok (.getfield 231, 3) := by decide +kernel
theorem dX12_seed_9 : decode cX12_seed 9 = .ok (.lstore_n 3, 1) := by decide +kernel
theorem dX12_seed_10 : decode cX12_seed 10 = .ok (.aload_n 0, 1) := by decide +kernel
theorem dX12_seed_11 : decode cX12_seed 11 = .ok (.lload_n 1, 1) := by decide +kernel
theorem dX12_seed_12 : decode cX12_seed 12 = .ok (.putfield 231, 3) := by decide +kernel
theorem dX12_seed_15 : decode cX12_seed 15 = .ok (.lload_n 3, 1) := by decide +kernel
theorem dX12_seed_16 : decode cX12_seed 16 = .ok (.lreturn, 1) := by decide +kernel
theorem mk_X12_seed : MVk yX12_seed "FairBlocksModel" cX12_seed 5 (Option.some FieldType.long) 1 := ⟨w_1035, w_1033, w_1034, w_13, rfl, by decide +kernel, by decide +kernel, by decide +kernel⟩
def BX12_seed_0 (G : Nat → KT) (Q : Option mV → mM → Prop) : KT := (s_aload 0 (s_iconst (0) (s_puti 12 0 (s_aload 0 (s_getl 12 (s_lstore 3 (s_aload 0 (s_lload 1 (s_putl 12 (s_lload 3 (s_lret Q)))))))))))
set_option maxRecDepth 4000 in
theorem bsX12_seed_0 {p : Program} {l : Launch} {e : Env} {s : State} {m : MethodId} {args : Array Value} {below : List Frame} {meth : Method} {c : Code} {D : va_G} {ca : Nat → ClassId} {ad : Nat → Nat} {A : Nat → Prop} {Q : Option mV → mM → Prop} (hX : CX p s m args meth c 5 cX12_seed "FairBlocksModel" D ca ad A) (hr : meth.sig.returnType = (Option.some FieldType.long)) : ∀ lv st M, BX12_seed_0 (Gd p l e (rmD 0) s m args below meth c 5 D ca ad A 0 0 (MQ below (QC D ca ad A Q) args s 0 0 A)) Q lv st M → Gd p l e (rmD 0) s m args below meth c 5 D ca ad A 0 0 (MQ below (QC D ca ad A Q) args s 0 0 A) 0 lv st M :=
  (sd_aload_n hX dX12_seed_0 rfl (sd_iconst hX dX12_seed_1 rfl (sd_puti hX fp_723 dX12_seed_2 (sd_aload_n hX dX12_seed_5 rfl (sd_getl hX fl_752 dX12_seed_6 (sd_lstore_n hX (by decide) dX12_seed_9 rfl (sd_aload_n hX dX12_seed_10 rfl (sd_lload_n hX dX12_seed_11 rfl (sd_putl hX fp_752 l1_12 dX12_seed_12 (sd_lload_n hX dX12_seed_15 rfl (sd_lret hX hr dX12_seed_16)))))))))))
set_option maxHeartbeats 400000 in
theorem pf_X12_seed (G : Nat → KT) (Q : Option mV → mM → Prop) (h0 : ∀ lv st M, BX12_seed_0 G Q lv st M → G 0 lv st M) (as : List mV) (M : mM) (ho : ∀ v ∈ as, okV v) (hp : pre_X12_seed as M) (hQ : Q (fn_X12_seed as M).1 (fn_X12_seed as M).2) : G 0 (inL as ++ List.replicate (5 - (inL as).length) none) [] M := by
  obtain ⟨c, v, rfl⟩ := hp
  obtain rfl : c = 158 := k12 (ho (.inr (.inr (12, c))) (by simp))
  simp only [fn_X12_seed] at hQ
  (apply h0; simp only [BX12_seed_0, s_mth, s_mab, s_at, s_iconst, s_lconst, s_iload, s_lload, s_aload, s_istore, s_lstore, s_astore, s_iinc, s_bin, s_binG, s_un, s_lbin, s_lbinG, s_lsh, s_lcmp, s_i2l, s_l2i, s_dup, s_dup2, s_pop, s_if, s_icmp, s_geti, s_getl, s_getr, s_puti, s_putz, s_putl, s_iald, s_zald, s_iast, s_zast, s_aaldS, s_aaldU, s_gets, s_tald, s_tsw, tsw, s_iret, s_zret, s_lret, s_aret, s_vret, s_callV, s_callS, c1, nl1, keepL, csum, pushR, inL, List.getD_cons_zero, List.getD_cons_succ, List.set_cons_zero, List.set_cons_succ, List.cons_append, List.nil_append, List.append_nil, List.replicate, List.length_cons, List.length_nil, List.take_succ_cons, List.take_zero, List.drop_succ_cons, List.drop_zero, List.reverse_cons, List.reverse_nil, true_and, and_true, forall_const, not_true_eq_false, not_false_eq_true, false_implies, true_implies, implies_true, one0, m10, Nat.reduceAdd, Nat.reduceSub, Nat.reduceLeDiff, Nat.zero_add, Nat.add_zero])
  exact hQ
theorem ct_X12_seed (l : Launch) : Con l yX12_seed cX12_seed 5 (Option.some FieldType.long) 0 pre_X12_seed fn_X12_seed := con_of (by decide +kernel) ok_X12_seed len_X12_seed (fun p e s m args below meth c D ca ad A as M hX hr hp ho => pf_X12_seed _ _ (bsX12_seed_0 hX hr) as M ho hp ⟨rfl, rfl⟩)
def kpM (M : mM) (s : Nat) : mM := rset (mset M 170 s 1) 169 (cpyR (M.1 169) (M.1 165) (52 * s) 52 0)
def m_keep (M : mM) (s : Int32) : Int32 × mM := if wi s 0 1 = 0 then (-1, M) else (M.1 165 51, kpM M s.toNatClampNeg)
def pre_X12_keep (as : List mV) (M : mM) : Prop := ∃ c s, as = [.inr (.inr (12, c)), .inl s]
def fn_X12_keep : List mV → mM → Option mV × mM
  | [.inr (.inr (_, c)), .inl s], M => (some (.inl (m_keep (m0 M) s).1), (m_keep (m0 M) s).2)
  | _, M => (none, M)
theorem ok_X12_keep (as : List mV) (M : mM) (h : pre_X12_keep as M) (_ : ∀ v ∈ as, okV v) : okR (fn_X12_keep as M).1 := by
  obtain ⟨c, s, rfl⟩ := h
  first | trivial | exact (by decide +kernel : kof 14 = 8)
theorem len_X12_keep (as : List mV) (M : mM) (h : pre_X12_keep as M) : (inL as).length ≤ 3 := by
  obtain ⟨c, s, rfl⟩ := h
  exact Nat.le_of_ble_eq_true rfl

theorem fl_744 : FLk "FairBlocksModel" 57 12 21 16 := ⟨RX12, TX12, 32, rfl, inX12, by decide, w_744, by decide, rfl⟩
theorem fl_745 : FLk "FairBlocksModel" 60 12 22 17 := ⟨RX12, TX12, 32, rfl, inX12, by decide, w_745, by decide, rfl⟩
theorem dX12_keep_0 : decode cX12_keep 0 = .ok (.aload_n 0, 1) := by decide +kernel
theorem dX12_keep_1 : decode cX12_keep 1 = .ok (.iconst 0, 1) := by decide +kernel
theorem dX12_keep_2 : decode cX12_keep 2 = .ok (.putfield 1, 3) := by decide +kernel
theorem dX12_keep_5 : decode cX12_keep 5 = .ok (.iload_n 1, 1) := by decide +kernel
theorem dX12_keep_6 : decode cX12_keep 6 = .ok (.i2l, 1) := by decide +kernel
theorem dX12_keep_7 : decode cX12_keep 7 = .ok (.lconst 0, 1) := by decide +kernel
theorem dX12_keep_8 : decode cX12_keep 8 = .ok (.lconst 1, 1) := by decide +kernel
theorem dX12_keep_9 : decode cX12_keep 9 = .ok (.invokestatic 17, 3) := by decide +kernel
theorem dX12_keep_12 : decode cX12_keep 12 = .ok (.ifCond .ne 5, 3) := by decide +kernel
theorem dX12_keep_15 : decode cX12_keep 15 = .ok (.iconst (-1), 1) := by decide +kernel
theorem dX12_keep_16 : decode cX12_keep 16 = .ok (.ireturn, 1) := by decide +kernel
theorem dX12_keep_17 : decode cX12_keep 17 = .ok (.aload_n 0, 1) := by decide +kernel
theorem dX12_keep_18 : decode cX12_keep 18 = .ok (.getfield 60, 3) := by decide +kernel
theorem dX12_keep_21 : decode cX12_keep 21 = .ok (.iload_n 1, 1) := by decide +kernel
theorem dX12_keep_22 : decode cX12_keep 22 = .ok (.iconst 1, 1) := by decide +kernel
theorem dX12_keep_23 : decode cX12_keep 23 = .ok (.bastore, 1) := by decide +kernel
theorem dX12_keep_24 : decode cX12_keep 24 = .ok (.iconst 0, 1) := by decide +kernel
theorem dX12_keep_25 : decode cX12_keep 25 = .ok (.istore_n 2, 1) := by decide +kernel
theorem dX12_keep_26 : decode cX12_keep 26 = .ok (.iload_n 2, 1) := by decide +kernel
theorem dX12_keep_27 : decode cX12_keep 27 = .ok (.bipush 52, 2) := by decide +kernel
theorem dX12_keep_29 : decode cX12_keep 29 = .ok (.if_icmp .ge 26, 3) := by decide +kernel
theorem dX12_keep_32 : decode cX12_keep 32 = .ok (.aload_n 0, 1) := by decide +kernel
theorem dX12_keep_33 : decode cX12_keep 33 = .ok (.getfield 57, 3) := by decide +kernel
theorem dX12_keep_36 : decode cX12_keep 36 = .ok (.bipush 52, 2) := by decide +kernel
theorem dX12_keep_38 : decode cX12_keep 38 = .ok (.iload_n 1, 1) := by decide +kernel
theorem dX12_keep_39 : decode cX12_keep 39 = .ok (.imul, 1) := by decide +kernel
theorem dX12_keep_40 : decode cX12_keep 40 = .ok (.iload_n 2, 1) := by decide +kernel
theorem dX12_keep_41 : decode cX12_keep 41 = .ok (.iadd, 1) := by decide +kernel
theorem dX12_keep_42 : decode cX12_keep 42 = .ok (.aload_n 0, 1) := by decide +kernel
theorem dX12_keep_43 : decode cX12_keep 43 = .ok (.getfield 11, 3) := by decide +kernel
theorem dX12_keep_46 : decode cX12_keep 46 = .ok (.iload_n 2, 1) := by decide +kernel
theorem dX12_keep_47 : decode cX12_keep 47 = .ok (.iaload, 1) := by decide +kernel
theorem dX12_keep_48 : decode cX12_keep 48 = .ok (.iastore, 1) := by decide +kernel
theorem dX12_keep_49 : decode cX12_keep 49 = .ok (.iinc 2 1, 3) := by decide +kernel
theorem dX12_keep_52 : decode cX12_keep 52 = .ok (.goto (-26), 3) := by decide +kernel
theorem dX12_keep_55 : decode cX12_keep 55 = .ok (.aload_n 0, 1) := by decide +kernel
theorem dX12_keep_56 : decode cX12_keep 56 = .ok (.getfield 11, 3) := by decide +kernel
theorem dX12_keep_59 : decode cX12_keep 59 = .ok (.bipush 51, 2) := by decide +kernel
theorem dX12_keep_61 : decode cX12_keep 61 = .ok (.iaload, 1) := by decide +kernel
theorem dX12_keep_62 : decode cX12_keep 62 = .ok (.ireturn, 1) := by decide +kernel
theorem mk_X12_keep : MVk yX12_keep "FairBlocksModel" cX12_keep 3 (Option.some FieldType.int) 1 := ⟨w_1046, w_1044, w_1045, w_13, rfl, by decide +kernel, by decide +kernel, by decide +kernel⟩
def BX12_keep_0 (G : Nat → KT) (Q : Option mV → mM → Prop) : KT := (s_aload 0 (s_iconst (0) (s_puti 12 0 (s_iload 1 (s_i2l (s_lconst 0 (s_lconst 1 (s_callS 3 pre_X12_in fn_X12_in (s_if (fun x => x = 0) ((s_iconst (-1) (s_iret Q))) (s_at G 17 [true, true, false]))))))))))
set_option maxRecDepth 4000 in
theorem bsX12_keep_0 {p : Program} {l : Launch} {e : Env} {s : State} {m : MethodId} {args : Array Value} {below : List Frame} {meth : Method} {c : Code} {D : va_G} {ca : Nat → ClassId} {ad : Nat → Nat} {A : Nat → Prop} {Q : Option mV → mM → Prop} (hX : CX p s m args meth c 3 cX12_keep "FairBlocksModel" D ca ad A) (hr : meth.sig.returnType = (Option.some FieldType.int)) : ∀ lv st M, BX12_keep_0 (Gd p l e (rmD 1) s m args below meth c 3 D ca ad A 0 0 (MQ below (QC D ca ad A Q) args s 0 0 A)) Q lv st M → Gd p l e (rmD 1) s m args below meth c 3 D ca ad A 0 0 (MQ below (QC D ca ad A Q) args s 0 0 A) 0 lv st M :=
  (sd_aload_n hX dX12_keep_0 rfl (sd_iconst hX dX12_keep_1 rfl (sd_puti hX fp_723 dX12_keep_2 (sd_iload_n hX dX12_keep_5 rfl (sd_i2l hX dX12_keep_6 (sd_lconst hX dX12_keep_7 rfl (sd_lconst hX dX12_keep_8 rfl (sd_callS hX (ct_X12_in l) mk_X12_in w_825 ⟨⟨by decide, by decide⟩, by decide, by decide⟩ dX12_keep_9 (sd_if_ne hX dX12_keep_12 (by decide) sd_at (sd_iconst hX dX12_keep_15 rfl (sd_iret hX hr dX12_keep_16)))))))))))
def BX12_keep_17 (G : Nat → KT) (Q : Option mV → mM → Prop) : KT := (s_aload 0 (s_getr 12 14 (fun _ => 170) (s_iload 1 (s_iconst (1) (s_zast (s_iconst (0) (s_istore 2 (s_at G 26 [true, true, true]))))))))
set_option maxRecDepth 4000 in
theorem bsX12_keep_17 {p : Program} {l : Launch} {e : Env} {s : State} {m : MethodId} {args : Array Value} {below : List Frame} {meth : Method} {c : Code} {D : va_G} {ca : Nat → ClassId} {ad : Nat → Nat} {A : Nat → Prop} {Q : Option mV → mM → Prop} (hX : CX p s m args meth c 3 cX12_keep "FairBlocksModel" D ca ad A) (hr : meth.sig.returnType = (Option.some FieldType.int)) : ∀ lv st M, BX12_keep_17 (Gd p l e (rmD 1) s m args below meth c 3 D ca ad A 0 0 (MQ below (QC D ca ad A Q) args s 0 0 A)) Q lv st M → Gd p l e (rmD 1) s m args below meth c 3 D ca ad A 0 0 (MQ below (QC D ca ad A Q) args s 0 0 A) 17 lv st M :=
  (sd_aload_n hX dX12_keep_17 rfl (sd_getr hX fl_745 (fun _ => rfl) (fun _ _ _ => by decide +kernel) dX12_keep_18 (sd_iload_n hX dX12_keep_21 rfl (sd_iconst hX dX12_keep_22 rfl (sd_zast hX dX12_keep_23 (sd_iconst hX dX12_keep_24 rfl (sd_istore_n hX (by decide) dX12_keep_25 rfl sd_at)))))))
def BX12_keep_26 (G : Nat → KT) (Q : Option mV → mM → Prop) : KT := (s_iload 2 (s_iconst (52) (s_icmp (fun x y => y ≤ x) (s_at G 55 [true, false, false]) (s_aload 0 (s_getr 12 13 (fun _ => 169) (s_iconst (52) (s_iload 1 (s_bin (fun x y => x * y) (s_iload 2 (s_bin (fun x y => x + y) (s_aload 0 (s_getr 12 13 (fun _ => 165) (s_iload 2 (s_iald (s_iast (s_iinc 2 (1) (s_at G 26 [true, true, true])))))))))))))))))
set_option maxRecDepth 4000 in
theorem bsX12_keep_26 {p : Program} {l : Launch} {e : Env} {s : State} {m : MethodId} {args : Array Value} {below : List Frame} {meth : Method} {c : Code} {D : va_G} {ca : Nat → ClassId} {ad : Nat → Nat} {A : Nat → Prop} {Q : Option mV → mM → Prop} (hX : CX p s m args meth c 3 cX12_keep "FairBlocksModel" D ca ad A) (hr : meth.sig.returnType = (Option.some FieldType.int)) : ∀ lv st M, BX12_keep_26 (Gd p l e (rmD 1) s m args below meth c 3 D ca ad A 0 0 (MQ below (QC D ca ad A Q) args s 0 0 A)) Q lv st M → Gd p l e (rmD 1) s m args below meth c 3 D ca ad A 0 0 (MQ below (QC D ca ad A Q) args s 0 0 A) 26 lv st M :=
  (sd_iload_n hX dX12_keep_26 rfl (sd_bipush hX dX12_keep_27 rfl (sd_icmp_ge hX dX12_keep_29 (by decide) sd_at (sd_aload_n hX dX12_keep_32 rfl (sd_getr hX fl_744 (fun _ => rfl) (fun _ _ _ => by decide +kernel) dX12_keep_33 (sd_bipush hX dX12_keep_36 rfl (sd_iload_n hX dX12_keep_38 rfl (sd_imul hX dX12_keep_39 (sd_iload_n hX dX12_keep_40 rfl (sd_iadd hX dX12_keep_41 (sd_aload_n hX dX12_keep_42 rfl (sd_getr hX fl_739 (fun _ => rfl) (fun _ _ _ => by decide +kernel) dX12_keep_43 (sd_iload_n hX dX12_keep_46 rfl (sd_iald hX dX12_keep_47 (sd_iast hX dX12_keep_48 (sd_iinc hX (by decide) dX12_keep_49 rfl (sd_goto hX dX12_keep_52 (by decide) sd_at)))))))))))))))))
def BX12_keep_55 (G : Nat → KT) (Q : Option mV → mM → Prop) : KT := (s_aload 0 (s_getr 12 13 (fun _ => 165) (s_iconst (51) (s_iald (s_iret Q)))))
set_option maxRecDepth 4000 in
theorem bsX12_keep_55 {p : Program} {l : Launch} {e : Env} {s : State} {m : MethodId} {args : Array Value} {below : List Frame} {meth : Method} {c : Code} {D : va_G} {ca : Nat → ClassId} {ad : Nat → Nat} {A : Nat → Prop} {Q : Option mV → mM → Prop} (hX : CX p s m args meth c 3 cX12_keep "FairBlocksModel" D ca ad A) (hr : meth.sig.returnType = (Option.some FieldType.int)) : ∀ lv st M, BX12_keep_55 (Gd p l e (rmD 1) s m args below meth c 3 D ca ad A 0 0 (MQ below (QC D ca ad A Q) args s 0 0 A)) Q lv st M → Gd p l e (rmD 1) s m args below meth c 3 D ca ad A 0 0 (MQ below (QC D ca ad A Q) args s 0 0 A) 55 lv st M :=
  (sd_aload_n hX dX12_keep_55 rfl (sd_getr hX fl_739 (fun _ => rfl) (fun _ _ _ => by decide +kernel) dX12_keep_56 (sd_bipush hX dX12_keep_59 rfl (sd_iald hX dX12_keep_61 (sd_iret hX hr dX12_keep_62)))))
set_option maxHeartbeats 400000 in
theorem pf_X12_keep (G : Nat → KT) (Q : Option mV → mM → Prop) (h0 : ∀ lv st M, BX12_keep_0 G Q lv st M → G 0 lv st M) (h17 : ∀ lv st M, BX12_keep_17 G Q lv st M → G 17 lv st M) (h26 : ∀ lv st M, BX12_keep_26 G Q lv st M → G 26 lv st M) (h55 : ∀ lv st M, BX12_keep_55 G Q lv st M → G 55 lv st M) (as : List mV) (M : mM) (ho : ∀ v ∈ as, okV v) (hp : pre_X12_keep as M) (hQ : Q (fn_X12_keep as M).1 (fn_X12_keep as M).2) : G 0 (inL as ++ List.replicate (3 - (inL as).length) none) [] M := by
  obtain ⟨c, s, rfl⟩ := hp
  obtain rfl : c = 158 := k12 (ho (.inr (.inr (12, c))) (by simp))
  have e : iL s.toInt64 0 1 = wi s 0 1 := iLw s 0 1
  simp only [fn_X12_keep, m_keep] at hQ
  (apply h0; simp only [BX12_keep_0, s_mth, s_mab, s_at, s_iconst, s_lconst, s_iload, s_lload, s_aload, s_istore, s_lstore, s_astore, s_iinc, s_bin, s_binG, s_un, s_lbin, s_lbinG, s_lsh, s_lcmp, s_i2l, s_l2i, s_dup, s_dup2, s_pop, s_if, s_icmp, s_geti, s_getl, s_getr, s_puti, s_putz, s_putl, s_iald, s_zald, s_iast, s_zast, s_aaldS, s_aaldU, s_gets, s_tald, s_tsw, tsw, s_iret, s_zret, s_lret, s_aret, s_vret, s_callV, s_callS, c1, nl1, keepL, csum, pushR, inL, List.getD_cons_zero, List.getD_cons_succ, List.set_cons_zero, List.set_cons_succ, List.cons_append, List.nil_append, List.append_nil, List.replicate, List.length_cons, List.length_nil, List.take_succ_cons, List.take_zero, List.drop_succ_cons, List.drop_zero, List.reverse_cons, List.reverse_nil, true_and, and_true, forall_const, not_true_eq_false, not_false_eq_true, false_implies, true_implies, implies_true, one0, m10, Nat.reduceAdd, Nat.reduceSub, Nat.reduceLeDiff, Nat.zero_add, Nat.add_zero, fn_X12_in])
  rw [show mset M 158 0 0 = m0 M from rfl, e]
  generalize m0 M = M0 at *
  refine ⟨⟨_, _, _, rfl⟩, fun h => ?_, fun h => ?_⟩
  · rw [if_pos h] at hQ; exact hQ
  · rw [if_neg h] at hQ
    obtain ⟨j, -, hj, rfl⟩ := wi_g (d := 0) (c := 1) rfl rfl (by decide) (by decide) h
    rw [nI_clamp (by omega : j < 2 ^ 31)] at hQ
    have hQ2 : Q (some (.inl (M0.1 165 51))) (cpyM (mset M0 170 j 1) 169 (M0.1 165) (52 * j) 52 0) := by
      rw [cpyM_e, mset_n (by decide)]
      exact hQ
    have loop : ∀ (n i : Nat) (M' : mM), i + n = 52 → M'.1 165 = M0.1 165 → Q (some (.inl (M0.1 165 51))) (cpyM M' 169 (M0.1 165) (52 * j) n i) → G 26 [some (.inr (.inr (12, 158))), some (.inl (nI j)), some (.inl (nI i))] [] M' := by
      intro n
      induction n with
      | zero =>
        intro i M' hi h165 hq
        obtain rfl : i = 52 := by omega
        (apply h26; simp only [BX12_keep_26, s_mth, s_mab, s_at, s_iconst, s_lconst, s_iload, s_lload, s_aload, s_istore, s_lstore, s_astore, s_iinc, s_bin, s_binG, s_un, s_lbin, s_lbinG, s_lsh, s_lcmp, s_i2l, s_l2i, s_dup, s_dup2, s_pop, s_if, s_icmp, s_geti, s_getl, s_getr, s_puti, s_putz, s_putl, s_iald, s_zald, s_iast, s_zast, s_aaldS, s_aaldU, s_gets, s_tald, s_tsw, tsw, s_iret, s_zret, s_lret, s_aret, s_vret, s_callV, s_callS, c1, nl1, keepL, csum, pushR, inL, List.getD_cons_zero, List.getD_cons_succ, List.set_cons_zero, List.set_cons_succ, List.cons_append, List.nil_append, List.append_nil, List.replicate, List.length_cons, List.length_nil, List.take_succ_cons, List.take_zero, List.drop_succ_cons, List.drop_zero, List.reverse_cons, List.reverse_nil, true_and, and_true, forall_const, not_true_eq_false, not_false_eq_true, false_implies, true_implies, implies_true, one0, m10, Nat.reduceAdd, Nat.reduceSub, Nat.reduceLeDiff, Nat.zero_add, Nat.add_zero, fn_X12_in])
        refine ⟨fun _ => ?_, fun h => absurd (by decide) h⟩
        (apply h55; simp only [BX12_keep_55, s_mth, s_mab, s_at, s_iconst, s_lconst, s_iload, s_lload, s_aload, s_istore, s_lstore, s_astore, s_iinc, s_bin, s_binG, s_un, s_lbin, s_lbinG, s_lsh, s_lcmp, s_i2l, s_l2i, s_dup, s_dup2, s_pop, s_if, s_icmp, s_geti, s_getl, s_getr, s_puti, s_putz, s_putl, s_iald, s_zald, s_iast, s_zast, s_aaldS, s_aaldU, s_gets, s_tald, s_tsw, tsw, s_iret, s_zret, s_lret, s_aret, s_vret, s_callV, s_callS, c1, nl1, keepL, csum, pushR, inL, List.getD_cons_zero, List.getD_cons_succ, List.set_cons_zero, List.set_cons_succ, List.cons_append, List.nil_append, List.append_nil, List.replicate, List.length_cons, List.length_nil, List.take_succ_cons, List.take_zero, List.drop_succ_cons, List.drop_zero, List.reverse_cons, List.reverse_nil, true_and, and_true, forall_const, not_true_eq_false, not_false_eq_true, false_implies, true_implies, implies_true, one0, m10, Nat.reduceAdd, Nat.reduceSub, Nat.reduceLeDiff, Nat.zero_add, Nat.add_zero, fn_X12_in])
        simp only [lM, x51', h165]
        exact ⟨v51', hq⟩
      | succ n ih =>
        intro i M' hi h165 hq
        have ei : (nI i).toNatClampNeg = i := nI_clamp (by omega)
        have hv : vp_in (nI i) 52 := vp_in_nI (by omega) (by decide)
        have e1 : (52 : Int32) * nI j + nI i = nI (52 * j + i) := by rw [show (52 : Int32) = nI 52 from rfl, pk_mul, nI_add]
        (apply h26; simp only [BX12_keep_26, s_mth, s_mab, s_at, s_iconst, s_lconst, s_iload, s_lload, s_aload, s_istore, s_lstore, s_astore, s_iinc, s_bin, s_binG, s_un, s_lbin, s_lbinG, s_lsh, s_lcmp, s_i2l, s_l2i, s_dup, s_dup2, s_pop, s_if, s_icmp, s_geti, s_getl, s_getr, s_puti, s_putz, s_putl, s_iald, s_zald, s_iast, s_zast, s_aaldS, s_aaldU, s_gets, s_tald, s_tsw, tsw, s_iret, s_zret, s_lret, s_aret, s_vret, s_callV, s_callS, c1, nl1, keepL, csum, pushR, inL, List.getD_cons_zero, List.getD_cons_succ, List.set_cons_zero, List.set_cons_succ, List.cons_append, List.nil_append, List.append_nil, List.replicate, List.length_cons, List.length_nil, List.take_succ_cons, List.take_zero, List.drop_succ_cons, List.drop_zero, List.reverse_cons, List.reverse_nil, true_and, and_true, forall_const, not_true_eq_false, not_false_eq_true, false_implies, true_implies, implies_true, one0, m10, Nat.reduceAdd, Nat.reduceSub, Nat.reduceLeDiff, Nat.zero_add, Nat.add_zero, fn_X12_in])
        simp only [lM, ei, h165, e1]
        refine ⟨fun h => absurd h (nI_ge (b := 52) (by omega) (by decide)), fun _ => ⟨hv, vz (by omega) (by decide), ?_⟩⟩
        rw [nI_1, nI_clamp (by omega)]
        refine ih (i + 1) _ (by omega) ?_ ?_
        · rw [mset_n (by decide)]; exact h165
        · rw [cpyM] at hq; exact hq
    (apply h17; simp only [BX12_keep_17, s_mth, s_mab, s_at, s_iconst, s_lconst, s_iload, s_lload, s_aload, s_istore, s_lstore, s_astore, s_iinc, s_bin, s_binG, s_un, s_lbin, s_lbinG, s_lsh, s_lcmp, s_i2l, s_l2i, s_dup, s_dup2, s_pop, s_if, s_icmp, s_geti, s_getl, s_getr, s_puti, s_putz, s_putl, s_iald, s_zald, s_iast, s_zast, s_aaldS, s_aaldU, s_gets, s_tald, s_tsw, tsw, s_iret, s_zret, s_lret, s_aret, s_vret, s_callV, s_callS, c1, nl1, keepL, csum, pushR, inL, List.getD_cons_zero, List.getD_cons_succ, List.set_cons_zero, List.set_cons_succ, List.cons_append, List.nil_append, List.append_nil, List.replicate, List.length_cons, List.length_nil, List.take_succ_cons, List.take_zero, List.drop_succ_cons, List.drop_zero, List.reverse_cons, List.reverse_nil, true_and, and_true, forall_const, not_true_eq_false, not_false_eq_true, false_implies, true_implies, implies_true, one0, m10, Nat.reduceAdd, Nat.reduceSub, Nat.reduceLeDiff, Nat.zero_add, Nat.add_zero, fn_X12_in])
    simp only [lM, z11]
    rw [nI_clamp (by omega : j < 2 ^ 31)]
    exact ⟨vz (by omega) (by decide), loop 52 0 _ rfl (by rw [mset_n (by decide)]) hQ2⟩
theorem ct_X12_keep (l : Launch) : Con l yX12_keep cX12_keep 3 (Option.some FieldType.int) 1 pre_X12_keep fn_X12_keep := con_of (by decide +kernel) ok_X12_keep len_X12_keep (fun p e s m args below meth c D ca ad A as M hX hr hp ho => pf_X12_keep _ _ (bsX12_keep_0 hX hr) (bsX12_keep_17 hX hr) (bsX12_keep_26 hX hr) (bsX12_keep_55 hX hr) as M ho hp ⟨rfl, rfl⟩)
def agM (M : mM) (s : Nat) : mM := mset (rset M 165 (cpyR (M.1 165) (fun k => M.1 169 (52 * s + k)) 0 52 0)) 158 20 0
def m_again (M : mM) (s : Int32) : Int32 × mM := if wi s 0 1 = 0 then (-1, M) else if M.1 170 s.toNatClampNeg = 0 then (-3, M) else ((agM M s.toNatClampNeg).1 165 51, agM M s.toNatClampNeg)
def pre_X12_again (as : List mV) (M : mM) : Prop := ∃ c s, as = [.inr (.inr (12, c)), .inl s]
def fn_X12_again : List mV → mM → Option mV × mM
  | [.inr (.inr (_, c)), .inl s], M => (some (.inl (m_again (m0 M) s).1), (m_again (m0 M) s).2)
  | _, M => (none, M)
theorem ok_X12_again (as : List mV) (M : mM) (h : pre_X12_again as M) (_ : ∀ v ∈ as, okV v) : okR (fn_X12_again as M).1 := by
  obtain ⟨c, s, rfl⟩ := h
  first | trivial | exact (by decide +kernel : kof 14 = 8)
theorem len_X12_again (as : List mV) (M : mM) (h : pre_X12_again as M) : (inL as).length ≤ 3 := by
  obtain ⟨c, s, rfl⟩ := h
  exact Nat.le_of_ble_eq_true rfl


theorem dX12_again_0 : decode cX12_again 0 = .ok (.aload_n 0, 1) := by decide +kernel
theorem dX12_again_1 : decode cX12_again 1 = .ok (.iconst 0, 1) := by decide +kernel
theorem dX12_again_2 : decode cX12_again 2 = .ok (.putfield 1, 3) := by decide +kernel
theorem dX12_again_5 : decode cX12_again 5 = .ok (.iload_n 1, 1) := by decide +kernel
theorem dX12_again_6 : decode cX12_again 6 = .ok (.i2l, 1) := by decide +kernel
theorem dX12_again_7 : decode cX12_again 7 = .ok (.lconst 0, 1) := by decide +kernel
theorem dX12_again_8 : decode cX12_again 8 = .ok (.lconst 1, 1) := by decide +kernel
theorem dX12_again_9 : decode cX12_again 9 = .ok (.invokestatic 17, 3) := by decide +kernel
theorem dX12_again_12 : decode cX12_again 12 = .ok (.ifCond .ne 5, 3) := by decide +kernel
theorem dX12_again_15 : decode cX12_again 15 = .ok (.iconst (-1), 1) := by decide +kernel
theorem dX12_again_16 : decode cX12_again 16 = .ok (.ireturn, 1) := by decide +kernel
theorem dX12_again_17 : decode cX12_again 17 = .ok (.aload_n 0, 1) := by decide +kernel
theorem dX12_again_18 : decode cX12_again 18 = .ok (.getfield 60, 3) := by decide +kernel
theorem dX12_again_21 : decode cX12_again 21 = .ok (.iload_n 1, 1) := by decide +kernel
theorem dX12_again_22 : decode cX12_again 22 = .ok (.baload, 1) := by decide +kernel
theorem dX12_again_23 : decode cX12_again 23 = .ok (.ifCond .ne 6, 3) := by decide +kernel
theorem dX12_again_26 : decode cX12_again 26 = .ok (.bipush (-3), 2) := by decide +kernel
theorem dX12_again_28 : decode cX12_again 28 = .ok (.ireturn, 1) := by decide +kernel
theorem dX12_again_29 : decode cX12_again 29 = .ok (.iconst 0, 1) := by decide +kernel
theorem dX12_again_30 : decode cX12_again 30 = .ok (.istore_n 2, 1) := by decide +kernel
theorem dX12_again_31 : decode cX12_again 31 = .ok (.iload_n 2, 1) := by decide +kernel
theorem dX12_again_32 : decode cX12_again 32 = .ok (.bipush 52, 2) := by decide +kernel
theorem dX12_again_34 : decode cX12_again 34 = .ok (.if_icmp .ge 26, 3) := by decide +kernel
theorem dX12_again_37 : decode cX12_again 37 = .ok (.aload_n 0, 1) := by decide +kernel
theorem dX12_again_38 : decode cX12_again 38 = .ok (.getfield 11, 3) := by decide +kernel
theorem dX12_again_41 : decode cX12_again 41 = .ok (.iload_n 2, 1) := by decide +kernel
theorem dX12_again_42 : decode cX12_again 42 = .ok (.aload_n 0, 1) := by decide +kernel
theorem dX12_again_43 : decode cX12_again 43 = .ok (.getfield 57, 3) := by decide +kernel
theorem dX12_again_46 : decode cX12_again 46 = .ok (.bipush 52, 2) := by decide +kernel
theorem dX12_again_48 : decode cX12_again 48 = .ok (.iload_n 1, 1) := by decide +kernel
theorem dX12_again_49 : decode cX12_again 49 = .ok (.imul, 1) := by decide +kernel
theorem dX12_again_50 : decode cX12_again 50 = .ok (.iload_n 2, 1) := by decide +kernel
theorem dX12_again_51 : decode cX12_again 51 = .ok (.iadd, 1) := by decide +kernel
theorem dX12_again_52 : decode cX12_again 52 = .ok (.iaload, 1) := by decide +kernel
theorem dX12_again_53 : decode cX12_again 53 = .ok (.iastore, 1) := by decide +kernel
theorem dX12_again_54 : decode cX12_again 54 = .ok (.iinc 2 1, 3) := by decide +kernel
theorem dX12_again_57 : decode cX12_again 57 = .ok (.goto (-26), 3) := by decide +kernel
theorem dX12_again_60 : decode cX12_again 60 = .ok (.aload_n 0, 1) := by decide +kernel
theorem dX12_again_61 : decode cX12_again 61 = .ok (.iconst 0, 1) := by decide +kernel
theorem dX12_again_62 : decode cX12_again 62 = .ok (.putfield 120, 3) := by decide +kernel
theorem dX12_again_65 : decode cX12_again 65 = .ok (.aload_n 0, 1) := by decide +kernel
theorem dX12_again_66 : decode cX12_again 66 = .ok (.getfield 11, 3) := by decide +kernel
theorem dX12_again_69 : decode cX12_again 69 = .ok (.bipush 51, 2) := by decide +kernel
theorem dX12_again_71 : decode cX12_again 71 = .ok (.iaload, 1) := by decide +kernel
theorem dX12_again_72 : decode cX12_again 72 = .ok (.ireturn, 1) := by decide +kernel
theorem mk_X12_again : MVk yX12_again "FairBlocksModel" cX12_again 3 (Option.some FieldType.int) 1 := ⟨w_1050, w_1048, w_1049, w_13, rfl, by decide +kernel, by decide +kernel, by decide +kernel⟩
def BX12_again_0 (G : Nat → KT) (Q : Option mV → mM → Prop) : KT := (s_aload 0 (s_iconst (0) (s_puti 12 0 (s_iload 1 (s_i2l (s_lconst 0 (s_lconst 1 (s_callS 3 pre_X12_in fn_X12_in (s_if (fun x => x = 0) ((s_iconst (-1) (s_iret Q))) (s_at G 17 [true, true, false]))))))))))
set_option maxRecDepth 4000 in
theorem bsX12_again_0 {p : Program} {l : Launch} {e : Env} {s : State} {m : MethodId} {args : Array Value} {below : List Frame} {meth : Method} {c : Code} {D : va_G} {ca : Nat → ClassId} {ad : Nat → Nat} {A : Nat → Prop} {Q : Option mV → mM → Prop} (hX : CX p s m args meth c 3 cX12_again "FairBlocksModel" D ca ad A) (hr : meth.sig.returnType = (Option.some FieldType.int)) : ∀ lv st M, BX12_again_0 (Gd p l e (rmD 1) s m args below meth c 3 D ca ad A 0 0 (MQ below (QC D ca ad A Q) args s 0 0 A)) Q lv st M → Gd p l e (rmD 1) s m args below meth c 3 D ca ad A 0 0 (MQ below (QC D ca ad A Q) args s 0 0 A) 0 lv st M :=
  (sd_aload_n hX dX12_again_0 rfl (sd_iconst hX dX12_again_1 rfl (sd_puti hX fp_723 dX12_again_2 (sd_iload_n hX dX12_again_5 rfl (sd_i2l hX dX12_again_6 (sd_lconst hX dX12_again_7 rfl (sd_lconst hX dX12_again_8 rfl (sd_callS hX (ct_X12_in l) mk_X12_in w_825 ⟨⟨by decide, by decide⟩, by decide, by decide⟩ dX12_again_9 (sd_if_ne hX dX12_again_12 (by decide) sd_at (sd_iconst hX dX12_again_15 rfl (sd_iret hX hr dX12_again_16)))))))))))
def BX12_again_17 (G : Nat → KT) (Q : Option mV → mM → Prop) : KT := (s_aload 0 (s_getr 12 14 (fun _ => 170) (s_iload 1 (s_zald (s_if (fun x => x = 0) ((s_iconst (-3) (s_iret Q))) (s_at G 29 [true, true, false]))))))
set_option maxRecDepth 4000 in
theorem bsX12_again_17 {p : Program} {l : Launch} {e : Env} {s : State} {m : MethodId} {args : Array Value} {below : List Frame} {meth : Method} {c : Code} {D : va_G} {ca : Nat → ClassId} {ad : Nat → Nat} {A : Nat → Prop} {Q : Option mV → mM → Prop} (hX : CX p s m args meth c 3 cX12_again "FairBlocksModel" D ca ad A) (hr : meth.sig.returnType = (Option.some FieldType.int)) : ∀ lv st M, BX12_again_17 (Gd p l e (rmD 1) s m args below meth c 3 D ca ad A 0 0 (MQ below (QC D ca ad A Q) args s 0 0 A)) Q lv st M → Gd p l e (rmD 1) s m args below meth c 3 D ca ad A 0 0 (MQ below (QC D ca ad A Q) args s 0 0 A) 17 lv st M :=
  (sd_aload_n hX dX12_again_17 rfl (sd_getr hX fl_745 (fun _ => rfl) (fun _ _ _ => by decide +kernel) dX12_again_18 (sd_iload_n hX dX12_again_21 rfl (sd_zald hX dX12_again_22 (sd_if_ne hX dX12_again_23 (by decide) sd_at (sd_bipush hX dX12_again_26 rfl (sd_iret hX hr dX12_again_28)))))))
def BX12_again_29 (G : Nat → KT) (Q : Option mV → mM → Prop) : KT := (s_iconst (0) (s_istore 2 (s_at G 31 [true, true, true])))
set_option maxRecDepth 4000 in
theorem bsX12_again_29 {p : Program} {l : Launch} {e : Env} {s : State} {m : MethodId} {args : Array Value} {below : List Frame} {meth : Method} {c : Code} {D : va_G} {ca : Nat → ClassId} {ad : Nat → Nat} {A : Nat → Prop} {Q : Option mV → mM → Prop} (hX : CX p s m args meth c 3 cX12_again "FairBlocksModel" D ca ad A) (hr : meth.sig.returnType = (Option.some FieldType.int)) : ∀ lv st M, BX12_again_29 (Gd p l e (rmD 1) s m args below meth c 3 D ca ad A 0 0 (MQ below (QC D ca ad A Q) args s 0 0 A)) Q lv st M → Gd p l e (rmD 1) s m args below meth c 3 D ca ad A 0 0 (MQ below (QC D ca ad A Q) args s 0 0 A) 29 lv st M :=
  (sd_iconst hX dX12_again_29 rfl (sd_istore_n hX (by decide) dX12_again_30 rfl sd_at))
def BX12_again_31 (G : Nat → KT) (Q : Option mV → mM → Prop) : KT := (s_iload 2 (s_iconst (52) (s_icmp (fun x y => y ≤ x) (s_at G 60 [true, false, false]) (s_aload 0 (s_getr 12 13 (fun _ => 165) (s_iload 2 (s_aload 0 (s_getr 12 13 (fun _ => 169) (s_iconst (52) (s_iload 1 (s_bin (fun x y => x * y) (s_iload 2 (s_bin (fun x y => x + y) (s_iald (s_iast (s_iinc 2 (1) (s_at G 31 [true, true, true])))))))))))))))))
set_option maxRecDepth 4000 in
theorem bsX12_again_31 {p : Program} {l : Launch} {e : Env} {s : State} {m : MethodId} {args : Array Value} {below : List Frame} {meth : Method} {c : Code} {D : va_G} {ca : Nat → ClassId} {ad : Nat → Nat} {A : Nat → Prop} {Q : Option mV → mM → Prop} (hX : CX p s m args meth c 3 cX12_again "FairBlocksModel" D ca ad A) (hr : meth.sig.returnType = (Option.some FieldType.int)) : ∀ lv st M, BX12_again_31 (Gd p l e (rmD 1) s m args below meth c 3 D ca ad A 0 0 (MQ below (QC D ca ad A Q) args s 0 0 A)) Q lv st M → Gd p l e (rmD 1) s m args below meth c 3 D ca ad A 0 0 (MQ below (QC D ca ad A Q) args s 0 0 A) 31 lv st M :=
  (sd_iload_n hX dX12_again_31 rfl (sd_bipush hX dX12_again_32 rfl (sd_icmp_ge hX dX12_again_34 (by decide) sd_at (sd_aload_n hX dX12_again_37 rfl (sd_getr hX fl_739 (fun _ => rfl) (fun _ _ _ => by decide +kernel) dX12_again_38 (sd_iload_n hX dX12_again_41 rfl (sd_aload_n hX dX12_again_42 rfl (sd_getr hX fl_744 (fun _ => rfl) (fun _ _ _ => by decide +kernel) dX12_again_43 (sd_bipush hX dX12_again_46 rfl (sd_iload_n hX dX12_again_48 rfl (sd_imul hX dX12_again_49 (sd_iload_n hX dX12_again_50 rfl (sd_iadd hX dX12_again_51 (sd_iald hX dX12_again_52 (sd_iast hX dX12_again_53 (sd_iinc hX (by decide) dX12_again_54 rfl (sd_goto hX dX12_again_57 (by decide) sd_at)))))))))))))))))
def BX12_again_60 (G : Nat → KT) (Q : Option mV → mM → Prop) : KT := (s_aload 0 (s_iconst (0) (s_puti 12 20 (s_aload 0 (s_getr 12 13 (fun _ => 165) (s_iconst (51) (s_iald (s_iret Q))))))))
set_option maxRecDepth 4000 in
theorem bsX12_again_60 {p : Program} {l : Launch} {e : Env} {s : State} {m : MethodId} {args : Array Value} {below : List Frame} {meth : Method} {c : Code} {D : va_G} {ca : Nat → ClassId} {ad : Nat → Nat} {A : Nat → Prop} {Q : Option mV → mM → Prop} (hX : CX p s m args meth c 3 cX12_again "FairBlocksModel" D ca ad A) (hr : meth.sig.returnType = (Option.some FieldType.int)) : ∀ lv st M, BX12_again_60 (Gd p l e (rmD 1) s m args below meth c 3 D ca ad A 0 0 (MQ below (QC D ca ad A Q) args s 0 0 A)) Q lv st M → Gd p l e (rmD 1) s m args below meth c 3 D ca ad A 0 0 (MQ below (QC D ca ad A Q) args s 0 0 A) 60 lv st M :=
  (sd_aload_n hX dX12_again_60 rfl (sd_iconst hX dX12_again_61 rfl (sd_puti hX fp_743 dX12_again_62 (sd_aload_n hX dX12_again_65 rfl (sd_getr hX fl_739 (fun _ => rfl) (fun _ _ _ => by decide +kernel) dX12_again_66 (sd_bipush hX dX12_again_69 rfl (sd_iald hX dX12_again_71 (sd_iret hX hr dX12_again_72))))))))
set_option maxHeartbeats 400000 in
theorem pf_X12_again (G : Nat → KT) (Q : Option mV → mM → Prop) (h0 : ∀ lv st M, BX12_again_0 G Q lv st M → G 0 lv st M) (h17 : ∀ lv st M, BX12_again_17 G Q lv st M → G 17 lv st M) (h29 : ∀ lv st M, BX12_again_29 G Q lv st M → G 29 lv st M) (h31 : ∀ lv st M, BX12_again_31 G Q lv st M → G 31 lv st M) (h60 : ∀ lv st M, BX12_again_60 G Q lv st M → G 60 lv st M) (as : List mV) (M : mM) (ho : ∀ v ∈ as, okV v) (hp : pre_X12_again as M) (hQ : Q (fn_X12_again as M).1 (fn_X12_again as M).2) : G 0 (inL as ++ List.replicate (3 - (inL as).length) none) [] M := by
  obtain ⟨c, s, rfl⟩ := hp
  obtain rfl : c = 158 := k12 (ho (.inr (.inr (12, c))) (by simp))
  have e : iL s.toInt64 0 1 = wi s 0 1 := iLw s 0 1
  simp only [fn_X12_again, m_again] at hQ
  (apply h0; simp only [BX12_again_0, s_mth, s_mab, s_at, s_iconst, s_lconst, s_iload, s_lload, s_aload, s_istore, s_lstore, s_astore, s_iinc, s_bin, s_binG, s_un, s_lbin, s_lbinG, s_lsh, s_lcmp, s_i2l, s_l2i, s_dup, s_dup2, s_pop, s_if, s_icmp, s_geti, s_getl, s_getr, s_puti, s_putz, s_putl, s_iald, s_zald, s_iast, s_zast, s_aaldS, s_aaldU, s_gets, s_tald, s_tsw, tsw, s_iret, s_zret, s_lret, s_aret, s_vret, s_callV, s_callS, c1, nl1, keepL, csum, pushR, inL, List.getD_cons_zero, List.getD_cons_succ, List.set_cons_zero, List.set_cons_succ, List.cons_append, List.nil_append, List.append_nil, List.replicate, List.length_cons, List.length_nil, List.take_succ_cons, List.take_zero, List.drop_succ_cons, List.drop_zero, List.reverse_cons, List.reverse_nil, true_and, and_true, forall_const, not_true_eq_false, not_false_eq_true, false_implies, true_implies, implies_true, one0, m10, Nat.reduceAdd, Nat.reduceSub, Nat.reduceLeDiff, Nat.zero_add, Nat.add_zero, fn_X12_in])
  rw [show mset M 158 0 0 = m0 M from rfl, e]
  generalize m0 M = M0 at *
  refine ⟨⟨_, _, _, rfl⟩, fun h => ?_, fun h => ?_⟩
  · rw [if_pos h] at hQ; exact hQ
  · rw [if_neg h] at hQ
    obtain ⟨j, -, hj, rfl⟩ := wi_g (d := 0) (c := 1) rfl rfl (by decide) (by decide) h
    rw [nI_clamp (by omega : j < 2 ^ 31)] at hQ
    (apply h17; simp only [BX12_again_17, s_mth, s_mab, s_at, s_iconst, s_lconst, s_iload, s_lload, s_aload, s_istore, s_lstore, s_astore, s_iinc, s_bin, s_binG, s_un, s_lbin, s_lbinG, s_lsh, s_lcmp, s_i2l, s_l2i, s_dup, s_dup2, s_pop, s_if, s_icmp, s_geti, s_getl, s_getr, s_puti, s_putz, s_putl, s_iald, s_zald, s_iast, s_zast, s_aaldS, s_aaldU, s_gets, s_tald, s_tsw, tsw, s_iret, s_zret, s_lret, s_aret, s_vret, s_callV, s_callS, c1, nl1, keepL, csum, pushR, inL, List.getD_cons_zero, List.getD_cons_succ, List.set_cons_zero, List.set_cons_succ, List.cons_append, List.nil_append, List.append_nil, List.replicate, List.length_cons, List.length_nil, List.take_succ_cons, List.take_zero, List.drop_succ_cons, List.drop_zero, List.reverse_cons, List.reverse_nil, true_and, and_true, forall_const, not_true_eq_false, not_false_eq_true, false_implies, true_implies, implies_true, one0, m10, Nat.reduceAdd, Nat.reduceSub, Nat.reduceLeDiff, Nat.zero_add, Nat.add_zero, fn_X12_in])
    simp only [lM]
    rw [nI_clamp (by omega : j < 2 ^ 31)]
    refine ⟨vz (by omega) (by decide), fun h2 => ?_, fun h2 => ?_⟩
    · rw [if_pos h2] at hQ; exact hQ
    · rw [if_neg h2] at hQ
      unfold agM at hQ
      rw [← cpyM_e] at hQ
      have loop : ∀ (n i : Nat) (M' : mM), i + n = 52 → M'.1 169 = M0.1 169 → Q (some (.inl ((mset (cpyM M' 165 (fun k => M0.1 169 (52 * j + k)) 0 n i) 158 20 0).1 165 51))) (mset (cpyM M' 165 (fun k => M0.1 169 (52 * j + k)) 0 n i) 158 20 0) → G 31 [some (.inr (.inr (12, 158))), some (.inl (nI j)), some (.inl (nI i))] [] M' := by
        intro n
        induction n with
        | zero =>
          intro i M' hi h165 hq
          obtain rfl : i = 52 := by omega
          (apply h31; simp only [BX12_again_31, s_mth, s_mab, s_at, s_iconst, s_lconst, s_iload, s_lload, s_aload, s_istore, s_lstore, s_astore, s_iinc, s_bin, s_binG, s_un, s_lbin, s_lbinG, s_lsh, s_lcmp, s_i2l, s_l2i, s_dup, s_dup2, s_pop, s_if, s_icmp, s_geti, s_getl, s_getr, s_puti, s_putz, s_putl, s_iald, s_zald, s_iast, s_zast, s_aaldS, s_aaldU, s_gets, s_tald, s_tsw, tsw, s_iret, s_zret, s_lret, s_aret, s_vret, s_callV, s_callS, c1, nl1, keepL, csum, pushR, inL, List.getD_cons_zero, List.getD_cons_succ, List.set_cons_zero, List.set_cons_succ, List.cons_append, List.nil_append, List.append_nil, List.replicate, List.length_cons, List.length_nil, List.take_succ_cons, List.take_zero, List.drop_succ_cons, List.drop_zero, List.reverse_cons, List.reverse_nil, true_and, and_true, forall_const, not_true_eq_false, not_false_eq_true, false_implies, true_implies, implies_true, one0, m10, Nat.reduceAdd, Nat.reduceSub, Nat.reduceLeDiff, Nat.zero_add, Nat.add_zero, fn_X12_in])
          refine ⟨fun _ => ?_, fun h => absurd (by decide) h⟩
          (apply h60; simp only [BX12_again_60, s_mth, s_mab, s_at, s_iconst, s_lconst, s_iload, s_lload, s_aload, s_istore, s_lstore, s_astore, s_iinc, s_bin, s_binG, s_un, s_lbin, s_lbinG, s_lsh, s_lcmp, s_i2l, s_l2i, s_dup, s_dup2, s_pop, s_if, s_icmp, s_geti, s_getl, s_getr, s_puti, s_putz, s_putl, s_iald, s_zald, s_iast, s_zast, s_aaldS, s_aaldU, s_gets, s_tald, s_tsw, tsw, s_iret, s_zret, s_lret, s_aret, s_vret, s_callV, s_callS, c1, nl1, keepL, csum, pushR, inL, List.getD_cons_zero, List.getD_cons_succ, List.set_cons_zero, List.set_cons_succ, List.cons_append, List.nil_append, List.append_nil, List.replicate, List.length_cons, List.length_nil, List.take_succ_cons, List.take_zero, List.drop_succ_cons, List.drop_zero, List.reverse_cons, List.reverse_nil, true_and, and_true, forall_const, not_true_eq_false, not_false_eq_true, false_implies, true_implies, implies_true, one0, m10, Nat.reduceAdd, Nat.reduceSub, Nat.reduceLeDiff, Nat.zero_add, Nat.add_zero, fn_X12_in])
          simp only [lM, x51']
          exact ⟨v51', hq⟩
        | succ n ih =>
          intro i M' hi h165 hq
          have ei : (nI i).toNatClampNeg = i := nI_clamp (by omega)
          have hv : vp_in (nI i) 52 := vp_in_nI (by omega) (by decide)
          have e1 : (52 : Int32) * nI j + nI i = nI (52 * j + i) := by rw [show (52 : Int32) = nI 52 from rfl, pk_mul, nI_add]
          (apply h31; simp only [BX12_again_31, s_mth, s_mab, s_at, s_iconst, s_lconst, s_iload, s_lload, s_aload, s_istore, s_lstore, s_astore, s_iinc, s_bin, s_binG, s_un, s_lbin, s_lbinG, s_lsh, s_lcmp, s_i2l, s_l2i, s_dup, s_dup2, s_pop, s_if, s_icmp, s_geti, s_getl, s_getr, s_puti, s_putz, s_putl, s_iald, s_zald, s_iast, s_zast, s_aaldS, s_aaldU, s_gets, s_tald, s_tsw, tsw, s_iret, s_zret, s_lret, s_aret, s_vret, s_callV, s_callS, c1, nl1, keepL, csum, pushR, inL, List.getD_cons_zero, List.getD_cons_succ, List.set_cons_zero, List.set_cons_succ, List.cons_append, List.nil_append, List.append_nil, List.replicate, List.length_cons, List.length_nil, List.take_succ_cons, List.take_zero, List.drop_succ_cons, List.drop_zero, List.reverse_cons, List.reverse_nil, true_and, and_true, forall_const, not_true_eq_false, not_false_eq_true, false_implies, true_implies, implies_true, one0, m10, Nat.reduceAdd, Nat.reduceSub, Nat.reduceLeDiff, Nat.zero_add, Nat.add_zero, fn_X12_in])
          simp only [lM, ei, h165, e1]
          refine ⟨fun h => absurd h (nI_ge (b := 52) (by omega) (by decide)), fun _ => ⟨vz (by omega) (by decide), hv, ?_⟩⟩
          rw [nI_1, nI_clamp (by omega)]
          refine ih (i + 1) _ (by omega) ?_ ?_
          · rw [mset_n (by decide)]; exact h165
          · rw [cpyM, Nat.zero_add] at hq; exact hq
      (apply h29; simp only [BX12_again_29, s_mth, s_mab, s_at, s_iconst, s_lconst, s_iload, s_lload, s_aload, s_istore, s_lstore, s_astore, s_iinc, s_bin, s_binG, s_un, s_lbin, s_lbinG, s_lsh, s_lcmp, s_i2l, s_l2i, s_dup, s_dup2, s_pop, s_if, s_icmp, s_geti, s_getl, s_getr, s_puti, s_putz, s_putl, s_iald, s_zald, s_iast, s_zast, s_aaldS, s_aaldU, s_gets, s_tald, s_tsw, tsw, s_iret, s_zret, s_lret, s_aret, s_vret, s_callV, s_callS, c1, nl1, keepL, csum, pushR, inL, List.getD_cons_zero, List.getD_cons_succ, List.set_cons_zero, List.set_cons_succ, List.cons_append, List.nil_append, List.append_nil, List.replicate, List.length_cons, List.length_nil, List.take_succ_cons, List.take_zero, List.drop_succ_cons, List.drop_zero, List.reverse_cons, List.reverse_nil, true_and, and_true, forall_const, not_true_eq_false, not_false_eq_true, false_implies, true_implies, implies_true, one0, m10, Nat.reduceAdd, Nat.reduceSub, Nat.reduceLeDiff, Nat.zero_add, Nat.add_zero, fn_X12_in])
      exact loop 52 0 M0 rfl rfl hQ
theorem ct_X12_again (l : Launch) : Con l yX12_again cX12_again 3 (Option.some FieldType.int) 1 pre_X12_again fn_X12_again := con_of (by decide +kernel) ok_X12_again len_X12_again (fun p e s m args below meth c D ca ad A as M hX hr hp ho => pf_X12_again _ _ (bsX12_again_0 hX hr) (bsX12_again_17 hX hr) (bsX12_again_29 hX hr) (bsX12_again_31 hX hr) (bsX12_again_60 hX hr) as M ho hp ⟨rfl, rfl⟩)
def m_count (M : mM) (w : Int32) : Int32 := if w.toInt < 0 ∨ 9 < w.toInt then -2 else if w.toInt = 0 then M.1 158 2 else if w.toInt = 1 then M.1 158 6 else if w.toInt = 2 then M.1 158 4 else if w.toInt = 3 then M.1 158 5 else if w.toInt = 4 then M.1 165 50 else if w.toInt = 5 then M.1 165 51 else if w.toInt = 6 then ofM M else if w.toInt = 7 then wgM M else if w.toInt = 8 then M.1 158 20 else M.1 158 23
def pre_X12_count (as : List mV) (M : mM) : Prop := ∃ c w, as = [.inr (.inr (12, c)), .inl w] ∧ MI M
def fn_X12_count : List mV → mM → Option mV × mM
  | [.inr (.inr (_, c)), .inl w], M => (some (.inl (m_count (m0 M) w)), m0 M)
  | _, M => (none, M)
theorem ok_X12_count (as : List mV) (M : mM) (h : pre_X12_count as M) (_ : ∀ v ∈ as, okV v) : okR (fn_X12_count as M).1 := by
  obtain ⟨c, w, rfl, -⟩ := h
  first | trivial | exact (by decide +kernel : kof 14 = 8)
theorem len_X12_count (as : List mV) (M : mM) (h : pre_X12_count as M) : (inL as).length ≤ 2 := by
  obtain ⟨c, w, rfl, -⟩ := h
  exact Nat.le_of_ble_eq_true rfl

theorem fl_725 : FLk "FairBlocksModel" 87 12 2 0 := ⟨RX12, TX12, 32, rfl, inX12, by decide, w_725, by decide, rfl⟩
theorem dX12_count_0 : decode cX12_count 0 = .ok (.aload_n 0, 1) := by decide +kernel
theorem dX12_count_1 : decode cX12_count 1 = .ok (.iconst 0, 1) := by decide +kernel
theorem dX12_count_2 : decode cX12_count 2 = .ok (.putfield 1, 3) := by decide +kernel
theorem dX12_count_5 : decode cX12_count 5 = .ok (.iload_n 1, 1) := by decide +kernel
theorem dX12_count_6 : decode cX12_count 6 = .ok (.tableswitch 110 0 9 #[54, 59, 64, 69, 74, 82, 90, 95, 100, 105], 54) := by decide +kernel
theorem dX12_count_60 : decode cX12_count 60 = .ok (.aload_n 0, 1) := by decide +kernel
theorem dX12_count_61 : decode cX12_count 61 = .ok (.getfield 87, 3) := by decide +kernel
theorem dX12_count_64 : decode cX12_count 64 = .ok (.ireturn, 1) := by decide +kernel
theorem dX12_count_65 : decode cX12_count 65 = .ok (.aload_n 0, 1) := by decide +kernel
theorem dX12_count_66 : decode cX12_count 66 = .ok (.getfield 14, 3) := by decide +kernel
theorem dX12_count_69 : decode cX12_count 69 = .ok (.ireturn, 1) := by decide +kernel
theorem dX12_count_70 : decode cX12_count 70 = .ok (.aload_n 0, 1) := by decide +kernel
theorem dX12_count_71 : decode cX12_count 71 = .ok (.getfield 30, 3) := by decide +kernel
theorem dX12_count_74 : decode cX12_count 74 = .ok (.ireturn, 1) := by decide +kernel
theorem dX12_count_75 : decode cX12_count 75 = .ok (.aload_n 0, 1) := by decide +kernel
theorem dX12_count_76 : decode cX12_count 76 = .ok (.getfield 33, 3) := by decide +kernel
theorem dX12_count_79 : decode cX12_count 79 = .ok (.ireturn, 1) := by decide +kernel
theorem dX12_count_80 : decode cX12_count 80 = .ok (.aload_n 0, 1) := by decide +kernel
theorem dX12_count_81 : decode cX12_count 81 = .ok (.getfield 11, 3) := by decide +kernel
theorem dX12_count_84 : decode cX12_count 84 = .ok (.bipush 50, 2) := by decide +kernel
theorem dX12_count_86 : decode cX12_count 86 = .ok (.iaload, 1) := by decide +kernel
theorem dX12_count_87 : decode cX12_count 87 = .ok (.ireturn, 1) := by decide +kernel
theorem dX12_count_88 : decode cX12_count 88 = .ok (.aload_n 0, 1) := by decide +kernel
theorem dX12_count_89 : decode cX12_count 89 = .ok (.getfield 11, 3) := by decide +kernel
theorem dX12_count_92 : decode cX12_count 92 = .ok (.bipush 51, 2) := by decide +kernel
theorem dX12_count_94 : decode cX12_count 94 = .ok (.iaload, 1) := by decide +kernel
theorem dX12_count_95 : decode cX12_count 95 = .ok (.ireturn, 1) := by decide +kernel
theorem dX12_count_96 : decode cX12_count 96 = .ok (.aload_n 0, 1) := by decide +kernel
theorem dX12_count_97 : decode cX12_count 97 = .ok (.invokevirtual 210, 3) := by decide +kernel
theorem dX12_count_100 : decode cX12_count 100 = .ok (.ireturn, 1) := by decide +kernel
theorem dX12_count_101 : decode cX12_count 101 = .ok (.aload_n 0, 1) := by decide +kernel
theorem dX12_count_102 : decode cX12_count 102 = .ok (.invokevirtual 241, 3) := by decide +kernel
theorem dX12_count_105 : decode cX12_count 105 = .ok (.ireturn, 1) := by decide +kernel
theorem dX12_count_106 : decode cX12_count 106 = .ok (.aload_n 0, 1) := by decide +kernel
theorem dX12_count_107 : decode cX12_count 107 = .ok (.getfield 120, 3) := by decide +kernel
theorem dX12_count_110 : decode cX12_count 110 = .ok (.ireturn, 1) := by decide +kernel
theorem dX12_count_111 : decode cX12_count 111 = .ok (.aload_n 0, 1) := by decide +kernel
theorem dX12_count_112 : decode cX12_count 112 = .ok (.getfield 198, 3) := by decide +kernel
theorem dX12_count_115 : decode cX12_count 115 = .ok (.ireturn, 1) := by decide +kernel
theorem dX12_count_116 : decode cX12_count 116 = .ok (.bipush (-2), 2) := by decide +kernel
theorem dX12_count_118 : decode cX12_count 118 = .ok (.ireturn, 1) := by decide +kernel
theorem mk_X12_count : MVk yX12_count "FairBlocksModel" cX12_count 2 (Option.some FieldType.int) 1 := ⟨w_1054, w_1052, w_1053, w_13, rfl, by decide +kernel, by decide +kernel, by decide +kernel⟩
def BX12_count_0 (G : Nat → KT) (Q : Option mV → mM → Prop) : KT := (s_aload 0 (s_iconst (0) (s_puti 12 0 (s_iload 1 (s_tsw (0) (9) [s_at G 60 [true, false], s_at G 65 [true, false], s_at G 70 [true, false], s_at G 75 [true, false], s_at G 80 [true, false], s_at G 88 [true, false], s_at G 96 [true, false], s_at G 101 [true, false], s_at G 106 [true, false], s_at G 111 [true, false]] (s_at G 116 [false, false]))))))
set_option maxRecDepth 4000 in
theorem bsX12_count_0 {p : Program} {l : Launch} {e : Env} {s : State} {m : MethodId} {args : Array Value} {below : List Frame} {meth : Method} {c : Code} {D : va_G} {ca : Nat → ClassId} {ad : Nat → Nat} {A : Nat → Prop} {Q : Option mV → mM → Prop} (hX : CX p s m args meth c 2 cX12_count "FairBlocksModel" D ca ad A) (hr : meth.sig.returnType = (Option.some FieldType.int)) : ∀ lv st M, BX12_count_0 (Gd p l e (rmD 2) s m args below meth c 2 D ca ad A 0 0 (MQ below (QC D ca ad A Q) args s 0 0 A)) Q lv st M → Gd p l e (rmD 2) s m args below meth c 2 D ca ad A 0 0 (MQ below (QC D ca ad A Q) args s 0 0 A) 0 lv st M :=
  (sd_aload_n hX dX12_count_0 rfl (sd_iconst hX dX12_count_1 rfl (sd_puti hX fp_723 dX12_count_2 (sd_iload_n hX dX12_count_5 rfl (sd_tsw hX dX12_count_6 (ts := [60, 65, 70, 75, 80, 88, 96, 101, 106, 111]) (td := 116) (by decide) (by decide) rfl ⟨sd_at, sd_at, sd_at, sd_at, sd_at, sd_at, sd_at, sd_at, sd_at, sd_at, trivial⟩ sd_at)))))
def BX12_count_60 (G : Nat → KT) (Q : Option mV → mM → Prop) : KT := (s_aload 0 (s_geti 12 2 (s_iret Q)))
set_option maxRecDepth 4000 in
theorem bsX12_count_60 {p : Program} {l : Launch} {e : Env} {s : State} {m : MethodId} {args : Array Value} {below : List Frame} {meth : Method} {c : Code} {D : va_G} {ca : Nat → ClassId} {ad : Nat → Nat} {A : Nat → Prop} {Q : Option mV → mM → Prop} (hX : CX p s m args meth c 2 cX12_count "FairBlocksModel" D ca ad A) (hr : meth.sig.returnType = (Option.some FieldType.int)) : ∀ lv st M, BX12_count_60 (Gd p l e (rmD 2) s m args below meth c 2 D ca ad A 0 0 (MQ below (QC D ca ad A Q) args s 0 0 A)) Q lv st M → Gd p l e (rmD 2) s m args below meth c 2 D ca ad A 0 0 (MQ below (QC D ca ad A Q) args s 0 0 A) 60 lv st M :=
  (sd_aload_n hX dX12_count_60 rfl (sd_geti hX fl_725 (by decide) dX12_count_61 (sd_iret hX hr dX12_count_64)))
def BX12_count_65 (G : Nat → KT) (Q : Option mV → mM → Prop) : KT := (s_aload 0 (s_geti 12 6 (s_iret Q)))
set_option maxRecDepth 4000 in
theorem bsX12_count_65 {p : Program} {l : Launch} {e : Env} {s : State} {m : MethodId} {args : Array Value} {below : List Frame} {meth : Method} {c : Code} {D : va_G} {ca : Nat → ClassId} {ad : Nat → Nat} {A : Nat → Prop} {Q : Option mV → mM → Prop} (hX : CX p s m args meth c 2 cX12_count "FairBlocksModel" D ca ad A) (hr : meth.sig.returnType = (Option.some FieldType.int)) : ∀ lv st M, BX12_count_65 (Gd p l e (rmD 2) s m args below meth c 2 D ca ad A 0 0 (MQ below (QC D ca ad A Q) args s 0 0 A)) Q lv st M → Gd p l e (rmD 2) s m args below meth c 2 D ca ad A 0 0 (MQ below (QC D ca ad A Q) args s 0 0 A) 65 lv st M :=
  (sd_aload_n hX dX12_count_65 rfl (sd_geti hX fl_729 (by decide) dX12_count_66 (sd_iret hX hr dX12_count_69)))
def BX12_count_70 (G : Nat → KT) (Q : Option mV → mM → Prop) : KT := (s_aload 0 (s_geti 12 4 (s_iret Q)))
set_option maxRecDepth 4000 in
theorem bsX12_count_70 {p : Program} {l : Launch} {e : Env} {s : State} {m : MethodId} {args : Array Value} {below : List Frame} {meth : Method} {c : Code} {D : va_G} {ca : Nat → ClassId} {ad : Nat → Nat} {A : Nat → Prop} {Q : Option mV → mM → Prop} (hX : CX p s m args meth c 2 cX12_count "FairBlocksModel" D ca ad A) (hr : meth.sig.returnType = (Option.some FieldType.int)) : ∀ lv st M, BX12_count_70 (Gd p l e (rmD 2) s m args below meth c 2 D ca ad A 0 0 (MQ below (QC D ca ad A Q) args s 0 0 A)) Q lv st M → Gd p l e (rmD 2) s m args below meth c 2 D ca ad A 0 0 (MQ below (QC D ca ad A Q) args s 0 0 A) 70 lv st M :=
  (sd_aload_n hX dX12_count_70 rfl (sd_geti hX fl_727 (by decide) dX12_count_71 (sd_iret hX hr dX12_count_74)))
def BX12_count_75 (G : Nat → KT) (Q : Option mV → mM → Prop) : KT := (s_aload 0 (s_geti 12 5 (s_iret Q)))
set_option maxRecDepth 4000 in
theorem bsX12_count_75 {p : Program} {l : Launch} {e : Env} {s : State} {m : MethodId} {args : Array Value} {below : List Frame} {meth : Method} {c : Code} {D : va_G} {ca : Nat → ClassId} {ad : Nat → Nat} {A : Nat → Prop} {Q : Option mV → mM → Prop} (hX : CX p s m args meth c 2 cX12_count "FairBlocksModel" D ca ad A) (hr : meth.sig.returnType = (Option.some FieldType.int)) : ∀ lv st M, BX12_count_75 (Gd p l e (rmD 2) s m args below meth c 2 D ca ad A 0 0 (MQ below (QC D ca ad A Q) args s 0 0 A)) Q lv st M → Gd p l e (rmD 2) s m args below meth c 2 D ca ad A 0 0 (MQ below (QC D ca ad A Q) args s 0 0 A) 75 lv st M :=
  (sd_aload_n hX dX12_count_75 rfl (sd_geti hX fl_728 (by decide) dX12_count_76 (sd_iret hX hr dX12_count_79)))
def BX12_count_80 (G : Nat → KT) (Q : Option mV → mM → Prop) : KT := (s_aload 0 (s_getr 12 13 (fun _ => 165) (s_iconst (50) (s_iald (s_iret Q)))))
set_option maxRecDepth 4000 in
theorem bsX12_count_80 {p : Program} {l : Launch} {e : Env} {s : State} {m : MethodId} {args : Array Value} {below : List Frame} {meth : Method} {c : Code} {D : va_G} {ca : Nat → ClassId} {ad : Nat → Nat} {A : Nat → Prop} {Q : Option mV → mM → Prop} (hX : CX p s m args meth c 2 cX12_count "FairBlocksModel" D ca ad A) (hr : meth.sig.returnType = (Option.some FieldType.int)) : ∀ lv st M, BX12_count_80 (Gd p l e (rmD 2) s m args below meth c 2 D ca ad A 0 0 (MQ below (QC D ca ad A Q) args s 0 0 A)) Q lv st M → Gd p l e (rmD 2) s m args below meth c 2 D ca ad A 0 0 (MQ below (QC D ca ad A Q) args s 0 0 A) 80 lv st M :=
  (sd_aload_n hX dX12_count_80 rfl (sd_getr hX fl_739 (fun _ => rfl) (fun _ _ _ => by decide +kernel) dX12_count_81 (sd_bipush hX dX12_count_84 rfl (sd_iald hX dX12_count_86 (sd_iret hX hr dX12_count_87)))))
def BX12_count_88 (G : Nat → KT) (Q : Option mV → mM → Prop) : KT := (s_aload 0 (s_getr 12 13 (fun _ => 165) (s_iconst (51) (s_iald (s_iret Q)))))
set_option maxRecDepth 4000 in
theorem bsX12_count_88 {p : Program} {l : Launch} {e : Env} {s : State} {m : MethodId} {args : Array Value} {below : List Frame} {meth : Method} {c : Code} {D : va_G} {ca : Nat → ClassId} {ad : Nat → Nat} {A : Nat → Prop} {Q : Option mV → mM → Prop} (hX : CX p s m args meth c 2 cX12_count "FairBlocksModel" D ca ad A) (hr : meth.sig.returnType = (Option.some FieldType.int)) : ∀ lv st M, BX12_count_88 (Gd p l e (rmD 2) s m args below meth c 2 D ca ad A 0 0 (MQ below (QC D ca ad A Q) args s 0 0 A)) Q lv st M → Gd p l e (rmD 2) s m args below meth c 2 D ca ad A 0 0 (MQ below (QC D ca ad A Q) args s 0 0 A) 88 lv st M :=
  (sd_aload_n hX dX12_count_88 rfl (sd_getr hX fl_739 (fun _ => rfl) (fun _ _ _ => by decide +kernel) dX12_count_89 (sd_bipush hX dX12_count_92 rfl (sd_iald hX dX12_count_94 (sd_iret hX hr dX12_count_95)))))
def BX12_count_96 (G : Nat → KT) (Q : Option mV → mM → Prop) : KT := (s_aload 0 (s_callV 12 0 pre_X12_offOnes fn_X12_offOnes (s_iret Q)))
set_option maxRecDepth 4000 in
theorem bsX12_count_96 {p : Program} {l : Launch} {e : Env} {s : State} {m : MethodId} {args : Array Value} {below : List Frame} {meth : Method} {c : Code} {D : va_G} {ca : Nat → ClassId} {ad : Nat → Nat} {A : Nat → Prop} {Q : Option mV → mM → Prop} (hX : CX p s m args meth c 2 cX12_count "FairBlocksModel" D ca ad A) (hr : meth.sig.returnType = (Option.some FieldType.int)) : ∀ lv st M, BX12_count_96 (Gd p l e (rmD 2) s m args below meth c 2 D ca ad A 0 0 (MQ below (QC D ca ad A Q) args s 0 0 A)) Q lv st M → Gd p l e (rmD 2) s m args below meth c 2 D ca ad A 0 0 (MQ below (QC D ca ad A Q) args s 0 0 A) 96 lv st M :=
  (sd_aload_n hX dX12_count_96 rfl (sd_callV hX (kd := 12) rfl (by decide) (ct_X12_offOnes l) mk_X12_offOnes w_1001 ⟨⟨by decide, by decide⟩, by decide, by decide⟩ dX12_count_97 (sd_iret hX hr dX12_count_100)))
def BX12_count_101 (G : Nat → KT) (Q : Option mV → mM → Prop) : KT := (s_aload 0 (s_callV 12 0 pre_X12_waiting fn_X12_waiting (s_iret Q)))
set_option maxRecDepth 4000 in
theorem bsX12_count_101 {p : Program} {l : Launch} {e : Env} {s : State} {m : MethodId} {args : Array Value} {below : List Frame} {meth : Method} {c : Code} {D : va_G} {ca : Nat → ClassId} {ad : Nat → Nat} {A : Nat → Prop} {Q : Option mV → mM → Prop} (hX : CX p s m args meth c 2 cX12_count "FairBlocksModel" D ca ad A) (hr : meth.sig.returnType = (Option.some FieldType.int)) : ∀ lv st M, BX12_count_101 (Gd p l e (rmD 2) s m args below meth c 2 D ca ad A 0 0 (MQ below (QC D ca ad A Q) args s 0 0 A)) Q lv st M → Gd p l e (rmD 2) s m args below meth c 2 D ca ad A 0 0 (MQ below (QC D ca ad A Q) args s 0 0 A) 101 lv st M :=
  (sd_aload_n hX dX12_count_101 rfl (sd_callV hX (kd := 12) rfl (by decide) (ct_X12_waiting l) mk_X12_waiting w_1055 ⟨⟨by decide, by decide⟩, by decide, by decide⟩ dX12_count_102 (sd_iret hX hr dX12_count_105)))
def BX12_count_106 (G : Nat → KT) (Q : Option mV → mM → Prop) : KT := (s_aload 0 (s_geti 12 20 (s_iret Q)))
set_option maxRecDepth 4000 in
theorem bsX12_count_106 {p : Program} {l : Launch} {e : Env} {s : State} {m : MethodId} {args : Array Value} {below : List Frame} {meth : Method} {c : Code} {D : va_G} {ca : Nat → ClassId} {ad : Nat → Nat} {A : Nat → Prop} {Q : Option mV → mM → Prop} (hX : CX p s m args meth c 2 cX12_count "FairBlocksModel" D ca ad A) (hr : meth.sig.returnType = (Option.some FieldType.int)) : ∀ lv st M, BX12_count_106 (Gd p l e (rmD 2) s m args below meth c 2 D ca ad A 0 0 (MQ below (QC D ca ad A Q) args s 0 0 A)) Q lv st M → Gd p l e (rmD 2) s m args below meth c 2 D ca ad A 0 0 (MQ below (QC D ca ad A Q) args s 0 0 A) 106 lv st M :=
  (sd_aload_n hX dX12_count_106 rfl (sd_geti hX fl_743 (by decide) dX12_count_107 (sd_iret hX hr dX12_count_110)))
def BX12_count_111 (G : Nat → KT) (Q : Option mV → mM → Prop) : KT := (s_aload 0 (s_geti 12 23 (s_iret Q)))
set_option maxRecDepth 4000 in
theorem bsX12_count_111 {p : Program} {l : Launch} {e : Env} {s : State} {m : MethodId} {args : Array Value} {below : List Frame} {meth : Method} {c : Code} {D : va_G} {ca : Nat → ClassId} {ad : Nat → Nat} {A : Nat → Prop} {Q : Option mV → mM → Prop} (hX : CX p s m args meth c 2 cX12_count "FairBlocksModel" D ca ad A) (hr : meth.sig.returnType = (Option.some FieldType.int)) : ∀ lv st M, BX12_count_111 (Gd p l e (rmD 2) s m args below meth c 2 D ca ad A 0 0 (MQ below (QC D ca ad A Q) args s 0 0 A)) Q lv st M → Gd p l e (rmD 2) s m args below meth c 2 D ca ad A 0 0 (MQ below (QC D ca ad A Q) args s 0 0 A) 111 lv st M :=
  (sd_aload_n hX dX12_count_111 rfl (sd_geti hX fl_746 (by decide) dX12_count_112 (sd_iret hX hr dX12_count_115)))
def BX12_count_116 (G : Nat → KT) (Q : Option mV → mM → Prop) : KT := (s_iconst (-2) (s_iret Q))
set_option maxRecDepth 4000 in
theorem bsX12_count_116 {p : Program} {l : Launch} {e : Env} {s : State} {m : MethodId} {args : Array Value} {below : List Frame} {meth : Method} {c : Code} {D : va_G} {ca : Nat → ClassId} {ad : Nat → Nat} {A : Nat → Prop} {Q : Option mV → mM → Prop} (hX : CX p s m args meth c 2 cX12_count "FairBlocksModel" D ca ad A) (hr : meth.sig.returnType = (Option.some FieldType.int)) : ∀ lv st M, BX12_count_116 (Gd p l e (rmD 2) s m args below meth c 2 D ca ad A 0 0 (MQ below (QC D ca ad A Q) args s 0 0 A)) Q lv st M → Gd p l e (rmD 2) s m args below meth c 2 D ca ad A 0 0 (MQ below (QC D ca ad A Q) args s 0 0 A) 116 lv st M :=
  (sd_bipush hX dX12_count_116 rfl (sd_iret hX hr dX12_count_118))
set_option maxHeartbeats 400000 in
theorem pf_X12_count (G : Nat → KT) (Q : Option mV → mM → Prop) (h0 : ∀ lv st M, BX12_count_0 G Q lv st M → G 0 lv st M) (h60 : ∀ lv st M, BX12_count_60 G Q lv st M → G 60 lv st M) (h65 : ∀ lv st M, BX12_count_65 G Q lv st M → G 65 lv st M) (h70 : ∀ lv st M, BX12_count_70 G Q lv st M → G 70 lv st M) (h75 : ∀ lv st M, BX12_count_75 G Q lv st M → G 75 lv st M) (h80 : ∀ lv st M, BX12_count_80 G Q lv st M → G 80 lv st M) (h88 : ∀ lv st M, BX12_count_88 G Q lv st M → G 88 lv st M) (h96 : ∀ lv st M, BX12_count_96 G Q lv st M → G 96 lv st M) (h101 : ∀ lv st M, BX12_count_101 G Q lv st M → G 101 lv st M) (h106 : ∀ lv st M, BX12_count_106 G Q lv st M → G 106 lv st M) (h111 : ∀ lv st M, BX12_count_111 G Q lv st M → G 111 lv st M) (h116 : ∀ lv st M, BX12_count_116 G Q lv st M → G 116 lv st M) (as : List mV) (M : mM) (ho : ∀ v ∈ as, okV v) (hp : pre_X12_count as M) (hQ : Q (fn_X12_count as M).1 (fn_X12_count as M).2) : G 0 (inL as ++ List.replicate (2 - (inL as).length) none) [] M := by
  obtain ⟨c, w, rfl, hM⟩ := hp
  obtain rfl : c = 158 := k12 (ho (.inr (.inr (12, c))) (by simp))
  have hI := MI_0 hM
  simp only [fn_X12_count, m_count] at hQ
  (apply h0; simp only [BX12_count_0, s_mth, s_mab, s_at, s_iconst, s_lconst, s_iload, s_lload, s_aload, s_istore, s_lstore, s_astore, s_iinc, s_bin, s_binG, s_un, s_lbin, s_lbinG, s_lsh, s_lcmp, s_i2l, s_l2i, s_dup, s_dup2, s_pop, s_if, s_icmp, s_geti, s_getl, s_getr, s_puti, s_putz, s_putl, s_iald, s_zald, s_iast, s_zast, s_aaldS, s_aaldU, s_gets, s_tald, s_tsw, tsw, s_iret, s_zret, s_lret, s_aret, s_vret, s_callV, s_callS, c1, nl1, keepL, csum, pushR, inL, List.getD_cons_zero, List.getD_cons_succ, List.set_cons_zero, List.set_cons_succ, List.cons_append, List.nil_append, List.append_nil, List.replicate, List.length_cons, List.length_nil, List.take_succ_cons, List.take_zero, List.drop_succ_cons, List.drop_zero, List.reverse_cons, List.reverse_nil, true_and, and_true, forall_const, not_true_eq_false, not_false_eq_true, false_implies, true_implies, implies_true, one0, m10, Nat.reduceAdd, Nat.reduceSub, Nat.reduceLeDiff, Nat.zero_add, Nat.add_zero, fn_X12_offOnes, fn_X12_waiting])
  rw [show mset M 158 0 0 = m0 M from rfl]
  generalize m0 M = M0 at *
  refine ⟨fun h => ?_, fun h => ?_, fun h => ?_, fun h => ?_, fun h => ?_, fun h => ?_, fun h => ?_, fun h => ?_, fun h => ?_, fun h => ?_, fun h => ?_⟩
  · rw [if_pos h] at hQ
    (apply h116; simp only [BX12_count_116, s_mth, s_mab, s_at, s_iconst, s_lconst, s_iload, s_lload, s_aload, s_istore, s_lstore, s_astore, s_iinc, s_bin, s_binG, s_un, s_lbin, s_lbinG, s_lsh, s_lcmp, s_i2l, s_l2i, s_dup, s_dup2, s_pop, s_if, s_icmp, s_geti, s_getl, s_getr, s_puti, s_putz, s_putl, s_iald, s_zald, s_iast, s_zast, s_aaldS, s_aaldU, s_gets, s_tald, s_tsw, tsw, s_iret, s_zret, s_lret, s_aret, s_vret, s_callV, s_callS, c1, nl1, keepL, csum, pushR, inL, List.getD_cons_zero, List.getD_cons_succ, List.set_cons_zero, List.set_cons_succ, List.cons_append, List.nil_append, List.append_nil, List.replicate, List.length_cons, List.length_nil, List.take_succ_cons, List.take_zero, List.drop_succ_cons, List.drop_zero, List.reverse_cons, List.reverse_nil, true_and, and_true, forall_const, not_true_eq_false, not_false_eq_true, false_implies, true_implies, implies_true, one0, m10, Nat.reduceAdd, Nat.reduceSub, Nat.reduceLeDiff, Nat.zero_add, Nat.add_zero, fn_X12_offOnes, fn_X12_waiting])
    exact hQ
  · rw [if_neg (by omega), if_pos (by omega)] at hQ
    (apply h60; simp only [BX12_count_60, s_mth, s_mab, s_at, s_iconst, s_lconst, s_iload, s_lload, s_aload, s_istore, s_lstore, s_astore, s_iinc, s_bin, s_binG, s_un, s_lbin, s_lbinG, s_lsh, s_lcmp, s_i2l, s_l2i, s_dup, s_dup2, s_pop, s_if, s_icmp, s_geti, s_getl, s_getr, s_puti, s_putz, s_putl, s_iald, s_zald, s_iast, s_zast, s_aaldS, s_aaldU, s_gets, s_tald, s_tsw, tsw, s_iret, s_zret, s_lret, s_aret, s_vret, s_callV, s_callS, c1, nl1, keepL, csum, pushR, inL, List.getD_cons_zero, List.getD_cons_succ, List.set_cons_zero, List.set_cons_succ, List.cons_append, List.nil_append, List.append_nil, List.replicate, List.length_cons, List.length_nil, List.take_succ_cons, List.take_zero, List.drop_succ_cons, List.drop_zero, List.reverse_cons, List.reverse_nil, true_and, and_true, forall_const, not_true_eq_false, not_false_eq_true, false_implies, true_implies, implies_true, one0, m10, Nat.reduceAdd, Nat.reduceSub, Nat.reduceLeDiff, Nat.zero_add, Nat.add_zero, fn_X12_offOnes, fn_X12_waiting])
    exact hQ
  · rw [if_neg (by omega), if_neg (by omega), if_pos (by omega)] at hQ
    (apply h65; simp only [BX12_count_65, s_mth, s_mab, s_at, s_iconst, s_lconst, s_iload, s_lload, s_aload, s_istore, s_lstore, s_astore, s_iinc, s_bin, s_binG, s_un, s_lbin, s_lbinG, s_lsh, s_lcmp, s_i2l, s_l2i, s_dup, s_dup2, s_pop, s_if, s_icmp, s_geti, s_getl, s_getr, s_puti, s_putz, s_putl, s_iald, s_zald, s_iast, s_zast, s_aaldS, s_aaldU, s_gets, s_tald, s_tsw, tsw, s_iret, s_zret, s_lret, s_aret, s_vret, s_callV, s_callS, c1, nl1, keepL, csum, pushR, inL, List.getD_cons_zero, List.getD_cons_succ, List.set_cons_zero, List.set_cons_succ, List.cons_append, List.nil_append, List.append_nil, List.replicate, List.length_cons, List.length_nil, List.take_succ_cons, List.take_zero, List.drop_succ_cons, List.drop_zero, List.reverse_cons, List.reverse_nil, true_and, and_true, forall_const, not_true_eq_false, not_false_eq_true, false_implies, true_implies, implies_true, one0, m10, Nat.reduceAdd, Nat.reduceSub, Nat.reduceLeDiff, Nat.zero_add, Nat.add_zero, fn_X12_offOnes, fn_X12_waiting])
    exact hQ
  · rw [if_neg (by omega), if_neg (by omega), if_neg (by omega), if_pos (by omega)] at hQ
    (apply h70; simp only [BX12_count_70, s_mth, s_mab, s_at, s_iconst, s_lconst, s_iload, s_lload, s_aload, s_istore, s_lstore, s_astore, s_iinc, s_bin, s_binG, s_un, s_lbin, s_lbinG, s_lsh, s_lcmp, s_i2l, s_l2i, s_dup, s_dup2, s_pop, s_if, s_icmp, s_geti, s_getl, s_getr, s_puti, s_putz, s_putl, s_iald, s_zald, s_iast, s_zast, s_aaldS, s_aaldU, s_gets, s_tald, s_tsw, tsw, s_iret, s_zret, s_lret, s_aret, s_vret, s_callV, s_callS, c1, nl1, keepL, csum, pushR, inL, List.getD_cons_zero, List.getD_cons_succ, List.set_cons_zero, List.set_cons_succ, List.cons_append, List.nil_append, List.append_nil, List.replicate, List.length_cons, List.length_nil, List.take_succ_cons, List.take_zero, List.drop_succ_cons, List.drop_zero, List.reverse_cons, List.reverse_nil, true_and, and_true, forall_const, not_true_eq_false, not_false_eq_true, false_implies, true_implies, implies_true, one0, m10, Nat.reduceAdd, Nat.reduceSub, Nat.reduceLeDiff, Nat.zero_add, Nat.add_zero, fn_X12_offOnes, fn_X12_waiting])
    exact hQ
  · rw [if_neg (by omega), if_neg (by omega), if_neg (by omega), if_neg (by omega), if_pos (by omega)] at hQ
    (apply h75; simp only [BX12_count_75, s_mth, s_mab, s_at, s_iconst, s_lconst, s_iload, s_lload, s_aload, s_istore, s_lstore, s_astore, s_iinc, s_bin, s_binG, s_un, s_lbin, s_lbinG, s_lsh, s_lcmp, s_i2l, s_l2i, s_dup, s_dup2, s_pop, s_if, s_icmp, s_geti, s_getl, s_getr, s_puti, s_putz, s_putl, s_iald, s_zald, s_iast, s_zast, s_aaldS, s_aaldU, s_gets, s_tald, s_tsw, tsw, s_iret, s_zret, s_lret, s_aret, s_vret, s_callV, s_callS, c1, nl1, keepL, csum, pushR, inL, List.getD_cons_zero, List.getD_cons_succ, List.set_cons_zero, List.set_cons_succ, List.cons_append, List.nil_append, List.append_nil, List.replicate, List.length_cons, List.length_nil, List.take_succ_cons, List.take_zero, List.drop_succ_cons, List.drop_zero, List.reverse_cons, List.reverse_nil, true_and, and_true, forall_const, not_true_eq_false, not_false_eq_true, false_implies, true_implies, implies_true, one0, m10, Nat.reduceAdd, Nat.reduceSub, Nat.reduceLeDiff, Nat.zero_add, Nat.add_zero, fn_X12_offOnes, fn_X12_waiting])
    exact hQ
  · rw [if_neg (by omega), if_neg (by omega), if_neg (by omega), if_neg (by omega), if_neg (by omega), if_pos (by omega)] at hQ
    (apply h80; simp only [BX12_count_80, s_mth, s_mab, s_at, s_iconst, s_lconst, s_iload, s_lload, s_aload, s_istore, s_lstore, s_astore, s_iinc, s_bin, s_binG, s_un, s_lbin, s_lbinG, s_lsh, s_lcmp, s_i2l, s_l2i, s_dup, s_dup2, s_pop, s_if, s_icmp, s_geti, s_getl, s_getr, s_puti, s_putz, s_putl, s_iald, s_zald, s_iast, s_zast, s_aaldS, s_aaldU, s_gets, s_tald, s_tsw, tsw, s_iret, s_zret, s_lret, s_aret, s_vret, s_callV, s_callS, c1, nl1, keepL, csum, pushR, inL, List.getD_cons_zero, List.getD_cons_succ, List.set_cons_zero, List.set_cons_succ, List.cons_append, List.nil_append, List.append_nil, List.replicate, List.length_cons, List.length_nil, List.take_succ_cons, List.take_zero, List.drop_succ_cons, List.drop_zero, List.reverse_cons, List.reverse_nil, true_and, and_true, forall_const, not_true_eq_false, not_false_eq_true, false_implies, true_implies, implies_true, one0, m10, Nat.reduceAdd, Nat.reduceSub, Nat.reduceLeDiff, Nat.zero_add, Nat.add_zero, fn_X12_offOnes, fn_X12_waiting])
    simp only [lM, x50']
    exact ⟨v50', hQ⟩
  · rw [if_neg (by omega), if_neg (by omega), if_neg (by omega), if_neg (by omega), if_neg (by omega), if_neg (by omega), if_pos (by omega)] at hQ
    (apply h88; simp only [BX12_count_88, s_mth, s_mab, s_at, s_iconst, s_lconst, s_iload, s_lload, s_aload, s_istore, s_lstore, s_astore, s_iinc, s_bin, s_binG, s_un, s_lbin, s_lbinG, s_lsh, s_lcmp, s_i2l, s_l2i, s_dup, s_dup2, s_pop, s_if, s_icmp, s_geti, s_getl, s_getr, s_puti, s_putz, s_putl, s_iald, s_zald, s_iast, s_zast, s_aaldS, s_aaldU, s_gets, s_tald, s_tsw, tsw, s_iret, s_zret, s_lret, s_aret, s_vret, s_callV, s_callS, c1, nl1, keepL, csum, pushR, inL, List.getD_cons_zero, List.getD_cons_succ, List.set_cons_zero, List.set_cons_succ, List.cons_append, List.nil_append, List.append_nil, List.replicate, List.length_cons, List.length_nil, List.take_succ_cons, List.take_zero, List.drop_succ_cons, List.drop_zero, List.reverse_cons, List.reverse_nil, true_and, and_true, forall_const, not_true_eq_false, not_false_eq_true, false_implies, true_implies, implies_true, one0, m10, Nat.reduceAdd, Nat.reduceSub, Nat.reduceLeDiff, Nat.zero_add, Nat.add_zero, fn_X12_offOnes, fn_X12_waiting])
    simp only [lM, x51']
    exact ⟨v51', hQ⟩
  · rw [if_neg (by omega), if_neg (by omega), if_neg (by omega), if_neg (by omega), if_neg (by omega), if_neg (by omega), if_neg (by omega), if_pos (by omega)] at hQ
    (apply h96; simp only [BX12_count_96, s_mth, s_mab, s_at, s_iconst, s_lconst, s_iload, s_lload, s_aload, s_istore, s_lstore, s_astore, s_iinc, s_bin, s_binG, s_un, s_lbin, s_lbinG, s_lsh, s_lcmp, s_i2l, s_l2i, s_dup, s_dup2, s_pop, s_if, s_icmp, s_geti, s_getl, s_getr, s_puti, s_putz, s_putl, s_iald, s_zald, s_iast, s_zast, s_aaldS, s_aaldU, s_gets, s_tald, s_tsw, tsw, s_iret, s_zret, s_lret, s_aret, s_vret, s_callV, s_callS, c1, nl1, keepL, csum, pushR, inL, List.getD_cons_zero, List.getD_cons_succ, List.set_cons_zero, List.set_cons_succ, List.cons_append, List.nil_append, List.append_nil, List.replicate, List.length_cons, List.length_nil, List.take_succ_cons, List.take_zero, List.drop_succ_cons, List.drop_zero, List.reverse_cons, List.reverse_nil, true_and, and_true, forall_const, not_true_eq_false, not_false_eq_true, false_implies, true_implies, implies_true, one0, m10, Nat.reduceAdd, Nat.reduceSub, Nat.reduceLeDiff, Nat.zero_add, Nat.add_zero, fn_X12_offOnes, fn_X12_waiting])
    exact ⟨⟨_, rfl, hI.1.1⟩, hQ⟩
  · rw [if_neg (by omega), if_neg (by omega), if_neg (by omega), if_neg (by omega), if_neg (by omega), if_neg (by omega), if_neg (by omega), if_neg (by omega), if_pos (by omega)] at hQ
    (apply h101; simp only [BX12_count_101, s_mth, s_mab, s_at, s_iconst, s_lconst, s_iload, s_lload, s_aload, s_istore, s_lstore, s_astore, s_iinc, s_bin, s_binG, s_un, s_lbin, s_lbinG, s_lsh, s_lcmp, s_i2l, s_l2i, s_dup, s_dup2, s_pop, s_if, s_icmp, s_geti, s_getl, s_getr, s_puti, s_putz, s_putl, s_iald, s_zald, s_iast, s_zast, s_aaldS, s_aaldU, s_gets, s_tald, s_tsw, tsw, s_iret, s_zret, s_lret, s_aret, s_vret, s_callV, s_callS, c1, nl1, keepL, csum, pushR, inL, List.getD_cons_zero, List.getD_cons_succ, List.set_cons_zero, List.set_cons_succ, List.cons_append, List.nil_append, List.append_nil, List.replicate, List.length_cons, List.length_nil, List.take_succ_cons, List.take_zero, List.drop_succ_cons, List.drop_zero, List.reverse_cons, List.reverse_nil, true_and, and_true, forall_const, not_true_eq_false, not_false_eq_true, false_implies, true_implies, implies_true, one0, m10, Nat.reduceAdd, Nat.reduceSub, Nat.reduceLeDiff, Nat.zero_add, Nat.add_zero, fn_X12_offOnes, fn_X12_waiting])
    exact ⟨⟨_, rfl, hI.1.1⟩, hQ⟩
  · rw [if_neg (by omega), if_neg (by omega), if_neg (by omega), if_neg (by omega), if_neg (by omega), if_neg (by omega), if_neg (by omega), if_neg (by omega), if_neg (by omega), if_pos (by omega)] at hQ
    (apply h106; simp only [BX12_count_106, s_mth, s_mab, s_at, s_iconst, s_lconst, s_iload, s_lload, s_aload, s_istore, s_lstore, s_astore, s_iinc, s_bin, s_binG, s_un, s_lbin, s_lbinG, s_lsh, s_lcmp, s_i2l, s_l2i, s_dup, s_dup2, s_pop, s_if, s_icmp, s_geti, s_getl, s_getr, s_puti, s_putz, s_putl, s_iald, s_zald, s_iast, s_zast, s_aaldS, s_aaldU, s_gets, s_tald, s_tsw, tsw, s_iret, s_zret, s_lret, s_aret, s_vret, s_callV, s_callS, c1, nl1, keepL, csum, pushR, inL, List.getD_cons_zero, List.getD_cons_succ, List.set_cons_zero, List.set_cons_succ, List.cons_append, List.nil_append, List.append_nil, List.replicate, List.length_cons, List.length_nil, List.take_succ_cons, List.take_zero, List.drop_succ_cons, List.drop_zero, List.reverse_cons, List.reverse_nil, true_and, and_true, forall_const, not_true_eq_false, not_false_eq_true, false_implies, true_implies, implies_true, one0, m10, Nat.reduceAdd, Nat.reduceSub, Nat.reduceLeDiff, Nat.zero_add, Nat.add_zero, fn_X12_offOnes, fn_X12_waiting])
    exact hQ
  · rw [if_neg (by omega), if_neg (by omega), if_neg (by omega), if_neg (by omega), if_neg (by omega), if_neg (by omega), if_neg (by omega), if_neg (by omega), if_neg (by omega), if_neg (by omega)] at hQ
    (apply h111; simp only [BX12_count_111, s_mth, s_mab, s_at, s_iconst, s_lconst, s_iload, s_lload, s_aload, s_istore, s_lstore, s_astore, s_iinc, s_bin, s_binG, s_un, s_lbin, s_lbinG, s_lsh, s_lcmp, s_i2l, s_l2i, s_dup, s_dup2, s_pop, s_if, s_icmp, s_geti, s_getl, s_getr, s_puti, s_putz, s_putl, s_iald, s_zald, s_iast, s_zast, s_aaldS, s_aaldU, s_gets, s_tald, s_tsw, tsw, s_iret, s_zret, s_lret, s_aret, s_vret, s_callV, s_callS, c1, nl1, keepL, csum, pushR, inL, List.getD_cons_zero, List.getD_cons_succ, List.set_cons_zero, List.set_cons_succ, List.cons_append, List.nil_append, List.append_nil, List.replicate, List.length_cons, List.length_nil, List.take_succ_cons, List.take_zero, List.drop_succ_cons, List.drop_zero, List.reverse_cons, List.reverse_nil, true_and, and_true, forall_const, not_true_eq_false, not_false_eq_true, false_implies, true_implies, implies_true, one0, m10, Nat.reduceAdd, Nat.reduceSub, Nat.reduceLeDiff, Nat.zero_add, Nat.add_zero, fn_X12_offOnes, fn_X12_waiting])
    exact hQ
theorem ct_X12_count (l : Launch) : Con l yX12_count cX12_count 2 (Option.some FieldType.int) 2 pre_X12_count fn_X12_count := con_of (by decide +kernel) ok_X12_count len_X12_count (fun p e s m args below meth c D ca ad A as M hX hr hp ho => pf_X12_count _ _ (bsX12_count_0 hX hr) (bsX12_count_60 hX hr) (bsX12_count_65 hX hr) (bsX12_count_70 hX hr) (bsX12_count_75 hX hr) (bsX12_count_80 hX hr) (bsX12_count_88 hX hr) (bsX12_count_96 hX hr) (bsX12_count_101 hX hr) (bsX12_count_106 hX hr) (bsX12_count_111 hX hr) (bsX12_count_116 hX hr) as M ho hp ⟨rfl, rfl⟩)
