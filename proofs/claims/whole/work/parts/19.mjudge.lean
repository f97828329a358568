/-! the model: best, judge -/
theorem f_sos {r b : Nat} : ∀ (n i : Nat) (t : Int32) (M : mM), PM M → PG M r (n + b) → PM (itr (soS r) i n (t, M)).2 ∧ (∀ a, a ≠ r → a ≠ 176 → a ≠ 177 → (itr (soS r) i n (t, M)).2.1 a = M.1 a) ∧ (itr (soS r) i n (t, M)).2.2 = M.2 ∧ (itr (soS r) i n (t, M)).2.1 r 50 = M.1 r 50 ∧ PG (itr (soS r) i n (t, M)).2 r b
  | 0, i, t, M, hP, hG => ⟨hP, fun _ _ _ _ => rfl, rfl, rfl, by rw [Nat.zero_add] at hG; exact hG⟩
  | n + 1, i, t, M, hP, hG => by
    have hG' : PG M r (n + b + 1) := by rw [show n + b + 1 = n + 1 + b by omega]; exact hG
    have hs := PG_so (f := 0) hP hG'
    have hf := SM_so (f := 0) ⟨hP, PG_0 hG⟩
    have h := f_sos n (i + 1) (t + (so M r 0).1) (so M r 0).2 hs.1 hs.2
    refine ⟨h.1, fun a h1 h2 h3 => ?_, ?_, ?_, h.2.2.2.2⟩
    · exact (h.2.1 a h1 h2 h3).trans (hf.1 a h1 h2 h3)
    · exact h.2.2.1.trans hf.2.2.2
    · exact h.2.2.2.1.trans hf.2.1
theorem PG_n {M M' : mM} {r b : Nat} (h : PG M r b) (e : M'.1 r 51 = M.1 r 51) : PG M' r b := by
  obtain ⟨h1, c, hc, e1⟩ := h
  exact ⟨h1, c, hc, by rw [e]; exact e1⟩
def bM1 (M : mM) (U w : Nat) : mM := mset (lay M) 166 (10 * U + 1) (nI w)
def bM2 (M : mM) (U w : Nat) : mM := (sos (bM1 M U w) 166 30).2
theorem bM2_f {M : mM} {U w : Nat} (hU : U < 5) (hP : PM M) (hG : PG M 165 1000) : (PM (bM1 M U w) ∧ PG (bM1 M U w) 166 30) ∧ PM (bM2 M U w) ∧ PG (bM2 M U w) 165 1000 ∧ nM (bM2 M U w) = nM M := by
  have h1 : PM (bM1 M U w) ∧ PG (bM1 M U w) 166 30 := ⟨PM_mset (PM_lay hP) (by decide) (by decide), PG_mset (PG_le (PG_lay hG) (by decide)) (by omega)⟩
  have h2 := f_sos (r := 166) (b := 0) 30 0 0 (bM1 M U w) h1.1 h1.2
  have e : ∀ a, a ≠ 166 → a ≠ 176 → a ≠ 177 → (bM2 M U w).1 a = M.1 a := fun a g1 g2 g3 => (h2.2.1 a g1 g2 g3).trans (by unfold bM1; rw [mset_n g1, lay_n g1])
  refine ⟨h1, h2.1, PG_n hG (by rw [e 165 (by decide) (by decide) (by decide)]), ?_⟩
  unfold nM
  rw [e 158 (by decide) (by decide) (by decide)]
def lsM1 (M : mM) (u : Nat) : Int32 := M.1 166 (10 * u + 9) - M.1 165 (10 * u + 9)
def lsMS (M : mM) (u : Nat) (l : Int32) : Int32 := if nI u = 0 then lsM1 M u else if l ≤ lsM1 M u then l else lsM1 M u
def lsM (M : mM) : Int32 := itr (lsMS M) 0 (nM M) (-9)
def bsF (w : Nat) (l : Int32) (q : Int32 × Int32 × mM) (M : mM) : Int32 × Int32 × mM := (if l ≤ q.2.1 then q.1 else nI w, if l ≤ q.2.1 then q.2.1 else l, M)
def bsMS (U w : Nat) (q : Int32 × Int32 × mM) : Int32 × Int32 × mM := bsF w (lsM (bM2 q.2.2 U w)) q (bM2 q.2.2 U w)
def bs (M : mM) (U : Nat) : Int32 × Int32 × mM := itr (bsMS U) 1 9 (1, -1, M)
def m_best (M : mM) (u : Int32) : Int32 × mM := if nu M u = 0 then ((bs M u.toNatClampNeg).1, (bs M u.toNatClampNeg).2.2) else (-1, M)
def pre_X12_best (as : List mV) (M : mM) : Prop := ∃ c u, as = [.inr (.inr (12, c)), .inl u] ∧ MI M
def fn_X12_best : List mV → mM → Option mV × mM
  | [.inr (.inr (_, c)), .inl u], M => (some (.inl (m_best (m0 M) u).1), (m_best (m0 M) u).2)
  | _, M => (none, M)
theorem ok_X12_best (as : List mV) (M : mM) (h : pre_X12_best as M) (_ : ∀ v ∈ as, okV v) : okR (fn_X12_best as M).1 := by
  obtain ⟨c, u, rfl, -⟩ := h
  first | trivial | exact (by decide +kernel : kof 14 = 8)
theorem len_X12_best (as : List mV) (M : mM) (h : pre_X12_best as M) : (inL as).length ≤ 8 := by
  obtain ⟨c, u, rfl, -⟩ := h
  exact Nat.le_of_ble_eq_true rfl


theorem dX12_best_0 : decode cX12_best 0 = .ok (.aload_n 0, 1) := by decide +kernel
theorem dX12_best_1 : decode cX12_best 1 = .ok (.iconst 0, 1) := by decide +kernel
theorem dX12_best_2 : decode cX12_best 2 = .ok (.putfield 1, 3) := by decide +kernel
theorem dX12_best_5 : decode cX12_best 5 = .ok (.aload_n 0, 1) := by decide +kernel
theorem dX12_best_6 : decode cX12_best 6 = .ok (.iload_n 1, 1) := by decide +kernel
theorem dX12_best_7 : decode cX12_best 7 = .ok (.invokevirtual 156, 3) := by decide +kernel
theorem dX12_best_10 : decode cX12_best 10 = .ok (.ifCond .eq 5, 3) := by decide +kernel
theorem dX12_best_13 : decode cX12_best 13 = .ok (.iconst (-1), 1) := by decide +kernel
theorem dX12_best_14 : decode cX12_best 14 = .ok (.ireturn, 1) := by decide +kernel
theorem dX12_best_15 : decode cX12_best 15 = .ok (.iconst 1, 1) := by decide +kernel
theorem dX12_best_16 : decode cX12_best 16 = .ok (.istore_n 2, 1) := by decide +kernel
theorem dX12_best_17 : decode cX12_best 17 = .ok (.iconst (-1), 1) := by decide +kernel
theorem dX12_best_18 : decode cX12_best 18 = .ok (.istore_n 3, 1) := by decide +kernel
theorem dX12_best_19 : decode cX12_best 19 = .ok (.iconst 1, 1) := by decide +kernel
theorem dX12_best_20 : decode cX12_best 20 = .ok (.istore 4, 2) := by decide +kernel
theorem dX12_best_22 : decode cX12_best 22 = .ok (.iload 4, 2) := by decide +kernel
theorem dX12_best_24 : decode cX12_best 24 = .ok (.bipush 10, 2) := by decide +kernel
theorem dX12_best_26 : decode cX12_best 26 = .ok (.if_icmp .ge 135, 3) := by decide +kernel
theorem dX12_best_29 : decode cX12_best 29 = .ok (.aload_n 0, 1) := by decide +kernel
theorem dX12_best_30 : decode cX12_best 30 = .ok (.invokevirtual 176, 3) := by decide +kernel
theorem dX12_best_33 : decode cX12_best 33 = .ok (.aload_n 0, 1) := by decide +kernel
theorem dX12_best_34 : decode cX12_best 34 = .ok (.getfield 7, 3) := by decide +kernel
theorem dX12_best_37 : decode cX12_best 37 = .ok (.bipush 10, 2) := by decide +kernel
theorem dX12_best_39 : decode cX12_best 39 = .ok (.iload_n 1, 1) := by decide +kernel
theorem dX12_best_40 : decode cX12_best 40 = .ok (.imul, 1) := by decide +kernel
theorem dX12_best_41 : decode cX12_best 41 = .ok (.iconst 1, 1) := by decide +kernel
theorem dX12_best_42 : decode cX12_best 42 = .ok (.iadd, 1) := by decide +kernel
theorem dX12_best_43 : decode cX12_best 43 = .ok (.iload 4, 2) := by decide +kernel
theorem dX12_best_45 : decode cX12_best 45 = .ok (.iastore, 1) := by decide +kernel
theorem dX12_best_46 : decode cX12_best 46 = .ok (.aload_n 0, 1) := by decide +kernel
theorem dX12_best_47 : decode cX12_best 47 = .ok (.aload_n 0, 1) := by decide +kernel
theorem dX12_best_48 : decode cX12_best 48 = .ok (.getfield 7, 3) := by decide +kernel
theorem dX12_best_51 : decode cX12_best 51 = .ok (.bipush 30, 2) := by decide +kernel
theorem dX12_best_53 : decode cX12_best 53 = .ok (.invokevirtual 167, 3) := by decide +kernel
theorem dX12_best_56 : decode cX12_best 56 = .ok (.pop, 1) := by decide +kernel
theorem dX12_best_57 : decode cX12_best 57 = .ok (.bipush (-9), 2) := by decide +kernel
theorem dX12_best_59 : decode cX12_best 59 = .ok (.istore 5, 2) := by decide +kernel
theorem dX12_best_61 : decode cX12_best 61 = .ok (.iconst 0, 1) := by decide +kernel
theorem dX12_best_62 : decode cX12_best 62 = .ok (.istore 6, 2) := by decide +kernel
theorem dX12_best_64 : decode cX12_best 64 = .ok (.iload 6, 2) := by decide +kernel
theorem dX12_best_66 : decode cX12_best 66 = .ok (.aload_n 0, 1) := by decide +kernel
theorem dX12_best_67 : decode cX12_best 67 = .ok (.getfield 14, 3) := by decide +kernel
theorem dX12_best_70 : decode cX12_best 70 = .ok (.if_icmp .ge 59, 3) := by decide +kernel
theorem dX12_best_73 : decode cX12_best 73 = .ok (.aload_n 0, 1) := by decide +kernel
theorem dX12_best_74 : decode cX12_best 74 = .ok (.getfield 7, 3) := by decide +kernel
theorem dX12_best_77 : decode cX12_best 77 = .ok (.bipush 10, 2) := by decide +kernel
theorem dX12_best_79 : decode cX12_best 79 = .ok (.iload 6, 2) := by decide +kernel
theorem dX12_best_81 : decode cX12_best 81 = .ok (.imul, 1) := by decide +kernel
theorem dX12_best_82 : decode cX12_best 82 = .ok (.bipush 9, 2) := by decide +kernel
theorem dX12_best_84 : decode cX12_best 84 = .ok (.iadd, 1) := by decide +kernel
theorem dX12_best_85 : decode cX12_best 85 = .ok (.iaload, 1) := by decide +kernel
theorem dX12_best_86 : decode cX12_best 86 = .ok (.aload_n 0, 1) := by decide +kernel
theorem dX12_best_87 : decode cX12_best 87 = .ok (.getfield 11, 3) := by decide +kernel
theorem dX12_best_90 : decode cX12_best 90 = .ok (.bipush 10, 2) := by decide +kernel
theorem dX12_best_92 : decode cX12_best 92 = .ok (.iload 6, 2) := by decide +kernel
theorem dX12_best_94 : decode cX12_best 94 = .ok (.imul, 1) := by decide +kernel
theorem dX12_best_95 : decode cX12_best 95 = .ok (.bipush 9, 2) := by decide +kernel
theorem dX12_best_97 : decode cX12_best 97 = .ok (.iadd, 1) := by decide +kernel
theorem dX12_best_98 : decode cX12_best 98 = .ok (.iaload, 1) := by decide +kernel
theorem dX12_best_99 : decode cX12_best 99 = .ok (.isub, 1) := by decide +kernel
theorem dX12_best_100 : decode cX12_best 100 = .ok (.istore 7, 2) := by decide +kernel
theorem dX12_best_102 : decode cX12_best 102 = .ok (.iload 6, 2) := by decide +kernel
theorem dX12_best_104 : decode cX12_best 104 = .ok (.ifCond .eq 10, 3) := by decide +kernel
theorem dX12_best_107 : decode cX12_best 107 = .ok (.iload 7, 2) := by decide +kernel
theorem dX12_best_109 : decode cX12_best 109 = .ok (.iload 5, 2) := by decide +kernel
theorem dX12_best_111 : decode cX12_best 111 = .ok (.if_icmp .ge 8, 3) := by decide +kernel
theorem dX12_best_114 : decode cX12_best 114 = .ok (.iload 7, 2) := by decide +kernel
theorem dX12_best_116 : decode cX12_best 116 = .ok (.goto 5, 3) := by decide +kernel
theorem dX12_best_119 : decode cX12_best 119 = .ok (.iload 5, 2) := by decide +kernel
theorem dX12_best_121 : decode cX12_best 121 = .ok (.istore 5, 2) := by decide +kernel
theorem dX12_best_123 : decode cX12_best 123 = .ok (.iinc 6 1, 3) := by decide +kernel
theorem dX12_best_126 : decode cX12_best 126 = .ok (.goto (-62), 3) := by decide +kernel
theorem dX12_best_129 : decode cX12_best 129 = .ok (.iload 5, 2) := by decide +kernel
theorem dX12_best_131 : decode cX12_best 131 = .ok (.iload_n 3, 1) := by decide +kernel
theorem dX12_best_132 : decode cX12_best 132 = .ok (.if_icmp .le 8, 3) := by decide +kernel
theorem dX12_best_135 : decode cX12_best 135 = .ok (.iload 4, 2) := by decide +kernel
theorem dX12_best_137 : decode cX12_best 137 = .ok (.goto 4, 3) := by decide +kernel
theorem dX12_best_140 : decode cX12_best 140 = .ok (.iload_n 2, 1) := by decide +kernel
theorem dX12_best_141 : decode cX12_best 141 = .ok (.istore_n 2, 1) := by decide +kernel
theorem dX12_best_142 : decode cX12_best 142 = .ok (.iload 5, 2) := by decide +kernel
theorem dX12_best_144 : decode cX12_best 144 = .ok (.iload_n 3, 1) := by decide +kernel
theorem dX12_best_145 : decode cX12_best 145 = .ok (.if_icmp .le 8, 3) := by decide +kernel
theorem dX12_best_148 : decode cX12_best 148 = .ok (.iload 5, 2) := by decide +kernel
theorem dX12_best_150 : decode cX12_best 150 = .ok (.goto 4, 3) := by decide +kernel
theorem dX12_best_153 : decode cX12_best 153 = .ok (.iload_n 3, 1) := by decide +kernel
theorem dX12_best_154 : decode cX12_best 154 = .ok (.istore_n 3, 1) := by decide +kernel
theorem dX12_best_155 : decode cX12_best 155 = .ok (.iinc 4 1, 3) := by decide +kernel
theorem dX12_best_158 : decode cX12_best 158 = .ok (.goto (-136), 3) := by decide +kernel
theorem dX12_best_161 : decode cX12_best 161 = .ok (.iload_n 2, 1) := by decide +kernel
theorem dX12_best_162 : decode cX12_best 162 = .ok (.ireturn, 1) := by decide +kernel
theorem mk_X12_best : MVk yX12_best "FairBlocksModel" cX12_best 8 (Option.some FieldType.int) 1 := ⟨w_963, w_961, w_962, w_13, rfl, by decide +kernel, by decide +kernel, by decide +kernel⟩
def BX12_best_0 (G : Nat → KT) (Q : Option mV → mM → Prop) : KT := (s_aload 0 (s_iconst (0) (s_puti 12 0 (s_aload 0 (s_iload 1 (s_callV 12 1 pre_X12_noUser fn_X12_noUser (s_if (fun x => x = 0) (s_at G 15 [true, true, false, false, false, false, false, false]) (s_iconst (-1) (s_iret Q)))))))))
set_option maxRecDepth 4000 in
theorem bsX12_best_0 {p : Program} {l : Launch} {e : Env} {s : State} {m : MethodId} {args : Array Value} {below : List Frame} {meth : Method} {c : Code} {D : va_G} {ca : Nat → ClassId} {ad : Nat → Nat} {A : Nat → Prop} {Q : Option mV → mM → Prop} (hX : CX p s m args meth c 8 cX12_best "FairBlocksModel" D ca ad A) (hr : meth.sig.returnType = (Option.some FieldType.int)) : ∀ lv st M, BX12_best_0 (Gd p l e (rmD 5) s m args below meth c 8 D ca ad A 0 0 (MQ below (QC D ca ad A Q) args s 0 0 A)) Q lv st M → Gd p l e (rmD 5) s m args below meth c 8 D ca ad A 0 0 (MQ below (QC D ca ad A Q) args s 0 0 A) 0 lv st M :=
  (sd_aload_n hX dX12_best_0 rfl (sd_iconst hX dX12_best_1 rfl (sd_puti hX fp_723 dX12_best_2 (sd_aload_n hX dX12_best_5 rfl (sd_iload_n hX dX12_best_6 rfl (sd_callV hX (kd := 12) rfl (by decide) (ct_X12_noUser l) mk_X12_noUser w_860 ⟨⟨by decide, by decide⟩, by decide, by decide⟩ dX12_best_7 (sd_if_eq hX dX12_best_10 (by decide) sd_at (sd_iconst hX dX12_best_13 rfl (sd_iret hX hr dX12_best_14)))))))))
def BX12_best_15 (G : Nat → KT) (Q : Option mV → mM → Prop) : KT := (s_iconst (1) (s_istore 2 (s_iconst (-1) (s_istore 3 (s_iconst (1) (s_istore 4 (s_at G 22 [true, true, true, true, true, false, false, false])))))))
set_option maxRecDepth 4000 in
theorem bsX12_best_15 {p : Program} {l : Launch} {e : Env} {s : State} {m : MethodId} {args : Array Value} {below : List Frame} {meth : Method} {c : Code} {D : va_G} {ca : Nat → ClassId} {ad : Nat → Nat} {A : Nat → Prop} {Q : Option mV → mM → Prop} (hX : CX p s m args meth c 8 cX12_best "FairBlocksModel" D ca ad A) (hr : meth.sig.returnType = (Option.some FieldType.int)) : ∀ lv st M, BX12_best_15 (Gd p l e (rmD 5) s m args below meth c 8 D ca ad A 0 0 (MQ below (QC D ca ad A Q) args s 0 0 A)) Q lv st M → Gd p l e (rmD 5) s m args below meth c 8 D ca ad A 0 0 (MQ below (QC D ca ad A Q) args s 0 0 A) 15 lv st M :=
  (sd_iconst hX dX12_best_15 rfl (sd_istore_n hX (by decide) dX12_best_16 rfl (sd_iconst hX dX12_best_17 rfl (sd_istore_n hX (by decide) dX12_best_18 rfl (sd_iconst hX dX12_best_19 rfl (sd_istore hX (by decide) dX12_best_20 sd_at))))))
def BX12_best_22 (G : Nat → KT) (Q : Option mV → mM → Prop) : KT := (s_iload 4 (s_iconst (10) (s_icmp (fun x y => y ≤ x) (s_at G 161 [false, false, true, false, false, false, false, false]) (s_aload 0 (s_callV 12 0 pre_X12_layTrial fn_X12_layTrial (s_aload 0 (s_getr 12 13 (fun _ => 166) (s_iconst (10) (s_iload 1 (s_bin (fun x y => x * y) (s_iconst (1) (s_bin (fun x y => x + y) (s_iload 4 (s_iast (s_aload 0 (s_aload 0 (s_getr 12 13 (fun _ => 166) (s_iconst (30) (s_callV 12 2 pre_X12_slotsOn fn_X12_slotsOn (s_pop (s_iconst (-9) (s_istore 5 (s_iconst (0) (s_istore 6 (s_at G 64 [true, true, true, true, true, true, true, false])))))))))))))))))))))))))
set_option maxRecDepth 4000 in
theorem bsX12_best_22 {p : Program} {l : Launch} {e : Env} {s : State} {m : MethodId} {args : Array Value} {below : List Frame} {meth : Method} {c : Code} {D : va_G} {ca : Nat → ClassId} {ad : Nat → Nat} {A : Nat → Prop} {Q : Option mV → mM → Prop} (hX : CX p s m args meth c 8 cX12_best "FairBlocksModel" D ca ad A) (hr : meth.sig.returnType = (Option.some FieldType.int)) : ∀ lv st M, BX12_best_22 (Gd p l e (rmD 5) s m args below meth c 8 D ca ad A 0 0 (MQ below (QC D ca ad A Q) args s 0 0 A)) Q lv st M → Gd p l e (rmD 5) s m args below meth c 8 D ca ad A 0 0 (MQ below (QC D ca ad A Q) args s 0 0 A) 22 lv st M :=
  (sd_iload hX dX12_best_22 (sd_bipush hX dX12_best_24 rfl (sd_icmp_ge hX dX12_best_26 (by decide) sd_at (sd_aload_n hX dX12_best_29 rfl (sd_callV hX (kd := 12) rfl (by decide) (ct_X12_layTrial l) mk_X12_layTrial w_940 ⟨⟨by decide, by decide⟩, by decide, by decide⟩ dX12_best_30 (sd_aload_n hX dX12_best_33 rfl (sd_getr hX fl_740 (fun _ => rfl) (fun _ _ _ => by decide +kernel) dX12_best_34 (sd_bipush hX dX12_best_37 rfl (sd_iload_n hX dX12_best_39 rfl (sd_imul hX dX12_best_40 (sd_iconst hX dX12_best_41 rfl (sd_iadd hX dX12_best_42 (sd_iload hX dX12_best_43 (sd_iast hX dX12_best_45 (sd_aload_n hX dX12_best_46 rfl (sd_aload_n hX dX12_best_47 rfl (sd_getr hX fl_740 (fun _ => rfl) (fun _ _ _ => by decide +kernel) dX12_best_48 (sd_bipush hX dX12_best_51 rfl (sd_callV hX (kd := 12) rfl (by decide) (ct_X12_slotsOn l) mk_X12_slotsOn w_878 ⟨⟨by decide, by decide⟩, by decide, by decide⟩ dX12_best_53 (sd_pop hX dX12_best_56 (sd_bipush hX dX12_best_57 rfl (sd_istore hX (by decide) dX12_best_59 (sd_iconst hX dX12_best_61 rfl (sd_istore hX (by decide) dX12_best_62 sd_at))))))))))))))))))))))))
def BX12_best_64 (G : Nat → KT) (Q : Option mV → mM → Prop) : KT := (s_iload 6 (s_aload 0 (s_geti 12 6 (s_icmp (fun x y => y ≤ x) (s_at G 129 [true, true, true, true, true, true, false, false]) (s_aload 0 (s_getr 12 13 (fun _ => 166) (s_iconst (10) (s_iload 6 (s_bin (fun x y => x * y) (s_iconst (9) (s_bin (fun x y => x + y) (s_iald (s_aload 0 (s_getr 12 13 (fun _ => 165) (s_iconst (10) (s_iload 6 (s_bin (fun x y => x * y) (s_iconst (9) (s_bin (fun x y => x + y) (s_iald (s_bin (fun x y => x - y) (s_istore 7 (s_iload 6 (s_if (fun x => x = 0) (s_at G 114 [true, true, true, true, true, false, true, true]) (s_iload 7 (s_iload 5 (s_icmp (fun x y => y ≤ x) (s_at G 119 [true, true, true, true, true, true, true, false]) (s_at G 114 [true, true, true, true, true, false, true, true]))))))))))))))))))))))))))))
set_option maxRecDepth 4000 in
theorem bsX12_best_64 {p : Program} {l : Launch} {e : Env} {s : State} {m : MethodId} {args : Array Value} {below : List Frame} {meth : Method} {c : Code} {D : va_G} {ca : Nat → ClassId} {ad : Nat → Nat} {A : Nat → Prop} {Q : Option mV → mM → Prop} (hX : CX p s m args meth c 8 cX12_best "FairBlocksModel" D ca ad A) (hr : meth.sig.returnType = (Option.some FieldType.int)) : ∀ lv st M, BX12_best_64 (Gd p l e (rmD 5) s m args below meth c 8 D ca ad A 0 0 (MQ below (QC D ca ad A Q) args s 0 0 A)) Q lv st M → Gd p l e (rmD 5) s m args below meth c 8 D ca ad A 0 0 (MQ below (QC D ca ad A Q) args s 0 0 A) 64 lv st M :=
  (sd_iload hX dX12_best_64 (sd_aload_n hX dX12_best_66 rfl (sd_geti hX fl_729 (by decide) dX12_best_67 (sd_icmp_ge hX dX12_best_70 (by decide) sd_at (sd_aload_n hX dX12_best_73 rfl (sd_getr hX fl_740 (fun _ => rfl) (fun _ _ _ => by decide +kernel) dX12_best_74 (sd_bipush hX dX12_best_77 rfl (sd_iload hX dX12_best_79 (sd_imul hX dX12_best_81 (sd_bipush hX dX12_best_82 rfl (sd_iadd hX dX12_best_84 (sd_iald hX dX12_best_85 (sd_aload_n hX dX12_best_86 rfl (sd_getr hX fl_739 (fun _ => rfl) (fun _ _ _ => by decide +kernel) dX12_best_87 (sd_bipush hX dX12_best_90 rfl (sd_iload hX dX12_best_92 (sd_imul hX dX12_best_94 (sd_bipush hX dX12_best_95 rfl (sd_iadd hX dX12_best_97 (sd_iald hX dX12_best_98 (sd_isub hX dX12_best_99 (sd_istore hX (by decide) dX12_best_100 (sd_iload hX dX12_best_102 (sd_if_eq hX dX12_best_104 (by decide) sd_at (sd_iload hX dX12_best_107 (sd_iload hX dX12_best_109 (sd_icmp_ge hX dX12_best_111 (by decide) sd_at sd_at)))))))))))))))))))))))))))
def BX12_best_114 (G : Nat → KT) (Q : Option mV → mM → Prop) : KT := (s_iload 7 (s_at G 121 [true, true, true, true, true, false, true, false]))
set_option maxRecDepth 4000 in
theorem bsX12_best_114 {p : Program} {l : Launch} {e : Env} {s : State} {m : MethodId} {args : Array Value} {below : List Frame} {meth : Method} {c : Code} {D : va_G} {ca : Nat → ClassId} {ad : Nat → Nat} {A : Nat → Prop} {Q : Option mV → mM → Prop} (hX : CX p s m args meth c 8 cX12_best "FairBlocksModel" D ca ad A) (hr : meth.sig.returnType = (Option.some FieldType.int)) : ∀ lv st M, BX12_best_114 (Gd p l e (rmD 5) s m args below meth c 8 D ca ad A 0 0 (MQ below (QC D ca ad A Q) args s 0 0 A)) Q lv st M → Gd p l e (rmD 5) s m args below meth c 8 D ca ad A 0 0 (MQ below (QC D ca ad A Q) args s 0 0 A) 114 lv st M :=
  (sd_iload hX dX12_best_114 (sd_goto hX dX12_best_116 (by decide) sd_at))
def BX12_best_119 (G : Nat → KT) (Q : Option mV → mM → Prop) : KT := (s_iload 5 (s_at G 121 [true, true, true, true, true, false, true, false]))
set_option maxRecDepth 4000 in
theorem bsX12_best_119 {p : Program} {l : Launch} {e : Env} {s : State} {m : MethodId} {args : Array Value} {below : List Frame} {meth : Method} {c : Code} {D : va_G} {ca : Nat → ClassId} {ad : Nat → Nat} {A : Nat → Prop} {Q : Option mV → mM → Prop} (hX : CX p s m args meth c 8 cX12_best "FairBlocksModel" D ca ad A) (hr : meth.sig.returnType = (Option.some FieldType.int)) : ∀ lv st M, BX12_best_119 (Gd p l e (rmD 5) s m args below meth c 8 D ca ad A 0 0 (MQ below (QC D ca ad A Q) args s 0 0 A)) Q lv st M → Gd p l e (rmD 5) s m args below meth c 8 D ca ad A 0 0 (MQ below (QC D ca ad A Q) args s 0 0 A) 119 lv st M :=
  (sd_iload hX dX12_best_119 sd_at)
def BX12_best_121 (G : Nat → KT) (Q : Option mV → mM → Prop) : KT := (s_istore 5 (s_iinc 6 (1) (s_at G 64 [true, true, true, true, true, true, true, false])))
set_option maxRecDepth 4000 in
theorem bsX12_best_121 {p : Program} {l : Launch} {e : Env} {s : State} {m : MethodId} {args : Array Value} {below : List Frame} {meth : Method} {c : Code} {D : va_G} {ca : Nat → ClassId} {ad : Nat → Nat} {A : Nat → Prop} {Q : Option mV → mM → Prop} (hX : CX p s m args meth c 8 cX12_best "FairBlocksModel" D ca ad A) (hr : meth.sig.returnType = (Option.some FieldType.int)) : ∀ lv st M, BX12_best_121 (Gd p l e (rmD 5) s m args below meth c 8 D ca ad A 0 0 (MQ below (QC D ca ad A Q) args s 0 0 A)) Q lv st M → Gd p l e (rmD 5) s m args below meth c 8 D ca ad A 0 0 (MQ below (QC D ca ad A Q) args s 0 0 A) 121 lv st M :=
  (sd_istore hX (by decide) dX12_best_121 (sd_iinc hX (by decide) dX12_best_123 rfl (sd_goto hX dX12_best_126 (by decide) sd_at)))
def BX12_best_129 (G : Nat → KT) (Q : Option mV → mM → Prop) : KT := (s_iload 5 (s_iload 3 (s_icmp (fun x y => x ≤ y) (s_at G 140 [true, true, true, true, true, true, false, false]) (s_iload 4 (s_at G 141 [true, true, false, true, true, true, false, false])))))
set_option maxRecDepth 4000 in
theorem bsX12_best_129 {p : Program} {l : Launch} {e : Env} {s : State} {m : MethodId} {args : Array Value} {below : List Frame} {meth : Method} {c : Code} {D : va_G} {ca : Nat → ClassId} {ad : Nat → Nat} {A : Nat → Prop} {Q : Option mV → mM → Prop} (hX : CX p s m args meth c 8 cX12_best "FairBlocksModel" D ca ad A) (hr : meth.sig.returnType = (Option.some FieldType.int)) : ∀ lv st M, BX12_best_129 (Gd p l e (rmD 5) s m args below meth c 8 D ca ad A 0 0 (MQ below (QC D ca ad A Q) args s 0 0 A)) Q lv st M → Gd p l e (rmD 5) s m args below meth c 8 D ca ad A 0 0 (MQ below (QC D ca ad A Q) args s 0 0 A) 129 lv st M :=
  (sd_iload hX dX12_best_129 (sd_iload_n hX dX12_best_131 rfl (sd_icmp_le hX dX12_best_132 (by decide) sd_at (sd_iload hX dX12_best_135 (sd_goto hX dX12_best_137 (by decide) sd_at)))))
def BX12_best_140 (G : Nat → KT) (Q : Option mV → mM → Prop) : KT := (s_iload 2 (s_at G 141 [true, true, false, true, true, true, false, false]))
set_option maxRecDepth 4000 in
theorem bsX12_best_140 {p : Program} {l : Launch} {e : Env} {s : State} {m : MethodId} {args : Array Value} {below : List Frame} {meth : Method} {c : Code} {D : va_G} {ca : Nat → ClassId} {ad : Nat → Nat} {A : Nat → Prop} {Q : Option mV → mM → Prop} (hX : CX p s m args meth c 8 cX12_best "FairBlocksModel" D ca ad A) (hr : meth.sig.returnType = (Option.some FieldType.int)) : ∀ lv st M, BX12_best_140 (Gd p l e (rmD 5) s m args below meth c 8 D ca ad A 0 0 (MQ below (QC D ca ad A Q) args s 0 0 A)) Q lv st M → Gd p l e (rmD 5) s m args below meth c 8 D ca ad A 0 0 (MQ below (QC D ca ad A Q) args s 0 0 A) 140 lv st M :=
  (sd_iload_n hX dX12_best_140 rfl sd_at)
def BX12_best_141 (G : Nat → KT) (Q : Option mV → mM → Prop) : KT := (s_istore 2 (s_iload 5 (s_iload 3 (s_icmp (fun x y => x ≤ y) (s_at G 153 [true, true, true, true, true, false, false, false]) (s_iload 5 (s_at G 154 [true, true, true, false, true, false, false, false]))))))
set_option maxRecDepth 4000 in
theorem bsX12_best_141 {p : Program} {l : Launch} {e : Env} {s : State} {m : MethodId} {args : Array Value} {below : List Frame} {meth : Method} {c : Code} {D : va_G} {ca : Nat → ClassId} {ad : Nat → Nat} {A : Nat → Prop} {Q : Option mV → mM → Prop} (hX : CX p s m args meth c 8 cX12_best "FairBlocksModel" D ca ad A) (hr : meth.sig.returnType = (Option.some FieldType.int)) : ∀ lv st M, BX12_best_141 (Gd p l e (rmD 5) s m args below meth c 8 D ca ad A 0 0 (MQ below (QC D ca ad A Q) args s 0 0 A)) Q lv st M → Gd p l e (rmD 5) s m args below meth c 8 D ca ad A 0 0 (MQ below (QC D ca ad A Q) args s 0 0 A) 141 lv st M :=
  (sd_istore_n hX (by decide) dX12_best_141 rfl (sd_iload hX dX12_best_142 (sd_iload_n hX dX12_best_144 rfl (sd_icmp_le hX dX12_best_145 (by decide) sd_at (sd_iload hX dX12_best_148 (sd_goto hX dX12_best_150 (by decide) sd_at))))))
def BX12_best_153 (G : Nat → KT) (Q : Option mV → mM → Prop) : KT := (s_iload 3 (s_at G 154 [true, true, true, false, true, false, false, false]))
set_option maxRecDepth 4000 in
theorem bsX12_best_153 {p : Program} {l : Launch} {e : Env} {s : State} {m : MethodId} {args : Array Value} {below : List Frame} {meth : Method} {c : Code} {D : va_G} {ca : Nat → ClassId} {ad : Nat → Nat} {A : Nat → Prop} {Q : Option mV → mM → Prop} (hX : CX p s m args meth c 8 cX12_best "FairBlocksModel" D ca ad A) (hr : meth.sig.returnType = (Option.some FieldType.int)) : ∀ lv st M, BX12_best_153 (Gd p l e (rmD 5) s m args below meth c 8 D ca ad A 0 0 (MQ below (QC D ca ad A Q) args s 0 0 A)) Q lv st M → Gd p l e (rmD 5) s m args below meth c 8 D ca ad A 0 0 (MQ below (QC D ca ad A Q) args s 0 0 A) 153 lv st M :=
  (sd_iload_n hX dX12_best_153 rfl sd_at)
def BX12_best_154 (G : Nat → KT) (Q : Option mV → mM → Prop) : KT := (s_istore 3 (s_iinc 4 (1) (s_at G 22 [true, true, true, true, true, false, false, false])))
set_option maxRecDepth 4000 in
theorem bsX12_best_154 {p : Program} {l : Launch} {e : Env} {s : State} {m : MethodId} {args : Array Value} {below : List Frame} {meth : Method} {c : Code} {D : va_G} {ca : Nat → ClassId} {ad : Nat → Nat} {A : Nat → Prop} {Q : Option mV → mM → Prop} (hX : CX p s m args meth c 8 cX12_best "FairBlocksModel" D ca ad A) (hr : meth.sig.returnType = (Option.some FieldType.int)) : ∀ lv st M, BX12_best_154 (Gd p l e (rmD 5) s m args below meth c 8 D ca ad A 0 0 (MQ below (QC D ca ad A Q) args s 0 0 A)) Q lv st M → Gd p l e (rmD 5) s m args below meth c 8 D ca ad A 0 0 (MQ below (QC D ca ad A Q) args s 0 0 A) 154 lv st M :=
  (sd_istore_n hX (by decide) dX12_best_154 rfl (sd_iinc hX (by decide) dX12_best_155 rfl (sd_goto hX dX12_best_158 (by decide) sd_at)))
def BX12_best_161 (G : Nat → KT) (Q : Option mV → mM → Prop) : KT := (s_iload 2 (s_iret Q))
set_option maxRecDepth 4000 in
theorem bsX12_best_161 {p : Program} {l : Launch} {e : Env} {s : State} {m : MethodId} {args : Array Value} {below : List Frame} {meth : Method} {c : Code} {D : va_G} {ca : Nat → ClassId} {ad : Nat → Nat} {A : Nat → Prop} {Q : Option mV → mM → Prop} (hX : CX p s m args meth c 8 cX12_best "FairBlocksModel" D ca ad A) (hr : meth.sig.returnType = (Option.some FieldType.int)) : ∀ lv st M, BX12_best_161 (Gd p l e (rmD 5) s m args below meth c 8 D ca ad A 0 0 (MQ below (QC D ca ad A Q) args s 0 0 A)) Q lv st M → Gd p l e (rmD 5) s m args below meth c 8 D ca ad A 0 0 (MQ below (QC D ca ad A Q) args s 0 0 A) 161 lv st M :=
  (sd_iload_n hX dX12_best_161 rfl (sd_iret hX hr dX12_best_162))
set_option maxHeartbeats 400000 in
theorem pf_X12_best (G : Nat → KT) (Q : Option mV → mM → Prop) (h0 : ∀ lv st M, BX12_best_0 G Q lv st M → G 0 lv st M) (h15 : ∀ lv st M, BX12_best_15 G Q lv st M → G 15 lv st M) (h22 : ∀ lv st M, BX12_best_22 G Q lv st M → G 22 lv st M) (h64 : ∀ lv st M, BX12_best_64 G Q lv st M → G 64 lv st M) (h114 : ∀ lv st M, BX12_best_114 G Q lv st M → G 114 lv st M) (h119 : ∀ lv st M, BX12_best_119 G Q lv st M → G 119 lv st M) (h121 : ∀ lv st M, BX12_best_121 G Q lv st M → G 121 lv st M) (h129 : ∀ lv st M, BX12_best_129 G Q lv st M → G 129 lv st M) (h140 : ∀ lv st M, BX12_best_140 G Q lv st M → G 140 lv st M) (h141 : ∀ lv st M, BX12_best_141 G Q lv st M → G 141 lv st M) (h153 : ∀ lv st M, BX12_best_153 G Q lv st M → G 153 lv st M) (h154 : ∀ lv st M, BX12_best_154 G Q lv st M → G 154 lv st M) (h161 : ∀ lv st M, BX12_best_161 G Q lv st M → G 161 lv st M) (as : List mV) (M : mM) (ho : ∀ v ∈ as, okV v) (hp : pre_X12_best as M) (hQ : Q (fn_X12_best as M).1 (fn_X12_best as M).2) : G 0 (inL as ++ List.replicate (8 - (inL as).length) none) [] M := by
  obtain ⟨c, u, rfl, hM⟩ := hp
  obtain rfl : c = 158 := k12 (ho (.inr (.inr (12, c))) (by simp))
  have hI := MI_0 hM
  simp only [fn_X12_best, m_best] at hQ
  (apply h0; simp only [BX12_best_0, s_mth, s_mab, s_at, s_iconst, s_lconst, s_iload, s_lload, s_aload, s_istore, s_lstore, s_astore, s_iinc, s_bin, s_binG, s_un, s_lbin, s_lbinG, s_lsh, s_lcmp, s_i2l, s_l2i, s_dup, s_dup2, s_pop, s_if, s_icmp, s_geti, s_getl, s_getr, s_puti, s_putz, s_putl, s_iald, s_zald, s_iast, s_zast, s_aaldS, s_aaldU, s_gets, s_tald, s_tsw, tsw, s_iret, s_zret, s_lret, s_aret, s_vret, s_callV, s_callS, c1, nl1, keepL, csum, pushR, inL, List.getD_cons_zero, List.getD_cons_succ, List.set_cons_zero, List.set_cons_succ, List.cons_append, List.nil_append, List.append_nil, List.replicate, List.length_cons, List.length_nil, List.take_succ_cons, List.take_zero, List.drop_succ_cons, List.drop_zero, List.reverse_cons, List.reverse_nil, true_and, and_true, forall_const, not_true_eq_false, not_false_eq_true, false_implies, true_implies, implies_true, one0, m10, Nat.reduceAdd, Nat.reduceSub, Nat.reduceLeDiff, Nat.zero_add, Nat.add_zero, fn_X12_layTrial, fn_X12_noUser, fn_X12_slotsOn])
  rw [show mset M 158 0 0 = m0 M from rfl]
  generalize m0 M = M0 at *
  refine ⟨⟨_, _, rfl⟩, fun h => ?_, fun h => ?_⟩
  · rw [if_pos h] at hQ
    obtain ⟨j, hj, rfl⟩ := nu_u hI.1.1 h
    have hn := (nM_e hI.1.1).1
    have hj5 : j < 5 := by omega
    rw [nI_clamp (by omega : j < 2 ^ 31)] at hQ
    have ax0 : ((10 : Int32) * nI j + 0).toNatClampNeg = 10 * j + 0 := cx hj5 0 (by decide)
    have av0 : vp_in ((10 : Int32) * nI j + 0) 52 := vx hj5 0 (by decide)
    have ax1 : ((10 : Int32) * nI j + 1).toNatClampNeg = 10 * j + 1 := cx hj5 1 (by decide)
    have av1 : vp_in ((10 : Int32) * nI j + 1) 52 := vx hj5 1 (by decide)
    have ax2 : ((10 : Int32) * nI j + 2).toNatClampNeg = 10 * j + 2 := cx hj5 2 (by decide)
    have av2 : vp_in ((10 : Int32) * nI j + 2) 52 := vx hj5 2 (by decide)
    have ax3 : ((10 : Int32) * nI j + 3).toNatClampNeg = 10 * j + 3 := cx hj5 3 (by decide)
    have av3 : vp_in ((10 : Int32) * nI j + 3) 52 := vx hj5 3 (by decide)
    have ax4 : ((10 : Int32) * nI j + 4).toNatClampNeg = 10 * j + 4 := cx hj5 4 (by decide)
    have av4 : vp_in ((10 : Int32) * nI j + 4) 52 := vx hj5 4 (by decide)
    have ax5 : ((10 : Int32) * nI j + 5).toNatClampNeg = 10 * j + 5 := cx hj5 5 (by decide)
    have av5 : vp_in ((10 : Int32) * nI j + 5) 52 := vx hj5 5 (by decide)
    have ax6 : ((10 : Int32) * nI j + 6).toNatClampNeg = 10 * j + 6 := cx hj5 6 (by decide)
    have av6 : vp_in ((10 : Int32) * nI j + 6) 52 := vx hj5 6 (by decide)
    have ax7 : ((10 : Int32) * nI j + 7).toNatClampNeg = 10 * j + 7 := cx hj5 7 (by decide)
    have av7 : vp_in ((10 : Int32) * nI j + 7) 52 := vx hj5 7 (by decide)
    have ax8 : ((10 : Int32) * nI j + 8).toNatClampNeg = 10 * j + 8 := cx hj5 8 (by decide)
    have av8 : vp_in ((10 : Int32) * nI j + 8) 52 := vx hj5 8 (by decide)
    have ax9 : ((10 : Int32) * nI j + 9).toNatClampNeg = 10 * j + 9 := cx hj5 9 (by decide)
    have av9 : vp_in ((10 : Int32) * nI j + 9) 52 := vx hj5 9 (by decide)
    have loop : ∀ (n w : Nat) (f m : Int32) (M' : mM), w + n = 10 → 1 ≤ w → PM M' → PG M' 165 1000 → Q (some (.inl (itr (bsMS j) w n (f, m, M')).1)) (itr (bsMS j) w n (f, m, M')).2.2 → G 22 [some (.inr (.inr (12, 158))), some (.inl (nI j)), some (.inl f), some (.inl m), some (.inl (nI w)), none, none, none] [] M' := by
      intro n
      induction n with
      | zero =>
        intro w f m M' hi hw1 hP hG hq
        obtain rfl : w = 10 := by omega
        (apply h22; simp only [BX12_best_22, s_mth, s_mab, s_at, s_iconst, s_lconst, s_iload, s_lload, s_aload, s_istore, s_lstore, s_astore, s_iinc, s_bin, s_binG, s_un, s_lbin, s_lbinG, s_lsh, s_lcmp, s_i2l, s_l2i, s_dup, s_dup2, s_pop, s_if, s_icmp, s_geti, s_getl, s_getr, s_puti, s_putz, s_putl, s_iald, s_zald, s_iast, s_zast, s_aaldS, s_aaldU, s_gets, s_tald, s_tsw, tsw, s_iret, s_zret, s_lret, s_aret, s_vret, s_callV, s_callS, c1, nl1, keepL, csum, pushR, inL, List.getD_cons_zero, List.getD_cons_succ, List.set_cons_zero, List.set_cons_succ, List.cons_append, List.nil_append, List.append_nil, List.replicate, List.length_cons, List.length_nil, List.take_succ_cons, List.take_zero, List.drop_succ_cons, List.drop_zero, List.reverse_cons, List.reverse_nil, true_and, and_true, forall_const, not_true_eq_false, not_false_eq_true, false_implies, true_implies, implies_true, one0, m10, Nat.reduceAdd, Nat.reduceSub, Nat.reduceLeDiff, Nat.zero_add, Nat.add_zero, fn_X12_layTrial, fn_X12_noUser, fn_X12_slotsOn])
        refine ⟨fun _ => ?_, fun h => absurd (by decide) h⟩
        (apply h161; simp only [BX12_best_161, s_mth, s_mab, s_at, s_iconst, s_lconst, s_iload, s_lload, s_aload, s_istore, s_lstore, s_astore, s_iinc, s_bin, s_binG, s_un, s_lbin, s_lbinG, s_lsh, s_lcmp, s_i2l, s_l2i, s_dup, s_dup2, s_pop, s_if, s_icmp, s_geti, s_getl, s_getr, s_puti, s_putz, s_putl, s_iald, s_zald, s_iast, s_zast, s_aaldS, s_aaldU, s_gets, s_tald, s_tsw, tsw, s_iret, s_zret, s_lret, s_aret, s_vret, s_callV, s_callS, c1, nl1, keepL, csum, pushR, inL, List.getD_cons_zero, List.getD_cons_succ, List.set_cons_zero, List.set_cons_succ, List.cons_append, List.nil_append, List.append_nil, List.replicate, List.length_cons, List.length_nil, List.take_succ_cons, List.take_zero, List.drop_succ_cons, List.drop_zero, List.reverse_cons, List.reverse_nil, true_and, and_true, forall_const, not_true_eq_false, not_false_eq_true, false_implies, true_implies, implies_true, one0, m10, Nat.reduceAdd, Nat.reduceSub, Nat.reduceLeDiff, Nat.zero_add, Nat.add_zero, fn_X12_layTrial, fn_X12_noUser, fn_X12_slotsOn])
        exact hq
      | succ n ih =>
        intro w f m M' hi hw1 hP hG hq
        obtain ⟨h1, h2, h3, h4⟩ := bM2_f (w := w) hj5 hP hG
        obtain ⟨hn5, en, -⟩ := nM_e h2
        have hq2 : Q (some (.inl (itr (bsMS j) (w + 1) n (bsF w (lsM (bM2 M' j w)) (f, m, M') (bM2 M' j w))).1)) (itr (bsMS j) (w + 1) n (bsF w (lsM (bM2 M' j w)) (f, m, M') (bM2 M' j w))).2.2 := hq
        have L129 : ∀ l, l = lsM (bM2 M' j w) → G 129 [some (.inr (.inr (12, 158))), some (.inl (nI j)), some (.inl f), some (.inl m), some (.inl (nI w)), some (.inl l), none, none] [] (bM2 M' j w) := by
          intro l el
          rw [← el] at hq2
          unfold bsF at hq2
          simp only at hq2
          have L154 : ∀ f2 m2, f2 = (if l ≤ m then f else nI w) → m2 = (if l ≤ m then m else l) → G 154 [some (.inr (.inr (12, 158))), some (.inl (nI j)), some (.inl f2), none, some (.inl (nI w)), none, none, none] [.inl m2] (bM2 M' j w) := by
            intro f2 m2 e1 e2
            (apply h154; simp only [BX12_best_154, s_mth, s_mab, s_at, s_iconst, s_lconst, s_iload, s_lload, s_aload, s_istore, s_lstore, s_astore, s_iinc, s_bin, s_binG, s_un, s_lbin, s_lbinG, s_lsh, s_lcmp, s_i2l, s_l2i, s_dup, s_dup2, s_pop, s_if, s_icmp, s_geti, s_getl, s_getr, s_puti, s_putz, s_putl, s_iald, s_zald, s_iast, s_zast, s_aaldS, s_aaldU, s_gets, s_tald, s_tsw, tsw, s_iret, s_zret, s_lret, s_aret, s_vret, s_callV, s_callS, c1, nl1, keepL, csum, pushR, inL, List.getD_cons_zero, List.getD_cons_succ, List.set_cons_zero, List.set_cons_succ, List.cons_append, List.nil_append, List.append_nil, List.replicate, List.length_cons, List.length_nil, List.take_succ_cons, List.take_zero, List.drop_succ_cons, List.drop_zero, List.reverse_cons, List.reverse_nil, true_and, and_true, forall_const, not_true_eq_false, not_false_eq_true, false_implies, true_implies, implies_true, one0, m10, Nat.reduceAdd, Nat.reduceSub, Nat.reduceLeDiff, Nat.zero_add, Nat.add_zero, fn_X12_layTrial, fn_X12_noUser, fn_X12_slotsOn])
            rw [nI_1, e1, e2]
            exact ih (w + 1) _ _ _ (by omega) (by omega) h2 h3 hq2
          have L141 : ∀ f2, f2 = (if l ≤ m then f else nI w) → G 141 [some (.inr (.inr (12, 158))), some (.inl (nI j)), none, some (.inl m), some (.inl (nI w)), some (.inl l), none, none] [.inl f2] (bM2 M' j w) := by
            intro f2 e1
            (apply h141; simp only [BX12_best_141, s_mth, s_mab, s_at, s_iconst, s_lconst, s_iload, s_lload, s_aload, s_istore, s_lstore, s_astore, s_iinc, s_bin, s_binG, s_un, s_lbin, s_lbinG, s_lsh, s_lcmp, s_i2l, s_l2i, s_dup, s_dup2, s_pop, s_if, s_icmp, s_geti, s_getl, s_getr, s_puti, s_putz, s_putl, s_iald, s_zald, s_iast, s_zast, s_aaldS, s_aaldU, s_gets, s_tald, s_tsw, tsw, s_iret, s_zret, s_lret, s_aret, s_vret, s_callV, s_callS, c1, nl1, keepL, csum, pushR, inL, List.getD_cons_zero, List.getD_cons_succ, List.set_cons_zero, List.set_cons_succ, List.cons_append, List.nil_append, List.append_nil, List.replicate, List.length_cons, List.length_nil, List.take_succ_cons, List.take_zero, List.drop_succ_cons, List.drop_zero, List.reverse_cons, List.reverse_nil, true_and, and_true, forall_const, not_true_eq_false, not_false_eq_true, false_implies, true_implies, implies_true, one0, m10, Nat.reduceAdd, Nat.reduceSub, Nat.reduceLeDiff, Nat.zero_add, Nat.add_zero, fn_X12_layTrial, fn_X12_noUser, fn_X12_slotsOn])
            refine ⟨fun g => ?_, fun g => ?_⟩
            · (apply h153; simp only [BX12_best_153, s_mth, s_mab, s_at, s_iconst, s_lconst, s_iload, s_lload, s_aload, s_istore, s_lstore, s_astore, s_iinc, s_bin, s_binG, s_un, s_lbin, s_lbinG, s_lsh, s_lcmp, s_i2l, s_l2i, s_dup, s_dup2, s_pop, s_if, s_icmp, s_geti, s_getl, s_getr, s_puti, s_putz, s_putl, s_iald, s_zald, s_iast, s_zast, s_aaldS, s_aaldU, s_gets, s_tald, s_tsw, tsw, s_iret, s_zret, s_lret, s_aret, s_vret, s_callV, s_callS, c1, nl1, keepL, csum, pushR, inL, List.getD_cons_zero, List.getD_cons_succ, List.set_cons_zero, List.set_cons_succ, List.cons_append, List.nil_append, List.append_nil, List.replicate, List.length_cons, List.length_nil, List.take_succ_cons, List.take_zero, List.drop_succ_cons, List.drop_zero, List.reverse_cons, List.reverse_nil, true_and, and_true, forall_const, not_true_eq_false, not_false_eq_true, false_implies, true_implies, implies_true, one0, m10, Nat.reduceAdd, Nat.reduceSub, Nat.reduceLeDiff, Nat.zero_add, Nat.add_zero, fn_X12_layTrial, fn_X12_noUser, fn_X12_slotsOn])
              exact L154 f2 _ e1 (by rw [if_pos g])
            · exact L154 f2 _ e1 (by rw [if_neg g])
          (apply h129; simp only [BX12_best_129, s_mth, s_mab, s_at, s_iconst, s_lconst, s_iload, s_lload, s_aload, s_istore, s_lstore, s_astore, s_iinc, s_bin, s_binG, s_un, s_lbin, s_lbinG, s_lsh, s_lcmp, s_i2l, s_l2i, s_dup, s_dup2, s_pop, s_if, s_icmp, s_geti, s_getl, s_getr, s_puti, s_putz, s_putl, s_iald, s_zald, s_iast, s_zast, s_aaldS, s_aaldU, s_gets, s_tald, s_tsw, tsw, s_iret, s_zret, s_lret, s_aret, s_vret, s_callV, s_callS, c1, nl1, keepL, csum, pushR, inL, List.getD_cons_zero, List.getD_cons_succ, List.set_cons_zero, List.set_cons_succ, List.cons_append, List.nil_append, List.append_nil, List.replicate, List.length_cons, List.length_nil, List.take_succ_cons, List.take_zero, List.drop_succ_cons, List.drop_zero, List.reverse_cons, List.reverse_nil, true_and, and_true, forall_const, not_true_eq_false, not_false_eq_true, false_implies, true_implies, implies_true, one0, m10, Nat.reduceAdd, Nat.reduceSub, Nat.reduceLeDiff, Nat.zero_add, Nat.add_zero, fn_X12_layTrial, fn_X12_noUser, fn_X12_slotsOn])
          refine ⟨fun g => ?_, fun g => ?_⟩
          · (apply h140; simp only [BX12_best_140, s_mth, s_mab, s_at, s_iconst, s_lconst, s_iload, s_lload, s_aload, s_istore, s_lstore, s_astore, s_iinc, s_bin, s_binG, s_un, s_lbin, s_lbinG, s_lsh, s_lcmp, s_i2l, s_l2i, s_dup, s_dup2, s_pop, s_if, s_icmp, s_geti, s_getl, s_getr, s_puti, s_putz, s_putl, s_iald, s_zald, s_iast, s_zast, s_aaldS, s_aaldU, s_gets, s_tald, s_tsw, tsw, s_iret, s_zret, s_lret, s_aret, s_vret, s_callV, s_callS, c1, nl1, keepL, csum, pushR, inL, List.getD_cons_zero, List.getD_cons_succ, List.set_cons_zero, List.set_cons_succ, List.cons_append, List.nil_append, List.append_nil, List.replicate, List.length_cons, List.length_nil, List.take_succ_cons, List.take_zero, List.drop_succ_cons, List.drop_zero, List.reverse_cons, List.reverse_nil, true_and, and_true, forall_const, not_true_eq_false, not_false_eq_true, false_implies, true_implies, implies_true, one0, m10, Nat.reduceAdd, Nat.reduceSub, Nat.reduceLeDiff, Nat.zero_add, Nat.add_zero, fn_X12_layTrial, fn_X12_noUser, fn_X12_slotsOn])
            exact L141 _ (by rw [if_pos g])
          · exact L141 _ (by rw [if_neg g])
        have inner : ∀ (k u : Nat) (l : Int32), u + k = nM (bM2 M' j w) → itr (lsMS (bM2 M' j w)) u k l = lsM (bM2 M' j w) → G 64 [some (.inr (.inr (12, 158))), some (.inl (nI j)), some (.inl f), some (.inl m), some (.inl (nI w)), some (.inl l), some (.inl (nI u)), none] [] (bM2 M' j w) := by
          intro k
          induction k with
          | zero =>
            intro u l hu hl
            (apply h64; simp only [BX12_best_64, s_mth, s_mab, s_at, s_iconst, s_lconst, s_iload, s_lload, s_aload, s_istore, s_lstore, s_astore, s_iinc, s_bin, s_binG, s_un, s_lbin, s_lbinG, s_lsh, s_lcmp, s_i2l, s_l2i, s_dup, s_dup2, s_pop, s_if, s_icmp, s_geti, s_getl, s_getr, s_puti, s_putz, s_putl, s_iald, s_zald, s_iast, s_zast, s_aaldS, s_aaldU, s_gets, s_tald, s_tsw, tsw, s_iret, s_zret, s_lret, s_aret, s_vret, s_callV, s_callS, c1, nl1, keepL, csum, pushR, inL, List.getD_cons_zero, List.getD_cons_succ, List.set_cons_zero, List.set_cons_succ, List.cons_append, List.nil_append, List.append_nil, List.replicate, List.length_cons, List.length_nil, List.take_succ_cons, List.take_zero, List.drop_succ_cons, List.drop_zero, List.reverse_cons, List.reverse_nil, true_and, and_true, forall_const, not_true_eq_false, not_false_eq_true, false_implies, true_implies, implies_true, one0, m10, Nat.reduceAdd, Nat.reduceSub, Nat.reduceLeDiff, Nat.zero_add, Nat.add_zero, fn_X12_layTrial, fn_X12_noUser, fn_X12_slotsOn])
            rw [en]
            refine ⟨fun _ => L129 l hl, fun h => absurd (nI_le (by omega) (by omega)) h⟩
          | succ k ik =>
            intro u l hu hl
            have hu5 : u < 5 := by omega
            have x0 : ((10 : Int32) * nI u + 0).toNatClampNeg = 10 * u + 0 := cx hu5 0 (by decide)
            have v0 : vp_in ((10 : Int32) * nI u + 0) 52 := vx hu5 0 (by decide)
            have x1 : ((10 : Int32) * nI u + 1).toNatClampNeg = 10 * u + 1 := cx hu5 1 (by decide)
            have v1 : vp_in ((10 : Int32) * nI u + 1) 52 := vx hu5 1 (by decide)
            have x2 : ((10 : Int32) * nI u + 2).toNatClampNeg = 10 * u + 2 := cx hu5 2 (by decide)
            have v2 : vp_in ((10 : Int32) * nI u + 2) 52 := vx hu5 2 (by decide)
            have x3 : ((10 : Int32) * nI u + 3).toNatClampNeg = 10 * u + 3 := cx hu5 3 (by decide)
            have v3 : vp_in ((10 : Int32) * nI u + 3) 52 := vx hu5 3 (by decide)
            have x4 : ((10 : Int32) * nI u + 4).toNatClampNeg = 10 * u + 4 := cx hu5 4 (by decide)
            have v4 : vp_in ((10 : Int32) * nI u + 4) 52 := vx hu5 4 (by decide)
            have x5 : ((10 : Int32) * nI u + 5).toNatClampNeg = 10 * u + 5 := cx hu5 5 (by decide)
            have v5 : vp_in ((10 : Int32) * nI u + 5) 52 := vx hu5 5 (by decide)
            have x6 : ((10 : Int32) * nI u + 6).toNatClampNeg = 10 * u + 6 := cx hu5 6 (by decide)
            have v6 : vp_in ((10 : Int32) * nI u + 6) 52 := vx hu5 6 (by decide)
            have x7 : ((10 : Int32) * nI u + 7).toNatClampNeg = 10 * u + 7 := cx hu5 7 (by decide)
            have v7 : vp_in ((10 : Int32) * nI u + 7) 52 := vx hu5 7 (by decide)
            have x8 : ((10 : Int32) * nI u + 8).toNatClampNeg = 10 * u + 8 := cx hu5 8 (by decide)
            have v8 : vp_in ((10 : Int32) * nI u + 8) 52 := vx hu5 8 (by decide)
            have x9 : ((10 : Int32) * nI u + 9).toNatClampNeg = 10 * u + 9 := cx hu5 9 (by decide)
            have v9 : vp_in ((10 : Int32) * nI u + 9) 52 := vx hu5 9 (by decide)
            have L121 : ∀ l2, l2 = lsMS (bM2 M' j w) u l → G 121 [some (.inr (.inr (12, 158))), some (.inl (nI j)), some (.inl f), some (.inl m), some (.inl (nI w)), none, some (.inl (nI u)), none] [.inl l2] (bM2 M' j w) := by
              intro l2 e
              (apply h121; simp only [BX12_best_121, s_mth, s_mab, s_at, s_iconst, s_lconst, s_iload, s_lload, s_aload, s_istore, s_lstore, s_astore, s_iinc, s_bin, s_binG, s_un, s_lbin, s_lbinG, s_lsh, s_lcmp, s_i2l, s_l2i, s_dup, s_dup2, s_pop, s_if, s_icmp, s_geti, s_getl, s_getr, s_puti, s_putz, s_putl, s_iald, s_zald, s_iast, s_zast, s_aaldS, s_aaldU, s_gets, s_tald, s_tsw, tsw, s_iret, s_zret, s_lret, s_aret, s_vret, s_callV, s_callS, c1, nl1, keepL, csum, pushR, inL, List.getD_cons_zero, List.getD_cons_succ, List.set_cons_zero, List.set_cons_succ, List.cons_append, List.nil_append, List.append_nil, List.replicate, List.length_cons, List.length_nil, List.take_succ_cons, List.take_zero, List.drop_succ_cons, List.drop_zero, List.reverse_cons, List.reverse_nil, true_and, and_true, forall_const, not_true_eq_false, not_false_eq_true, false_implies, true_implies, implies_true, one0, m10, Nat.reduceAdd, Nat.reduceSub, Nat.reduceLeDiff, Nat.zero_add, Nat.add_zero, fn_X12_layTrial, fn_X12_noUser, fn_X12_slotsOn])
              rw [nI_1]
              exact ik (u + 1) l2 (by omega) (by rw [e]; exact hl)
            have L114 : lsMS (bM2 M' j w) u l = lsM1 (bM2 M' j w) u → G 114 [some (.inr (.inr (12, 158))), some (.inl (nI j)), some (.inl f), some (.inl m), some (.inl (nI w)), none, some (.inl (nI u)), some (.inl (lsM1 (bM2 M' j w) u))] [] (bM2 M' j w) := by
              intro e
              (apply h114; simp only [BX12_best_114, s_mth, s_mab, s_at, s_iconst, s_lconst, s_iload, s_lload, s_aload, s_istore, s_lstore, s_astore, s_iinc, s_bin, s_binG, s_un, s_lbin, s_lbinG, s_lsh, s_lcmp, s_i2l, s_l2i, s_dup, s_dup2, s_pop, s_if, s_icmp, s_geti, s_getl, s_getr, s_puti, s_putz, s_putl, s_iald, s_zald, s_iast, s_zast, s_aaldS, s_aaldU, s_gets, s_tald, s_tsw, tsw, s_iret, s_zret, s_lret, s_aret, s_vret, s_callV, s_callS, c1, nl1, keepL, csum, pushR, inL, List.getD_cons_zero, List.getD_cons_succ, List.set_cons_zero, List.set_cons_succ, List.cons_append, List.nil_append, List.append_nil, List.replicate, List.length_cons, List.length_nil, List.take_succ_cons, List.take_zero, List.drop_succ_cons, List.drop_zero, List.reverse_cons, List.reverse_nil, true_and, and_true, forall_const, not_true_eq_false, not_false_eq_true, false_implies, true_implies, implies_true, one0, m10, Nat.reduceAdd, Nat.reduceSub, Nat.reduceLeDiff, Nat.zero_add, Nat.add_zero, fn_X12_layTrial, fn_X12_noUser, fn_X12_slotsOn])
              exact L121 _ e.symm
            have L119 : lsMS (bM2 M' j w) u l = l → G 119 [some (.inr (.inr (12, 158))), some (.inl (nI j)), some (.inl f), some (.inl m), some (.inl (nI w)), some (.inl l), some (.inl (nI u)), none] [] (bM2 M' j w) := by
              intro e
              (apply h119; simp only [BX12_best_119, s_mth, s_mab, s_at, s_iconst, s_lconst, s_iload, s_lload, s_aload, s_istore, s_lstore, s_astore, s_iinc, s_bin, s_binG, s_un, s_lbin, s_lbinG, s_lsh, s_lcmp, s_i2l, s_l2i, s_dup, s_dup2, s_pop, s_if, s_icmp, s_geti, s_getl, s_getr, s_puti, s_putz, s_putl, s_iald, s_zald, s_iast, s_zast, s_aaldS, s_aaldU, s_gets, s_tald, s_tsw, tsw, s_iret, s_zret, s_lret, s_aret, s_vret, s_callV, s_callS, c1, nl1, keepL, csum, pushR, inL, List.getD_cons_zero, List.getD_cons_succ, List.set_cons_zero, List.set_cons_succ, List.cons_append, List.nil_append, List.append_nil, List.replicate, List.length_cons, List.length_nil, List.take_succ_cons, List.take_zero, List.drop_succ_cons, List.drop_zero, List.reverse_cons, List.reverse_nil, true_and, and_true, forall_const, not_true_eq_false, not_false_eq_true, false_implies, true_implies, implies_true, one0, m10, Nat.reduceAdd, Nat.reduceSub, Nat.reduceLeDiff, Nat.zero_add, Nat.add_zero, fn_X12_layTrial, fn_X12_noUser, fn_X12_slotsOn])
              exact L121 _ e.symm
            unfold lsMS at L114 L119
            (apply h64; simp only [BX12_best_64, s_mth, s_mab, s_at, s_iconst, s_lconst, s_iload, s_lload, s_aload, s_istore, s_lstore, s_astore, s_iinc, s_bin, s_binG, s_un, s_lbin, s_lbinG, s_lsh, s_lcmp, s_i2l, s_l2i, s_dup, s_dup2, s_pop, s_if, s_icmp, s_geti, s_getl, s_getr, s_puti, s_putz, s_putl, s_iald, s_zald, s_iast, s_zast, s_aaldS, s_aaldU, s_gets, s_tald, s_tsw, tsw, s_iret, s_zret, s_lret, s_aret, s_vret, s_callV, s_callS, c1, nl1, keepL, csum, pushR, inL, List.getD_cons_zero, List.getD_cons_succ, List.set_cons_zero, List.set_cons_succ, List.cons_append, List.nil_append, List.append_nil, List.replicate, List.length_cons, List.length_nil, List.take_succ_cons, List.take_zero, List.drop_succ_cons, List.drop_zero, List.reverse_cons, List.reverse_nil, true_and, and_true, forall_const, not_true_eq_false, not_false_eq_true, false_implies, true_implies, implies_true, one0, m10, Nat.reduceAdd, Nat.reduceSub, Nat.reduceLeDiff, Nat.zero_add, Nat.add_zero, fn_X12_layTrial, fn_X12_noUser, fn_X12_slotsOn])
            simp only [en, lM, x9]
            refine ⟨fun h => absurd h (nI_ge (by omega) (by omega)), fun _ => ⟨v9, v9, fun g => ?_, fun g => ⟨fun g2 => ?_, fun g2 => ?_⟩⟩⟩
            · exact L114 (by rw [if_pos g])
            · exact L119 (by rw [if_neg g]; exact if_pos g2)
            · exact L114 (by rw [if_neg g]; exact if_neg g2)
        (apply h22; simp only [BX12_best_22, s_mth, s_mab, s_at, s_iconst, s_lconst, s_iload, s_lload, s_aload, s_istore, s_lstore, s_astore, s_iinc, s_bin, s_binG, s_un, s_lbin, s_lbinG, s_lsh, s_lcmp, s_i2l, s_l2i, s_dup, s_dup2, s_pop, s_if, s_icmp, s_geti, s_getl, s_getr, s_puti, s_putz, s_putl, s_iald, s_zald, s_iast, s_zast, s_aaldS, s_aaldU, s_gets, s_tald, s_tsw, tsw, s_iret, s_zret, s_lret, s_aret, s_vret, s_callV, s_callS, c1, nl1, keepL, csum, pushR, inL, List.getD_cons_zero, List.getD_cons_succ, List.set_cons_zero, List.set_cons_succ, List.cons_append, List.nil_append, List.append_nil, List.replicate, List.length_cons, List.length_nil, List.take_succ_cons, List.take_zero, List.drop_succ_cons, List.drop_zero, List.reverse_cons, List.reverse_nil, true_and, and_true, forall_const, not_true_eq_false, not_false_eq_true, false_implies, true_implies, implies_true, one0, m10, Nat.reduceAdd, Nat.reduceSub, Nat.reduceLeDiff, Nat.zero_add, Nat.add_zero, fn_X12_layTrial, fn_X12_noUser, fn_X12_slotsOn])
        simp only [lM, ax1]
        refine ⟨fun h => absurd h (nI_ge (b := 10) (by omega) (by decide)), fun _ => ⟨⟨_, rfl⟩, av1, ⟨_, _, _, rfl, h1.1, 30, by decide, rfl, h1.2⟩, ?_⟩⟩
        exact inner (nM (bM2 M' j w)) 0 (-9) (by omega) rfl
    dsimp only at hQ
    have hQ2 : ∀ q, q = bs M0 j → Q (some (.inl q.1)) q.2.2 := fun q e => by rw [e]; exact hQ
    have hQ3 := hQ2 (itr (bsMS j) 1 9 (1, -1, M0)) (by rw [bs])
    (apply h15; simp only [BX12_best_15, s_mth, s_mab, s_at, s_iconst, s_lconst, s_iload, s_lload, s_aload, s_istore, s_lstore, s_astore, s_iinc, s_bin, s_binG, s_un, s_lbin, s_lbinG, s_lsh, s_lcmp, s_i2l, s_l2i, s_dup, s_dup2, s_pop, s_if, s_icmp, s_geti, s_getl, s_getr, s_puti, s_putz, s_putl, s_iald, s_zald, s_iast, s_zast, s_aaldS, s_aaldU, s_gets, s_tald, s_tsw, tsw, s_iret, s_zret, s_lret, s_aret, s_vret, s_callV, s_callS, c1, nl1, keepL, csum, pushR, inL, List.getD_cons_zero, List.getD_cons_succ, List.set_cons_zero, List.set_cons_succ, List.cons_append, List.nil_append, List.append_nil, List.replicate, List.length_cons, List.length_nil, List.take_succ_cons, List.take_zero, List.drop_succ_cons, List.drop_zero, List.reverse_cons, List.reverse_nil, true_and, and_true, forall_const, not_true_eq_false, not_false_eq_true, false_implies, true_implies, implies_true, one0, m10, Nat.reduceAdd, Nat.reduceSub, Nat.reduceLeDiff, Nat.zero_add, Nat.add_zero, fn_X12_layTrial, fn_X12_noUser, fn_X12_slotsOn])
    exact loop 9 1 1 (-1) M0 rfl (by decide) hI.1.1 hI.1.2 hQ3
  · rw [if_neg h] at hQ; exact hQ
theorem ct_X12_best (l : Launch) : Con l yX12_best cX12_best 8 (Option.some FieldType.int) 5 pre_X12_best fn_X12_best := con_of (by decide +kernel) ok_X12_best len_X12_best (fun p e s m args below meth c D ca ad A as M hX hr hp ho => pf_X12_best _ _ (bsX12_best_0 hX hr) (bsX12_best_15 hX hr) (bsX12_best_22 hX hr) (bsX12_best_64 hX hr) (bsX12_best_114 hX hr) (bsX12_best_119 hX hr) (bsX12_best_121 hX hr) (bsX12_best_129 hX hr) (bsX12_best_140 hX hr) (bsX12_best_141 hX hr) (bsX12_best_153 hX hr) (bsX12_best_154 hX hr) (bsX12_best_161 hX hr) as M ho hp ⟨rfl, rfl⟩)
def wtM (M : mM) : mM := rset M 167 (cpyR (M.1 167) (M.1 166) 0 52 0)
theorem wtM_n {M : mM} {a : Nat} (h : a ≠ 167) : (wtM M).1 a = M.1 a := rset_n h
theorem wtM_i {M : mM} {j : Nat} (h : j < 52) : (wtM M).1 167 j = M.1 166 j := by
  unfold wtM
  rw [rset_1, cpyR_get, if_pos (by omega), Nat.sub_zero]
theorem PQ_wt {M : mM} (h : PM M) (hG : PG M 166 0) : PQ (wtM M) 167 := by
  refine ⟨PM_of h (by rw [wtM_n (by decide)]) (by rw [wtM_n (by decide)]) (wtM_n (by decide)), by decide, ?_⟩
  rw [wtM_i (by decide)]
  exact hG.2
def pre_X12_whoTried (as : List mV) (M : mM) : Prop := ∃ c b, as = [.inr (.inr (12, c)), .inl b] ∧ PM M ∧ PG M 166 0 ∧ ∃ j, j < 4 ∧ b = nI j
def fn_X12_whoTried : List mV → mM → Option mV × mM
  | [.inr (.inr (_, c)), .inl b], M => (some (.inl ((so (wtM M) 167 0).2.1 176 b.toNatClampNeg)), (so (wtM M) 167 0).2)
  | _, M => (none, M)
theorem ok_X12_whoTried (as : List mV) (M : mM) (h : pre_X12_whoTried as M) (_ : ∀ v ∈ as, okV v) : okR (fn_X12_whoTried as M).1 := by
  obtain ⟨c, b, rfl, -⟩ := h
  first | trivial | exact (by decide +kernel : kof 14 = 8)
theorem len_X12_whoTried (as : List mV) (M : mM) (h : pre_X12_whoTried as M) : (inL as).length ≤ 3 := by
  obtain ⟨c, b, rfl, -⟩ := h
  exact Nat.le_of_ble_eq_true rfl

theorem fl_741 : FLk "FairBlocksModel" 51 12 18 16 := ⟨RX12, TX12, 32, rfl, inX12, by decide, w_741, by decide, rfl⟩
theorem dX12_whoTried_0 : decode cX12_whoTried 0 = .ok (.iconst 0, 1) := by decide +kernel
theorem dX12_whoTried_1 : decode cX12_whoTried 1 = .ok (.istore_n 2, 1) := by decide +kernel
theorem dX12_whoTried_2 : decode cX12_whoTried 2 = .ok (.iload_n 2, 1) := by decide +kernel
theorem dX12_whoTried_3 : decode cX12_whoTried 3 = .ok (.bipush 52, 2) := by decide +kernel
theorem dX12_whoTried_5 : decode cX12_whoTried 5 = .ok (.if_icmp .ge 21, 3) := by decide +kernel
theorem dX12_whoTried_8 : decode cX12_whoTried 8 = .ok (.aload_n 0, 1) := by decide +kernel
theorem dX12_whoTried_9 : decode cX12_whoTried 9 = .ok (.getfield 51, 3) := by decide +kernel
theorem dX12_whoTried_12 : decode cX12_whoTried 12 = .ok (.iload_n 2, 1) := by decide +kernel
theorem dX12_whoTried_13 : decode cX12_whoTried 13 = .ok (.aload_n 0, 1) := by decide +kernel
theorem dX12_whoTried_14 : decode cX12_whoTried 14 = .ok (.getfield 7, 3) := by decide +kernel
theorem dX12_whoTried_17 : decode cX12_whoTried 17 = .ok (.iload_n 2, 1) := by decide +kernel
theorem dX12_whoTried_18 : decode cX12_whoTried 18 = .ok (.iaload, 1) := by decide +kernel
theorem dX12_whoTried_19 : decode cX12_whoTried 19 = .ok (.iastore, 1) := by decide +kernel
theorem dX12_whoTried_20 : decode cX12_whoTried 20 = .ok (.iinc 2 1, 3) := by decide +kernel
theorem dX12_whoTried_23 : decode cX12_whoTried 23 = .ok (.goto (-21), 3) := by decide +kernel
theorem dX12_whoTried_26 : decode cX12_whoTried 26 = .ok (.aload_n 0, 1) := by decide +kernel
theorem dX12_whoTried_27 : decode cX12_whoTried 27 = .ok (.aload_n 0, 1) := by decide +kernel
theorem dX12_whoTried_28 : decode cX12_whoTried 28 = .ok (.getfield 51, 3) := by decide +kernel
theorem dX12_whoTried_31 : decode cX12_whoTried 31 = .ok (.iload_n 1, 1) := by decide +kernel
theorem dX12_whoTried_32 : decode cX12_whoTried 32 = .ok (.invokevirtual 179, 3) := by decide +kernel
theorem dX12_whoTried_35 : decode cX12_whoTried 35 = .ok (.ireturn, 1) := by decide +kernel
theorem mk_X12_whoTried : MVk yX12_whoTried "FairBlocksModel" cX12_whoTried 3 (Option.some FieldType.int) 1 := ⟨w_980, w_979, wp_32, w_13, rfl, by decide +kernel, by decide +kernel, by decide +kernel⟩
def BX12_whoTried_0 (G : Nat → KT) (Q : Option mV → mM → Prop) : KT := (s_iconst (0) (s_istore 2 (s_at G 2 [true, true, true])))
set_option maxRecDepth 4000 in
theorem bsX12_whoTried_0 {p : Program} {l : Launch} {e : Env} {s : State} {m : MethodId} {args : Array Value} {below : List Frame} {meth : Method} {c : Code} {D : va_G} {ca : Nat → ClassId} {ad : Nat → Nat} {A : Nat → Prop} {Q : Option mV → mM → Prop} (hX : CX p s m args meth c 3 cX12_whoTried "FairBlocksModel" D ca ad A) (hr : meth.sig.returnType = (Option.some FieldType.int)) : ∀ lv st M, BX12_whoTried_0 (Gd p l e (rmD 5) s m args below meth c 3 D ca ad A 0 0 (MQ below (QC D ca ad A Q) args s 0 0 A)) Q lv st M → Gd p l e (rmD 5) s m args below meth c 3 D ca ad A 0 0 (MQ below (QC D ca ad A Q) args s 0 0 A) 0 lv st M :=
  (sd_iconst hX dX12_whoTried_0 rfl (sd_istore_n hX (by decide) dX12_whoTried_1 rfl sd_at))
def BX12_whoTried_2 (G : Nat → KT) (Q : Option mV → mM → Prop) : KT := (s_iload 2 (s_iconst (52) (s_icmp (fun x y => y ≤ x) (s_at G 26 [true, true, false]) (s_aload 0 (s_getr 12 13 (fun _ => 167) (s_iload 2 (s_aload 0 (s_getr 12 13 (fun _ => 166) (s_iload 2 (s_iald (s_iast (s_iinc 2 (1) (s_at G 2 [true, true, true])))))))))))))
set_option maxRecDepth 4000 in
theorem bsX12_whoTried_2 {p : Program} {l : Launch} {e : Env} {s : State} {m : MethodId} {args : Array Value} {below : List Frame} {meth : Method} {c : Code} {D : va_G} {ca : Nat → ClassId} {ad : Nat → Nat} {A : Nat → Prop} {Q : Option mV → mM → Prop} (hX : CX p s m args meth c 3 cX12_whoTried "FairBlocksModel" D ca ad A) (hr : meth.sig.returnType = (Option.some FieldType.int)) : ∀ lv st M, BX12_whoTried_2 (Gd p l e (rmD 5) s m args below meth c 3 D ca ad A 0 0 (MQ below (QC D ca ad A Q) args s 0 0 A)) Q lv st M → Gd p l e (rmD 5) s m args below meth c 3 D ca ad A 0 0 (MQ below (QC D ca ad A Q) args s 0 0 A) 2 lv st M :=
  (sd_iload_n hX dX12_whoTried_2 rfl (sd_bipush hX dX12_whoTried_3 rfl (sd_icmp_ge hX dX12_whoTried_5 (by decide) sd_at (sd_aload_n hX dX12_whoTried_8 rfl (sd_getr hX fl_741 (fun _ => rfl) (fun _ _ _ => by decide +kernel) dX12_whoTried_9 (sd_iload_n hX dX12_whoTried_12 rfl (sd_aload_n hX dX12_whoTried_13 rfl (sd_getr hX fl_740 (fun _ => rfl) (fun _ _ _ => by decide +kernel) dX12_whoTried_14 (sd_iload_n hX dX12_whoTried_17 rfl (sd_iald hX dX12_whoTried_18 (sd_iast hX dX12_whoTried_19 (sd_iinc hX (by decide) dX12_whoTried_20 rfl (sd_goto hX dX12_whoTried_23 (by decide) sd_at)))))))))))))
def BX12_whoTried_26 (G : Nat → KT) (Q : Option mV → mM → Prop) : KT := (s_aload 0 (s_aload 0 (s_getr 12 13 (fun _ => 167) (s_iload 1 (s_callV 12 2 pre_X12_whoNext fn_X12_whoNext (s_iret Q))))))
set_option maxRecDepth 4000 in
theorem bsX12_whoTried_26 {p : Program} {l : Launch} {e : Env} {s : State} {m : MethodId} {args : Array Value} {below : List Frame} {meth : Method} {c : Code} {D : va_G} {ca : Nat → ClassId} {ad : Nat → Nat} {A : Nat → Prop} {Q : Option mV → mM → Prop} (hX : CX p s m args meth c 3 cX12_whoTried "FairBlocksModel" D ca ad A) (hr : meth.sig.returnType = (Option.some FieldType.int)) : ∀ lv st M, BX12_whoTried_26 (Gd p l e (rmD 5) s m args below meth c 3 D ca ad A 0 0 (MQ below (QC D ca ad A Q) args s 0 0 A)) Q lv st M → Gd p l e (rmD 5) s m args below meth c 3 D ca ad A 0 0 (MQ below (QC D ca ad A Q) args s 0 0 A) 26 lv st M :=
  (sd_aload_n hX dX12_whoTried_26 rfl (sd_aload_n hX dX12_whoTried_27 rfl (sd_getr hX fl_741 (fun _ => rfl) (fun _ _ _ => by decide +kernel) dX12_whoTried_28 (sd_iload_n hX dX12_whoTried_31 rfl (sd_callV hX (kd := 12) rfl (by decide) (ct_X12_whoNext l) mk_X12_whoNext w_948 ⟨⟨by decide, by decide⟩, by decide, by decide⟩ dX12_whoTried_32 (sd_iret hX hr dX12_whoTried_35))))))
set_option maxHeartbeats 400000 in
theorem pf_X12_whoTried (G : Nat → KT) (Q : Option mV → mM → Prop) (h0 : ∀ lv st M, BX12_whoTried_0 G Q lv st M → G 0 lv st M) (h2 : ∀ lv st M, BX12_whoTried_2 G Q lv st M → G 2 lv st M) (h26 : ∀ lv st M, BX12_whoTried_26 G Q lv st M → G 26 lv st M) (as : List mV) (M : mM) (ho : ∀ v ∈ as, okV v) (hp : pre_X12_whoTried as M) (hQ : Q (fn_X12_whoTried as M).1 (fn_X12_whoTried as M).2) : G 0 (inL as ++ List.replicate (3 - (inL as).length) none) [] M := by
  obtain ⟨c, b, rfl, hP, hG, B, hB, rfl⟩ := hp
  simp only [fn_X12_whoTried] at hQ
  have L : ∀ M1, M1 = wtM M → G 26 [some (.inr (.inr (12, c))), some (.inl (nI B)), none] [] M1 := by
    rintro _ rfl
    (apply h26; simp only [BX12_whoTried_26, s_mth, s_mab, s_at, s_iconst, s_lconst, s_iload, s_lload, s_aload, s_istore, s_lstore, s_astore, s_iinc, s_bin, s_binG, s_un, s_lbin, s_lbinG, s_lsh, s_lcmp, s_i2l, s_l2i, s_dup, s_dup2, s_pop, s_if, s_icmp, s_geti, s_getl, s_getr, s_puti, s_putz, s_putl, s_iald, s_zald, s_iast, s_zast, s_aaldS, s_aaldU, s_gets, s_tald, s_tsw, tsw, s_iret, s_zret, s_lret, s_aret, s_vret, s_callV, s_callS, c1, nl1, keepL, csum, pushR, inL, List.getD_cons_zero, List.getD_cons_succ, List.set_cons_zero, List.set_cons_succ, List.cons_append, List.nil_append, List.append_nil, List.replicate, List.length_cons, List.length_nil, List.take_succ_cons, List.take_zero, List.drop_succ_cons, List.drop_zero, List.reverse_cons, List.reverse_nil, true_and, and_true, forall_const, not_true_eq_false, not_false_eq_true, false_implies, true_implies, implies_true, one0, m10, Nat.reduceAdd, Nat.reduceSub, Nat.reduceLeDiff, Nat.zero_add, Nat.add_zero, fn_X12_whoNext])
    exact ⟨⟨_, _, _, rfl, PQ_wt hP hG, B, hB, rfl⟩, hQ⟩
  have loop : ∀ (n i : Nat) (M' : mM), i + n = 52 → M'.1 166 = M.1 166 → cpyM M' 167 (M.1 166) 0 n i = wtM M → G 2 [some (.inr (.inr (12, c))), some (.inl (nI B)), some (.inl (nI i))] [] M' := by
    intro n
    induction n with
    | zero =>
      intro i M' hi h165 hq
      obtain rfl : i = 52 := by omega
      (apply h2; simp only [BX12_whoTried_2, s_mth, s_mab, s_at, s_iconst, s_lconst, s_iload, s_lload, s_aload, s_istore, s_lstore, s_astore, s_iinc, s_bin, s_binG, s_un, s_lbin, s_lbinG, s_lsh, s_lcmp, s_i2l, s_l2i, s_dup, s_dup2, s_pop, s_if, s_icmp, s_geti, s_getl, s_getr, s_puti, s_putz, s_putl, s_iald, s_zald, s_iast, s_zast, s_aaldS, s_aaldU, s_gets, s_tald, s_tsw, tsw, s_iret, s_zret, s_lret, s_aret, s_vret, s_callV, s_callS, c1, nl1, keepL, csum, pushR, inL, List.getD_cons_zero, List.getD_cons_succ, List.set_cons_zero, List.set_cons_succ, List.cons_append, List.nil_append, List.append_nil, List.replicate, List.length_cons, List.length_nil, List.take_succ_cons, List.take_zero, List.drop_succ_cons, List.drop_zero, List.reverse_cons, List.reverse_nil, true_and, and_true, forall_const, not_true_eq_false, not_false_eq_true, false_implies, true_implies, implies_true, one0, m10, Nat.reduceAdd, Nat.reduceSub, Nat.reduceLeDiff, Nat.zero_add, Nat.add_zero, fn_X12_whoNext])
      refine ⟨fun _ => ?_, fun h => absurd (by decide) h⟩
      exact L _ hq
    | succ n ih =>
      intro i M' hi h165 hq
      have ei : (nI i).toNatClampNeg = i := nI_clamp (by omega)
      have hv : vp_in (nI i) 52 := vp_in_nI (by omega) (by decide)
      (apply h2; simp only [BX12_whoTried_2, s_mth, s_mab, s_at, s_iconst, s_lconst, s_iload, s_lload, s_aload, s_istore, s_lstore, s_astore, s_iinc, s_bin, s_binG, s_un, s_lbin, s_lbinG, s_lsh, s_lcmp, s_i2l, s_l2i, s_dup, s_dup2, s_pop, s_if, s_icmp, s_geti, s_getl, s_getr, s_puti, s_putz, s_putl, s_iald, s_zald, s_iast, s_zast, s_aaldS, s_aaldU, s_gets, s_tald, s_tsw, tsw, s_iret, s_zret, s_lret, s_aret, s_vret, s_callV, s_callS, c1, nl1, keepL, csum, pushR, inL, List.getD_cons_zero, List.getD_cons_succ, List.set_cons_zero, List.set_cons_succ, List.cons_append, List.nil_append, List.append_nil, List.replicate, List.length_cons, List.length_nil, List.take_succ_cons, List.take_zero, List.drop_succ_cons, List.drop_zero, List.reverse_cons, List.reverse_nil, true_and, and_true, forall_const, not_true_eq_false, not_false_eq_true, false_implies, true_implies, implies_true, one0, m10, Nat.reduceAdd, Nat.reduceSub, Nat.reduceLeDiff, Nat.zero_add, Nat.add_zero, fn_X12_whoNext])
      simp only [lM, ei, h165]
      refine ⟨fun h => absurd h (nI_ge (b := 52) (by omega) (by decide)), fun _ => ⟨hv, hv, ?_⟩⟩
      rw [nI_1]
      refine ih (i + 1) _ (by omega) ?_ ?_
      · rw [mset_n (by decide)]; exact h165
      · rw [cpyM, Nat.zero_add] at hq; exact hq
  (apply h0; simp only [BX12_whoTried_0, s_mth, s_mab, s_at, s_iconst, s_lconst, s_iload, s_lload, s_aload, s_istore, s_lstore, s_astore, s_iinc, s_bin, s_binG, s_un, s_lbin, s_lbinG, s_lsh, s_lcmp, s_i2l, s_l2i, s_dup, s_dup2, s_pop, s_if, s_icmp, s_geti, s_getl, s_getr, s_puti, s_putz, s_putl, s_iald, s_zald, s_iast, s_zast, s_aaldS, s_aaldU, s_gets, s_tald, s_tsw, tsw, s_iret, s_zret, s_lret, s_aret, s_vret, s_callV, s_callS, c1, nl1, keepL, csum, pushR, inL, List.getD_cons_zero, List.getD_cons_succ, List.set_cons_zero, List.set_cons_succ, List.cons_append, List.nil_append, List.append_nil, List.replicate, List.length_cons, List.length_nil, List.take_succ_cons, List.take_zero, List.drop_succ_cons, List.drop_zero, List.reverse_cons, List.reverse_nil, true_and, and_true, forall_const, not_true_eq_false, not_false_eq_true, false_implies, true_implies, implies_true, one0, m10, Nat.reduceAdd, Nat.reduceSub, Nat.reduceLeDiff, Nat.zero_add, Nat.add_zero, fn_X12_whoNext])
  exact loop 52 0 M rfl rfl (cpyM_e _ _ _)
theorem ct_X12_whoTried (l : Launch) : Con l yX12_whoTried cX12_whoTried 3 (Option.some FieldType.int) 5 pre_X12_whoTried fn_X12_whoTried := con_of (by decide +kernel) ok_X12_whoTried len_X12_whoTried (fun p e s m args below meth c D ca ad A as M hX hr hp ho => pf_X12_whoTried _ _ (bsX12_whoTried_0 hX hr) (bsX12_whoTried_2 hX hr) (bsX12_whoTried_26 hX hr) as M ho hp ⟨rfl, rfl⟩)
def dz1 (M : mM) (a b : Int32) : Int32 × mM := (if 10 * a + b ≤ 0 then 0 else 1, (sos M 166 (10 * a + b).toNatClampNeg).2)
def dz2 (M : mM) (a b : Int32) : Int32 × mM := if a = 0 then (if nu M b = 0 then (1, mset M 166 (10 * b.toNatClampNeg + 3) (1 - M.1 166 (10 * b.toNatClampNeg + 3))) else (0, M)) else (0, M)
def dz3 (M : mM) (a b : Int32) : Int32 × mM := if a = 0 then (if nu M b = 0 then (1, mset (mset M 166 (10 * b.toNatClampNeg + 4) 0) 166 (10 * b.toNatClampNeg + 5) 0) else (0, M)) else (0, M)
def dz4 (M : mM) (a b : Int32) : Int32 × mM := if nu M a = 0 then (if b = 0 then (0, M) else (1, mset M 166 (10 * a.toNatClampNeg + 1) b)) else (0, M)
def dz5 (M : mM) (a b : Int32) : Int32 × mM := if nu M a = 0 then (if M.1 166 (10 * a.toNatClampNeg + 7) = b then (1, M) else (0, M)) else (0, M)
def dz6 (M : mM) (a b : Int32) : Int32 × mM := if nu M a = 0 then (if M.1 158 4 ≤ b then (0, M) else (if (so (wtM M) 167 0).2.1 176 b.toNatClampNeg = a then 1 else 0, (so (wtM M) 167 0).2)) else (0, M)
def dz7 (M : mM) (a b : Int32) : Int32 × mM := if nu M a = 0 then (if 2 ≤ b then (0, M) else (if ha M 166 a.toNatClampNeg = (if b = 1 then 1 else 0) then 1 else 0, M)) else (0, M)
def dz (M : mM) (h a b : Int32) : Int32 × mM := if h.toInt = 1 then dz1 M a b else if h.toInt = 2 then dz2 M a b else if h.toInt = 3 then dz3 M a b else if h.toInt = 4 then dz4 M a b else if h.toInt = 5 then dz5 M a b else if h.toInt = 6 then dz6 M a b else if h.toInt = 7 then dz7 M a b else (0, M)
def pre_X12_does (as : List mV) (M : mM) : Prop := ∃ c h a b, as = [.inr (.inr (12, c)), .inl h, .inl a, .inl b] ∧ PM M ∧ PG M 166 100 ∧ (∃ j, j ≤ 9 ∧ a = nI j) ∧ ∃ j, j ≤ 9 ∧ b = nI j
def fn_X12_does : List mV → mM → Option mV × mM
  | [.inr (.inr (_, c)), .inl h, .inl a, .inl b], M => (some (.inl (dz M h a b).1), (dz M h a b).2)
  | _, M => (none, M)
theorem ok_X12_does (as : List mV) (M : mM) (h : pre_X12_does as M) (_ : ∀ v ∈ as, okV v) : okR (fn_X12_does as M).1 := by
  obtain ⟨c, h, a, b, rfl, -⟩ := h
  first | trivial | exact (by decide +kernel : kof 14 = 8)
theorem len_X12_does (as : List mV) (M : mM) (h : pre_X12_does as M) : (inL as).length ≤ 4 := by
  obtain ⟨c, h, a, b, rfl, -⟩ := h
  exact Nat.le_of_ble_eq_true rfl


theorem dX12_does_0 : decode cX12_does 0 = .ok (.iload_n 1, 1) := by decide +kernel
theorem dX12_does_1 : decode cX12_does 1 = .ok (.tableswitch 282 1 7 #[43, 73, 113, 153, 181, 211, 242], 43) := by decide +kernel
theorem dX12_does_44 : decode cX12_does 44 = .ok (.aload_n 0, 1) := by decide +kernel
theorem dX12_does_45 : decode cX12_does 45 = .ok (.aload_n 0, 1) := by decide +kernel
theorem dX12_does_46 : decode cX12_does 46 = .ok (.getfield 7, 3) := by decide +kernel
theorem dX12_does_49 : decode cX12_does 49 = .ok (.bipush 10, 2) := by decide +kernel
theorem dX12_does_51 : decode cX12_does 51 = .ok (.iload_n 2, 1) := by decide +kernel
theorem dX12_does_52 : decode cX12_does 52 = .ok (.imul, 1) := by decide +kernel
theorem dX12_does_53 : decode cX12_does 53 = .ok (.iload_n 3, 1) := by decide +kernel
theorem dX12_does_54 : decode cX12_does 54 = .ok (.iadd, 1) := by decide +kernel
theorem dX12_does_55 : decode cX12_does 55 = .ok (.invokevirtual 167, 3) := by decide +kernel
theorem dX12_does_58 : decode cX12_does 58 = .ok (.pop, 1) := by decide +kernel
theorem dX12_does_59 : decode cX12_does 59 = .ok (.bipush 10, 2) := by decide +kernel
theorem dX12_does_61 : decode cX12_does 61 = .ok (.iload_n 2, 1) := by decide +kernel
theorem dX12_does_62 : decode cX12_does 62 = .ok (.imul, 1) := by decide +kernel
theorem dX12_does_63 : decode cX12_does 63 = .ok (.iload_n 3, 1) := by decide +kernel
theorem dX12_does_64 : decode cX12_does 64 = .ok (.iadd, 1) := by decide +kernel
theorem dX12_does_65 : decode cX12_does 65 = .ok (.ifCond .le 7, 3) := by decide +kernel
theorem dX12_does_68 : decode cX12_does 68 = .ok (.iconst 1, 1) := by decide +kernel
theorem dX12_does_69 : decode cX12_does 69 = .ok (.goto 4, 3) := by decide +kernel
theorem dX12_does_72 : decode cX12_does 72 = .ok (.iconst 0, 1) := by decide +kernel
theorem dX12_does_73 : decode cX12_does 73 = .ok (.ireturn, 1) := by decide +kernel
theorem dX12_does_74 : decode cX12_does 74 = .ok (.iload_n 2, 1) := by decide +kernel
theorem dX12_does_75 : decode cX12_does 75 = .ok (.ifCond .ne 11, 3) := by decide +kernel
theorem dX12_does_78 : decode cX12_does 78 = .ok (.aload_n 0, 1) := by decide +kernel
theorem dX12_does_79 : decode cX12_does 79 = .ok (.iload_n 3, 1) := by decide +kernel
theorem dX12_does_80 : decode cX12_does 80 = .ok (.invokevirtual 156, 3) := by decide +kernel
theorem dX12_does_83 : decode cX12_does 83 = .ok (.ifCond .eq 5, 3) := by decide +kernel
theorem dX12_does_86 : decode cX12_does 86 = .ok (.iconst 0, 1) := by decide +kernel
theorem dX12_does_87 : decode cX12_does 87 = .ok (.ireturn, 1) := by decide +kernel
theorem dX12_does_88 : decode cX12_does 88 = .ok (.aload_n 0, 1) := by decide +kernel
theorem dX12_does_89 : decode cX12_does 89 = .ok (.getfield 7, 3) := by decide +kernel
theorem dX12_does_92 : decode cX12_does 92 = .ok (.bipush 10, 2) := by decide +kernel
theorem dX12_does_94 : decode cX12_does 94 = .ok (.iload_n 3, 1) := by decide +kernel
theorem dX12_does_95 : decode cX12_does 95 = .ok (.imul, 1) := by decide +kernel
theorem dX12_does_96 : decode cX12_does 96 = .ok (.iconst 3, 1) := by decide +kernel
theorem dX12_does_97 : decode cX12_does 97 = .ok (.iadd, 1) := by decide +kernel
theorem dX12_does_98 : decode cX12_does 98 = .ok (.iconst 1, 1) := by decide +kernel
theorem dX12_does_99 : decode cX12_does 99 = .ok (.aload_n 0, 1) := by decide +kernel
theorem dX12_does_100 : decode cX12_does 100 = .ok (.getfield 7, 3) := by decide +kernel
theorem dX12_does_103 : decode cX12_does 103 = .ok (.bipush 10, 2) := by decide +kernel
theorem dX12_does_105 : decode cX12_does 105 = .ok (.iload_n 3, 1) := by decide +kernel
theorem dX12_does_106 : decode cX12_does 106 = .ok (.imul, 1) := by decide +kernel
theorem dX12_does_107 : decode cX12_does 107 = .ok (.iconst 3, 1) := by decide +kernel
theorem dX12_does_108 : decode cX12_does 108 = .ok (.iadd, 1) := by decide +kernel
theorem dX12_does_109 : decode cX12_does 109 = .ok (.iaload, 1) := by decide +kernel
theorem dX12_does_110 : decode cX12_does 110 = .ok (.isub, 1) := by decide +kernel
theorem dX12_does_111 : decode cX12_does 111 = .ok (.iastore, 1) := by decide +kernel
theorem dX12_does_112 : decode cX12_does 112 = .ok (.iconst 1, 1) := by decide +kernel
theorem dX12_does_113 : decode cX12_does 113 = .ok (.ireturn, 1) := by decide +kernel
theorem dX12_does_114 : decode cX12_does 114 = .ok (.iload_n 2, 1) := by decide +kernel
theorem dX12_does_115 : decode cX12_does 115 = .ok (.ifCond .ne 11, 3) := by decide +kernel
theorem dX12_does_118 : decode cX12_does 118 = .ok (.aload_n 0, 1) := by decide +kernel
theorem dX12_does_119 : decode cX12_does 119 = .ok (.iload_n 3, 1) := by decide +kernel
theorem dX12_does_120 : decode cX12_does 120 = .ok (.invokevirtual 156, 3) := by decide +kernel
theorem dX12_does_123 : decode cX12_does 123 = .ok (.ifCond .eq 5, 3) := by decide +kernel
theorem dX12_does_126 : decode cX12_does 126 = .ok (.iconst 0, 1) := by decide +kernel
theorem dX12_does_127 : decode cX12_does 127 = .ok (.ireturn, 1) := by decide +kernel
theorem dX12_does_128 : decode cX12_does 128 = .ok (.aload_n 0, 1) := by decide +kernel
theorem dX12_does_129 : decode cX12_does 129 = .ok (.getfield 7, 3) := by decide +kernel
theorem dX12_does_132 : decode cX12_does 132 = .ok (.bipush 10, 2) := by decide +kernel
theorem dX12_does_134 : decode cX12_does 134 = .ok (.iload_n 3, 1) := by decide +kernel
theorem dX12_does_135 : decode cX12_does 135 = .ok (.imul, 1) := by decide +kernel
theorem dX12_does_136 : decode cX12_does 136 = .ok (.iconst 4, 1) := by decide +kernel
theorem dX12_does_137 : decode cX12_does 137 = .ok (.iadd, 1) := by decide +kernel
theorem dX12_does_138 : decode cX12_does 138 = .ok (.iconst 0, 1) := by decide +kernel
theorem dX12_does_139 : decode cX12_does 139 = .ok (.iastore, 1) := by decide +kernel
theorem dX12_does_140 : decode cX12_does 140 = .ok (.aload_n 0, 1) := by decide +kernel
theorem dX12_does_141 : decode cX12_does 141 = .ok (.getfield 7, 3) := by decide +kernel
theorem dX12_does_144 : decode cX12_does 144 = .ok (.bipush 10, 2) := by decide +kernel
theorem dX12_does_146 : decode cX12_does 146 = .ok (.iload_n 3, 1) := by decide +kernel
theorem dX12_does_147 : decode cX12_does 147 = .ok (.imul, 1) := by decide +kernel
theorem dX12_does_148 : decode cX12_does 148 = .ok (.iconst 5, 1) := by decide +kernel
theorem dX12_does_149 : decode cX12_does 149 = .ok (.iadd, 1) := by decide +kernel
theorem dX12_does_150 : decode cX12_does 150 = .ok (.iconst 0, 1) := by decide +kernel
theorem dX12_does_151 : decode cX12_does 151 = .ok (.iastore, 1) := by decide +kernel
theorem dX12_does_152 : decode cX12_does 152 = .ok (.iconst 1, 1) := by decide +kernel
theorem dX12_does_153 : decode cX12_does 153 = .ok (.ireturn, 1) := by decide +kernel
theorem dX12_does_154 : decode cX12_does 154 = .ok (.aload_n 0, 1) := by decide +kernel
theorem dX12_does_155 : decode cX12_does 155 = .ok (.iload_n 2, 1) := by decide +kernel
theorem dX12_does_156 : decode cX12_does 156 = .ok (.invokevirtual 156, 3) := by decide +kernel
theorem dX12_does_159 : decode cX12_does 159 = .ok (.ifCond .ne 7, 3) := by decide +kernel
theorem dX12_does_162 : decode cX12_does 162 = .ok (.iload_n 3, 1) := by decide +kernel
theorem dX12_does_163 : decode cX12_does 163 = .ok (.ifCond .ne 5, 3) := by decide +kernel
theorem dX12_does_166 : decode cX12_does 166 = .ok (.iconst 0, 1) := by decide +kernel
theorem dX12_does_167 : decode cX12_does 167 = .ok (.ireturn, 1) := by decide +kernel
theorem dX12_does_168 : decode cX12_does 168 = .ok (.aload_n 0, 1) := by decide +kernel
theorem dX12_does_169 : decode cX12_does 169 = .ok (.getfield 7, 3) := by decide +kernel
theorem dX12_does_172 : decode cX12_does 172 = .ok (.bipush 10, 2) := by decide +kernel
theorem dX12_does_174 : decode cX12_does 174 = .ok (.iload_n 2, 1) := by decide +kernel
theorem dX12_does_175 : decode cX12_does 175 = .ok (.imul, 1) := by decide +kernel
theorem dX12_does_176 : decode cX12_does 176 = .ok (.iconst 1, 1) := by decide +kernel
theorem dX12_does_177 : decode cX12_does 177 = .ok (.iadd, 1) := by decide +kernel
theorem dX12_does_178 : decode cX12_does 178 = .ok (.iload_n 3, 1) := by decide +kernel
theorem dX12_does_179 : decode cX12_does 179 = .ok (.iastore, 1) := by decide +kernel
theorem dX12_does_180 : decode cX12_does 180 = .ok (.iconst 1, 1) := by decide +kernel
theorem dX12_does_181 : decode cX12_does 181 = .ok (.ireturn, 1) := by decide +kernel
theorem dX12_does_182 : decode cX12_does 182 = .ok (.aload_n 0, 1) := by decide +kernel
theorem dX12_does_183 : decode cX12_does 183 = .ok (.iload_n 2, 1) := by decide +kernel
theorem dX12_does_184 : decode cX12_does 184 = .ok (.invokevirtual 156, 3) := by decide +kernel
theorem dX12_does_187 : decode cX12_does 187 = .ok (.ifCond .ne 23, 3) := by decide +kernel
theorem dX12_does_190 : decode cX12_does 190 = .ok (.aload_n 0, 1) := by decide +kernel
theorem dX12_does_191 : decode cX12_does 191 = .ok (.getfield 7, 3) := by decide +kernel
theorem dX12_does_194 : decode cX12_does 194 = .ok (.bipush 10, 2) := by decide +kernel
theorem dX12_does_196 : decode cX12_does 196 = .ok (.iload_n 2, 1) := by decide +kernel
theorem dX12_does_197 : decode cX12_does 197 = .ok (.imul, 1) := by decide +kernel
theorem dX12_does_198 : decode cX12_does 198 = .ok (.bipush 7, 2) := by decide +kernel
theorem dX12_does_200 : decode cX12_does 200 = .ok (.iadd, 1) := by decide +kernel
theorem dX12_does_201 : decode cX12_does 201 = .ok (.iaload, 1) := by decide +kernel
theorem dX12_does_202 : decode cX12_does 202 = .ok (.iload_n 3, 1) := by decide +kernel
theorem dX12_does_203 : decode cX12_does 203 = .ok (.if_icmp .ne 7, 3) := by decide +kernel
theorem dX12_does_206 : decode cX12_does 206 = .ok (.iconst 1, 1) := by decide +kernel
theorem dX12_does_207 : decode cX12_does 207 = .ok (.goto 4, 3) := by decide +kernel
theorem dX12_does_210 : decode cX12_does 210 = .ok (.iconst 0, 1) := by decide +kernel
theorem dX12_does_211 : decode cX12_does 211 = .ok (.ireturn, 1) := by decide +kernel
theorem dX12_does_212 : decode cX12_does 212 = .ok (.aload_n 0, 1) := by decide +kernel
theorem dX12_does_213 : decode cX12_does 213 = .ok (.iload_n 2, 1) := by decide +kernel
theorem dX12_does_214 : decode cX12_does 214 = .ok (.invokevirtual 156, 3) := by decide +kernel
theorem dX12_does_217 : decode cX12_does 217 = .ok (.ifCond .ne 24, 3) := by decide +kernel
theorem dX12_does_220 : decode cX12_does 220 = .ok (.iload_n 3, 1) := by decide +kernel
theorem dX12_does_221 : decode cX12_does 221 = .ok (.aload_n 0, 1) := by decide +kernel
theorem dX12_does_222 : decode cX12_does 222 = .ok (.getfield 30, 3) := by decide +kernel
theorem dX12_does_225 : decode cX12_does 225 = .ok (.if_icmp .ge 16, 3) := by decide +kernel
theorem dX12_does_228 : decode cX12_does 228 = .ok (.aload_n 0, 1) := by decide +kernel
theorem dX12_does_229 : decode cX12_does 229 = .ok (.iload_n 3, 1) := by decide +kernel
theorem dX12_does_230 : decode cX12_does 230 = .ok (.invokevirtual 182, 3) := by decide +kernel
theorem dX12_does_233 : decode cX12_does 233 = .ok (.iload_n 2, 1) := by decide +kernel
theorem dX12_does_234 : decode cX12_does 234 = .ok (.if_icmp .ne 7, 3) := by decide +kernel
theorem dX12_does_237 : decode cX12_does 237 = .ok (.iconst 1, 1) := by decide +kernel
theorem dX12_does_238 : decode cX12_does 238 = .ok (.goto 4, 3) := by decide +kernel
theorem dX12_does_241 : decode cX12_does 241 = .ok (.iconst 0, 1) := by decide +kernel
theorem dX12_does_242 : decode cX12_does 242 = .ok (.ireturn, 1) := by decide +kernel
theorem dX12_does_243 : decode cX12_does 243 = .ok (.aload_n 0, 1) := by decide +kernel
theorem dX12_does_244 : decode cX12_does 244 = .ok (.iload_n 2, 1) := by decide +kernel
theorem dX12_does_245 : decode cX12_does 245 = .ok (.invokevirtual 156, 3) := by decide +kernel
theorem dX12_does_248 : decode cX12_does 248 = .ok (.ifCond .ne 33, 3) := by decide +kernel
theorem dX12_does_251 : decode cX12_does 251 = .ok (.iload_n 3, 1) := by decide +kernel
theorem dX12_does_252 : decode cX12_does 252 = .ok (.iconst 2, 1) := by decide +kernel
theorem dX12_does_253 : decode cX12_does 253 = .ok (.if_icmp .ge 28, 3) := by decide +kernel
theorem dX12_does_256 : decode cX12_does 256 = .ok (.aload_n 0, 1) := by decide +kernel
theorem dX12_does_257 : decode cX12_does 257 = .ok (.getfield 7, 3) := by decide +kernel
theorem dX12_does_260 : decode cX12_does 260 = .ok (.iload_n 2, 1) := by decide +kernel
theorem dX12_does_261 : decode cX12_does 261 = .ok (.invokestatic 127, 3) := by decide +kernel
theorem dX12_does_264 : decode cX12_does 264 = .ok (.iload_n 3, 1) := by decide +kernel
theorem dX12_does_265 : decode cX12_does 265 = .ok (.iconst 1, 1) := by decide +kernel
theorem dX12_does_266 : decode cX12_does 266 = .ok (.if_icmp .ne 7, 3) := by decide +kernel
theorem dX12_does_269 : decode cX12_does 269 = .ok (.iconst 1, 1) := by decide +kernel
theorem dX12_does_270 : decode cX12_does 270 = .ok (.goto 4, 3) := by decide +kernel
theorem dX12_does_273 : decode cX12_does 273 = .ok (.iconst 0, 1) := by decide +kernel
theorem dX12_does_274 : decode cX12_does 274 = .ok (.if_icmp .ne 7, 3) := by decide +kernel
theorem dX12_does_277 : decode cX12_does 277 = .ok (.iconst 1, 1) := by decide +kernel
theorem dX12_does_278 : decode cX12_does 278 = .ok (.goto 4, 3) := by decide +kernel
theorem dX12_does_281 : decode cX12_does 281 = .ok (.iconst 0, 1) := by decide +kernel
theorem dX12_does_282 : decode cX12_does 282 = .ok (.ireturn, 1) := by decide +kernel
theorem dX12_does_283 : decode cX12_does 283 = .ok (.iconst 0, 1) := by decide +kernel
theorem dX12_does_284 : decode cX12_does 284 = .ok (.ireturn, 1) := by decide +kernel
theorem mk_X12_does : MVk yX12_does "FairBlocksModel" cX12_does 4 (Option.some FieldType.boolean) 3 := ⟨w_976, w_975, wp_31, w_13, rfl, by decide +kernel, by decide +kernel, by decide +kernel⟩
def BX12_does_0 (G : Nat → KT) (Q : Option mV → mM → Prop) : KT := (s_iload 1 (s_tsw (1) (7) [s_at G 44 [true, false, true, true], s_at G 74 [true, false, true, true], s_at G 114 [true, false, true, true], s_at G 154 [true, false, true, true], s_at G 182 [true, false, true, true], s_at G 212 [true, false, true, true], s_at G 243 [true, false, true, true]] (s_at G 283 [false, false, false, false])))
set_option maxRecDepth 4000 in
theorem bsX12_does_0 {p : Program} {l : Launch} {e : Env} {s : State} {m : MethodId} {args : Array Value} {below : List Frame} {meth : Method} {c : Code} {D : va_G} {ca : Nat → ClassId} {ad : Nat → Nat} {A : Nat → Prop} {Q : Option mV → mM → Prop} (hX : CX p s m args meth c 4 cX12_does "FairBlocksModel" D ca ad A) (hr : meth.sig.returnType = (Option.some FieldType.boolean)) : ∀ lv st M, BX12_does_0 (Gd p l e (rmD 6) s m args below meth c 4 D ca ad A 0 0 (MQ below (QC D ca ad A Q) args s 0 0 A)) Q lv st M → Gd p l e (rmD 6) s m args below meth c 4 D ca ad A 0 0 (MQ below (QC D ca ad A Q) args s 0 0 A) 0 lv st M :=
  (sd_iload_n hX dX12_does_0 rfl (sd_tsw hX dX12_does_1 (ts := [44, 74, 114, 154, 182, 212, 243]) (td := 283) (by decide) (by decide) rfl ⟨sd_at, sd_at, sd_at, sd_at, sd_at, sd_at, sd_at, trivial⟩ sd_at))
def BX12_does_44 (G : Nat → KT) (Q : Option mV → mM → Prop) : KT := (s_aload 0 (s_aload 0 (s_getr 12 13 (fun _ => 166) (s_iconst (10) (s_iload 2 (s_bin (fun x y => x * y) (s_iload 3 (s_bin (fun x y => x + y) (s_callV 12 2 pre_X12_slotsOn fn_X12_slotsOn (s_pop (s_iconst (10) (s_iload 2 (s_bin (fun x y => x * y) (s_iload 3 (s_bin (fun x y => x + y) (s_if (fun x => x ≤ 0) (s_at G 72 [false, false, false, false]) (s_iconst (1) (s_at G 73 [false, false, false, false]))))))))))))))))))
set_option maxRecDepth 4000 in
theorem bsX12_does_44 {p : Program} {l : Launch} {e : Env} {s : State} {m : MethodId} {args : Array Value} {below : List Frame} {meth : Method} {c : Code} {D : va_G} {ca : Nat → ClassId} {ad : Nat → Nat} {A : Nat → Prop} {Q : Option mV → mM → Prop} (hX : CX p s m args meth c 4 cX12_does "FairBlocksModel" D ca ad A) (hr : meth.sig.returnType = (Option.some FieldType.boolean)) : ∀ lv st M, BX12_does_44 (Gd p l e (rmD 6) s m args below meth c 4 D ca ad A 0 0 (MQ below (QC D ca ad A Q) args s 0 0 A)) Q lv st M → Gd p l e (rmD 6) s m args below meth c 4 D ca ad A 0 0 (MQ below (QC D ca ad A Q) args s 0 0 A) 44 lv st M :=
  (sd_aload_n hX dX12_does_44 rfl (sd_aload_n hX dX12_does_45 rfl (sd_getr hX fl_740 (fun _ => rfl) (fun _ _ _ => by decide +kernel) dX12_does_46 (sd_bipush hX dX12_does_49 rfl (sd_iload_n hX dX12_does_51 rfl (sd_imul hX dX12_does_52 (sd_iload_n hX dX12_does_53 rfl (sd_iadd hX dX12_does_54 (sd_callV hX (kd := 12) rfl (by decide) (ct_X12_slotsOn l) mk_X12_slotsOn w_878 ⟨⟨by decide, by decide⟩, by decide, by decide⟩ dX12_does_55 (sd_pop hX dX12_does_58 (sd_bipush hX dX12_does_59 rfl (sd_iload_n hX dX12_does_61 rfl (sd_imul hX dX12_does_62 (sd_iload_n hX dX12_does_63 rfl (sd_iadd hX dX12_does_64 (sd_if_le hX dX12_does_65 (by decide) sd_at (sd_iconst hX dX12_does_68 rfl (sd_goto hX dX12_does_69 (by decide) sd_at))))))))))))))))))
def BX12_does_72 (G : Nat → KT) (Q : Option mV → mM → Prop) : KT := (s_iconst (0) (s_at G 73 [false, false, false, false]))
set_option maxRecDepth 4000 in
theorem bsX12_does_72 {p : Program} {l : Launch} {e : Env} {s : State} {m : MethodId} {args : Array Value} {below : List Frame} {meth : Method} {c : Code} {D : va_G} {ca : Nat → ClassId} {ad : Nat → Nat} {A : Nat → Prop} {Q : Option mV → mM → Prop} (hX : CX p s m args meth c 4 cX12_does "FairBlocksModel" D ca ad A) (hr : meth.sig.returnType = (Option.some FieldType.boolean)) : ∀ lv st M, BX12_does_72 (Gd p l e (rmD 6) s m args below meth c 4 D ca ad A 0 0 (MQ below (QC D ca ad A Q) args s 0 0 A)) Q lv st M → Gd p l e (rmD 6) s m args below meth c 4 D ca ad A 0 0 (MQ below (QC D ca ad A Q) args s 0 0 A) 72 lv st M :=
  (sd_iconst hX dX12_does_72 rfl sd_at)
def BX12_does_73 (G : Nat → KT) (Q : Option mV → mM → Prop) : KT := (s_zret Q)
set_option maxRecDepth 4000 in
theorem bsX12_does_73 {p : Program} {l : Launch} {e : Env} {s : State} {m : MethodId} {args : Array Value} {below : List Frame} {meth : Method} {c : Code} {D : va_G} {ca : Nat → ClassId} {ad : Nat → Nat} {A : Nat → Prop} {Q : Option mV → mM → Prop} (hX : CX p s m args meth c 4 cX12_does "FairBlocksModel" D ca ad A) (hr : meth.sig.returnType = (Option.some FieldType.boolean)) : ∀ lv st M, BX12_does_73 (Gd p l e (rmD 6) s m args below meth c 4 D ca ad A 0 0 (MQ below (QC D ca ad A Q) args s 0 0 A)) Q lv st M → Gd p l e (rmD 6) s m args below meth c 4 D ca ad A 0 0 (MQ below (QC D ca ad A Q) args s 0 0 A) 73 lv st M :=
  sd_zret hX hr dX12_does_73
def BX12_does_74 (G : Nat → KT) (Q : Option mV → mM → Prop) : KT := (s_iload 2 (s_if (fun x => x = 0) ((s_aload 0 (s_iload 3 (s_callV 12 1 pre_X12_noUser fn_X12_noUser (s_if (fun x => x = 0) (s_at G 88 [true, false, false, true]) (s_at G 86 [false, false, false, false])))))) (s_at G 86 [false, false, false, false])))
set_option maxRecDepth 4000 in
theorem bsX12_does_74 {p : Program} {l : Launch} {e : Env} {s : State} {m : MethodId} {args : Array Value} {below : List Frame} {meth : Method} {c : Code} {D : va_G} {ca : Nat → ClassId} {ad : Nat → Nat} {A : Nat → Prop} {Q : Option mV → mM → Prop} (hX : CX p s m args meth c 4 cX12_does "FairBlocksModel" D ca ad A) (hr : meth.sig.returnType = (Option.some FieldType.boolean)) : ∀ lv st M, BX12_does_74 (Gd p l e (rmD 6) s m args below meth c 4 D ca ad A 0 0 (MQ below (QC D ca ad A Q) args s 0 0 A)) Q lv st M → Gd p l e (rmD 6) s m args below meth c 4 D ca ad A 0 0 (MQ below (QC D ca ad A Q) args s 0 0 A) 74 lv st M :=
  (sd_iload_n hX dX12_does_74 rfl (sd_if_ne hX dX12_does_75 (by decide) sd_at (sd_aload_n hX dX12_does_78 rfl (sd_iload_n hX dX12_does_79 rfl (sd_callV hX (kd := 12) rfl (by decide) (ct_X12_noUser l) mk_X12_noUser w_860 ⟨⟨by decide, by decide⟩, by decide, by decide⟩ dX12_does_80 (sd_if_eq hX dX12_does_83 (by decide) sd_at sd_at))))))
def BX12_does_86 (G : Nat → KT) (Q : Option mV → mM → Prop) : KT := (s_iconst (0) (s_zret Q))
set_option maxRecDepth 4000 in
theorem bsX12_does_86 {p : Program} {l : Launch} {e : Env} {s : State} {m : MethodId} {args : Array Value} {below : List Frame} {meth : Method} {c : Code} {D : va_G} {ca : Nat → ClassId} {ad : Nat → Nat} {A : Nat → Prop} {Q : Option mV → mM → Prop} (hX : CX p s m args meth c 4 cX12_does "FairBlocksModel" D ca ad A) (hr : meth.sig.returnType = (Option.some FieldType.boolean)) : ∀ lv st M, BX12_does_86 (Gd p l e (rmD 6) s m args below meth c 4 D ca ad A 0 0 (MQ below (QC D ca ad A Q) args s 0 0 A)) Q lv st M → Gd p l e (rmD 6) s m args below meth c 4 D ca ad A 0 0 (MQ below (QC D ca ad A Q) args s 0 0 A) 86 lv st M :=
  (sd_iconst hX dX12_does_86 rfl (sd_zret hX hr dX12_does_87))
def BX12_does_88 (G : Nat → KT) (Q : Option mV → mM → Prop) : KT := (s_aload 0 (s_getr 12 13 (fun _ => 166) (s_iconst (10) (s_iload 3 (s_bin (fun x y => x * y) (s_iconst (3) (s_bin (fun x y => x + y) (s_iconst (1) (s_aload 0 (s_getr 12 13 (fun _ => 166) (s_iconst (10) (s_iload 3 (s_bin (fun x y => x * y) (s_iconst (3) (s_bin (fun x y => x + y) (s_iald (s_bin (fun x y => x - y) (s_iast (s_iconst (1) (s_zret Q))))))))))))))))))))
set_option maxRecDepth 4000 in
theorem bsX12_does_88 {p : Program} {l : Launch} {e : Env} {s : State} {m : MethodId} {args : Array Value} {below : List Frame} {meth : Method} {c : Code} {D : va_G} {ca : Nat → ClassId} {ad : Nat → Nat} {A : Nat → Prop} {Q : Option mV → mM → Prop} (hX : CX p s m args meth c 4 cX12_does "FairBlocksModel" D ca ad A) (hr : meth.sig.returnType = (Option.some FieldType.boolean)) : ∀ lv st M, BX12_does_88 (Gd p l e (rmD 6) s m args below meth c 4 D ca ad A 0 0 (MQ below (QC D ca ad A Q) args s 0 0 A)) Q lv st M → Gd p l e (rmD 6) s m args below meth c 4 D ca ad A 0 0 (MQ below (QC D ca ad A Q) args s 0 0 A) 88 lv st M :=
  (sd_aload_n hX dX12_does_88 rfl (sd_getr hX fl_740 (fun _ => rfl) (fun _ _ _ => by decide +kernel) dX12_does_89 (sd_bipush hX dX12_does_92 rfl (sd_iload_n hX dX12_does_94 rfl (sd_imul hX dX12_does_95 (sd_iconst hX dX12_does_96 rfl (sd_iadd hX dX12_does_97 (sd_iconst hX dX12_does_98 rfl (sd_aload_n hX dX12_does_99 rfl (sd_getr hX fl_740 (fun _ => rfl) (fun _ _ _ => by decide +kernel) dX12_does_100 (sd_bipush hX dX12_does_103 rfl (sd_iload_n hX dX12_does_105 rfl (sd_imul hX dX12_does_106 (sd_iconst hX dX12_does_107 rfl (sd_iadd hX dX12_does_108 (sd_iald hX dX12_does_109 (sd_isub hX dX12_does_110 (sd_iast hX dX12_does_111 (sd_iconst hX dX12_does_112 rfl (sd_zret hX hr dX12_does_113))))))))))))))))))))
def BX12_does_114 (G : Nat → KT) (Q : Option mV → mM → Prop) : KT := (s_iload 2 (s_if (fun x => x = 0) ((s_aload 0 (s_iload 3 (s_callV 12 1 pre_X12_noUser fn_X12_noUser (s_if (fun x => x = 0) (s_at G 128 [true, false, false, true]) (s_at G 126 [false, false, false, false])))))) (s_at G 126 [false, false, false, false])))
set_option maxRecDepth 4000 in
theorem bsX12_does_114 {p : Program} {l : Launch} {e : Env} {s : State} {m : MethodId} {args : Array Value} {below : List Frame} {meth : Method} {c : Code} {D : va_G} {ca : Nat → ClassId} {ad : Nat → Nat} {A : Nat → Prop} {Q : Option mV → mM → Prop} (hX : CX p s m args meth c 4 cX12_does "FairBlocksModel" D ca ad A) (hr : meth.sig.returnType = (Option.some FieldType.boolean)) : ∀ lv st M, BX12_does_114 (Gd p l e (rmD 6) s m args below meth c 4 D ca ad A 0 0 (MQ below (QC D ca ad A Q) args s 0 0 A)) Q lv st M → Gd p l e (rmD 6) s m args below meth c 4 D ca ad A 0 0 (MQ below (QC D ca ad A Q) args s 0 0 A) 114 lv st M :=
  (sd_iload_n hX dX12_does_114 rfl (sd_if_ne hX dX12_does_115 (by decide) sd_at (sd_aload_n hX dX12_does_118 rfl (sd_iload_n hX dX12_does_119 rfl (sd_callV hX (kd := 12) rfl (by decide) (ct_X12_noUser l) mk_X12_noUser w_860 ⟨⟨by decide, by decide⟩, by decide, by decide⟩ dX12_does_120 (sd_if_eq hX dX12_does_123 (by decide) sd_at sd_at))))))
def BX12_does_126 (G : Nat → KT) (Q : Option mV → mM → Prop) : KT := (s_iconst (0) (s_zret Q))
set_option maxRecDepth 4000 in
theorem bsX12_does_126 {p : Program} {l : Launch} {e : Env} {s : State} {m : MethodId} {args : Array Value} {below : List Frame} {meth : Method} {c : Code} {D : va_G} {ca : Nat → ClassId} {ad : Nat → Nat} {A : Nat → Prop} {Q : Option mV → mM → Prop} (hX : CX p s m args meth c 4 cX12_does "FairBlocksModel" D ca ad A) (hr : meth.sig.returnType = (Option.some FieldType.boolean)) : ∀ lv st M, BX12_does_126 (Gd p l e (rmD 6) s m args below meth c 4 D ca ad A 0 0 (MQ below (QC D ca ad A Q) args s 0 0 A)) Q lv st M → Gd p l e (rmD 6) s m args below meth c 4 D ca ad A 0 0 (MQ below (QC D ca ad A Q) args s 0 0 A) 126 lv st M :=
  (sd_iconst hX dX12_does_126 rfl (sd_zret hX hr dX12_does_127))
def BX12_does_128 (G : Nat → KT) (Q : Option mV → mM → Prop) : KT := (s_aload 0 (s_getr 12 13 (fun _ => 166) (s_iconst (10) (s_iload 3 (s_bin (fun x y => x * y) (s_iconst (4) (s_bin (fun x y => x + y) (s_iconst (0) (s_iast (s_aload 0 (s_getr 12 13 (fun _ => 166) (s_iconst (10) (s_iload 3 (s_bin (fun x y => x * y) (s_iconst (5) (s_bin (fun x y => x + y) (s_iconst (0) (s_iast (s_iconst (1) (s_zret Q))))))))))))))))))))
set_option maxRecDepth 4000 in
theorem bsX12_does_128 {p : Program} {l : Launch} {e : Env} {s : State} {m : MethodId} {args : Array Value} {below : List Frame} {meth : Method} {c : Code} {D : va_G} {ca : Nat → ClassId} {ad : Nat → Nat} {A : Nat → Prop} {Q : Option mV → mM → Prop} (hX : CX p s m args meth c 4 cX12_does "FairBlocksModel" D ca ad A) (hr : meth.sig.returnType = (Option.some FieldType.boolean)) : ∀ lv st M, BX12_does_128 (Gd p l e (rmD 6) s m args below meth c 4 D ca ad A 0 0 (MQ below (QC D ca ad A Q) args s 0 0 A)) Q lv st M → Gd p l e (rmD 6) s m args below meth c 4 D ca ad A 0 0 (MQ below (QC D ca ad A Q) args s 0 0 A) 128 lv st M :=
  (sd_aload_n hX dX12_does_128 rfl (sd_getr hX fl_740 (fun _ => rfl) (fun _ _ _ => by decide +kernel) dX12_does_129 (sd_bipush hX dX12_does_132 rfl (sd_iload_n hX dX12_does_134 rfl (sd_imul hX dX12_does_135 (sd_iconst hX dX12_does_136 rfl (sd_iadd hX dX12_does_137 (sd_iconst hX dX12_does_138 rfl (sd_iast hX dX12_does_139 (sd_aload_n hX dX12_does_140 rfl (sd_getr hX fl_740 (fun _ => rfl) (fun _ _ _ => by decide +kernel) dX12_does_141 (sd_bipush hX dX12_does_144 rfl (sd_iload_n hX dX12_does_146 rfl (sd_imul hX dX12_does_147 (sd_iconst hX dX12_does_148 rfl (sd_iadd hX dX12_does_149 (sd_iconst hX dX12_does_150 rfl (sd_iast hX dX12_does_151 (sd_iconst hX dX12_does_152 rfl (sd_zret hX hr dX12_does_153))))))))))))))))))))
def BX12_does_154 (G : Nat → KT) (Q : Option mV → mM → Prop) : KT := (s_aload 0 (s_iload 2 (s_callV 12 1 pre_X12_noUser fn_X12_noUser (s_if (fun x => x = 0) ((s_iload 3 (s_if (fun x => x = 0) ((s_at G 166 [false, false, false, false])) (s_at G 168 [true, false, true, true])))) (s_at G 166 [false, false, false, false])))))
set_option maxRecDepth 4000 in
theorem bsX12_does_154 {p : Program} {l : Launch} {e : Env} {s : State} {m : MethodId} {args : Array Value} {below : List Frame} {meth : Method} {c : Code} {D : va_G} {ca : Nat → ClassId} {ad : Nat → Nat} {A : Nat → Prop} {Q : Option mV → mM → Prop} (hX : CX p s m args meth c 4 cX12_does "FairBlocksModel" D ca ad A) (hr : meth.sig.returnType = (Option.some FieldType.boolean)) : ∀ lv st M, BX12_does_154 (Gd p l e (rmD 6) s m args below meth c 4 D ca ad A 0 0 (MQ below (QC D ca ad A Q) args s 0 0 A)) Q lv st M → Gd p l e (rmD 6) s m args below meth c 4 D ca ad A 0 0 (MQ below (QC D ca ad A Q) args s 0 0 A) 154 lv st M :=
  (sd_aload_n hX dX12_does_154 rfl (sd_iload_n hX dX12_does_155 rfl (sd_callV hX (kd := 12) rfl (by decide) (ct_X12_noUser l) mk_X12_noUser w_860 ⟨⟨by decide, by decide⟩, by decide, by decide⟩ dX12_does_156 (sd_if_ne hX dX12_does_159 (by decide) sd_at (sd_iload_n hX dX12_does_162 rfl (sd_if_ne hX dX12_does_163 (by decide) sd_at sd_at))))))
def BX12_does_166 (G : Nat → KT) (Q : Option mV → mM → Prop) : KT := (s_iconst (0) (s_zret Q))
set_option maxRecDepth 4000 in
theorem bsX12_does_166 {p : Program} {l : Launch} {e : Env} {s : State} {m : MethodId} {args : Array Value} {below : List Frame} {meth : Method} {c : Code} {D : va_G} {ca : Nat → ClassId} {ad : Nat → Nat} {A : Nat → Prop} {Q : Option mV → mM → Prop} (hX : CX p s m args meth c 4 cX12_does "FairBlocksModel" D ca ad A) (hr : meth.sig.returnType = (Option.some FieldType.boolean)) : ∀ lv st M, BX12_does_166 (Gd p l e (rmD 6) s m args below meth c 4 D ca ad A 0 0 (MQ below (QC D ca ad A Q) args s 0 0 A)) Q lv st M → Gd p l e (rmD 6) s m args below meth c 4 D ca ad A 0 0 (MQ below (QC D ca ad A Q) args s 0 0 A) 166 lv st M :=
  (sd_iconst hX dX12_does_166 rfl (sd_zret hX hr dX12_does_167))
def BX12_does_168 (G : Nat → KT) (Q : Option mV → mM → Prop) : KT := (s_aload 0 (s_getr 12 13 (fun _ => 166) (s_iconst (10) (s_iload 2 (s_bin (fun x y => x * y) (s_iconst (1) (s_bin (fun x y => x + y) (s_iload 3 (s_iast (s_iconst (1) (s_zret Q)))))))))))
set_option maxRecDepth 4000 in
theorem bsX12_does_168 {p : Program} {l : Launch} {e : Env} {s : State} {m : MethodId} {args : Array Value} {below : List Frame} {meth : Method} {c : Code} {D : va_G} {ca : Nat → ClassId} {ad : Nat → Nat} {A : Nat → Prop} {Q : Option mV → mM → Prop} (hX : CX p s m args meth c 4 cX12_does "FairBlocksModel" D ca ad A) (hr : meth.sig.returnType = (Option.some FieldType.boolean)) : ∀ lv st M, BX12_does_168 (Gd p l e (rmD 6) s m args below meth c 4 D ca ad A 0 0 (MQ below (QC D ca ad A Q) args s 0 0 A)) Q lv st M → Gd p l e (rmD 6) s m args below meth c 4 D ca ad A 0 0 (MQ below (QC D ca ad A Q) args s 0 0 A) 168 lv st M :=
  (sd_aload_n hX dX12_does_168 rfl (sd_getr hX fl_740 (fun _ => rfl) (fun _ _ _ => by decide +kernel) dX12_does_169 (sd_bipush hX dX12_does_172 rfl (sd_iload_n hX dX12_does_174 rfl (sd_imul hX dX12_does_175 (sd_iconst hX dX12_does_176 rfl (sd_iadd hX dX12_does_177 (sd_iload_n hX dX12_does_178 rfl (sd_iast hX dX12_does_179 (sd_iconst hX dX12_does_180 rfl (sd_zret hX hr dX12_does_181)))))))))))
def BX12_does_182 (G : Nat → KT) (Q : Option mV → mM → Prop) : KT := (s_aload 0 (s_iload 2 (s_callV 12 1 pre_X12_noUser fn_X12_noUser (s_if (fun x => x = 0) ((s_aload 0 (s_getr 12 13 (fun _ => 166) (s_iconst (10) (s_iload 2 (s_bin (fun x y => x * y) (s_iconst (7) (s_bin (fun x y => x + y) (s_iald (s_iload 3 (s_icmp (fun x y => x = y) ((s_iconst (1) (s_at G 211 [false, false, false, false]))) (s_at G 210 [false, false, false, false])))))))))))) (s_at G 210 [false, false, false, false])))))
set_option maxRecDepth 4000 in
theorem bsX12_does_182 {p : Program} {l : Launch} {e : Env} {s : State} {m : MethodId} {args : Array Value} {below : List Frame} {meth : Method} {c : Code} {D : va_G} {ca : Nat → ClassId} {ad : Nat → Nat} {A : Nat → Prop} {Q : Option mV → mM → Prop} (hX : CX p s m args meth c 4 cX12_does "FairBlocksModel" D ca ad A) (hr : meth.sig.returnType = (Option.some FieldType.boolean)) : ∀ lv st M, BX12_does_182 (Gd p l e (rmD 6) s m args below meth c 4 D ca ad A 0 0 (MQ below (QC D ca ad A Q) args s 0 0 A)) Q lv st M → Gd p l e (rmD 6) s m args below meth c 4 D ca ad A 0 0 (MQ below (QC D ca ad A Q) args s 0 0 A) 182 lv st M :=
  (sd_aload_n hX dX12_does_182 rfl (sd_iload_n hX dX12_does_183 rfl (sd_callV hX (kd := 12) rfl (by decide) (ct_X12_noUser l) mk_X12_noUser w_860 ⟨⟨by decide, by decide⟩, by decide, by decide⟩ dX12_does_184 (sd_if_ne hX dX12_does_187 (by decide) sd_at (sd_aload_n hX dX12_does_190 rfl (sd_getr hX fl_740 (fun _ => rfl) (fun _ _ _ => by decide +kernel) dX12_does_191 (sd_bipush hX dX12_does_194 rfl (sd_iload_n hX dX12_does_196 rfl (sd_imul hX dX12_does_197 (sd_bipush hX dX12_does_198 rfl (sd_iadd hX dX12_does_200 (sd_iald hX dX12_does_201 (sd_iload_n hX dX12_does_202 rfl (sd_icmp_ne hX dX12_does_203 (by decide) sd_at (sd_iconst hX dX12_does_206 rfl (sd_goto hX dX12_does_207 (by decide) sd_at))))))))))))))))
def BX12_does_210 (G : Nat → KT) (Q : Option mV → mM → Prop) : KT := (s_iconst (0) (s_at G 211 [false, false, false, false]))
set_option maxRecDepth 4000 in
theorem bsX12_does_210 {p : Program} {l : Launch} {e : Env} {s : State} {m : MethodId} {args : Array Value} {below : List Frame} {meth : Method} {c : Code} {D : va_G} {ca : Nat → ClassId} {ad : Nat → Nat} {A : Nat → Prop} {Q : Option mV → mM → Prop} (hX : CX p s m args meth c 4 cX12_does "FairBlocksModel" D ca ad A) (hr : meth.sig.returnType = (Option.some FieldType.boolean)) : ∀ lv st M, BX12_does_210 (Gd p l e (rmD 6) s m args below meth c 4 D ca ad A 0 0 (MQ below (QC D ca ad A Q) args s 0 0 A)) Q lv st M → Gd p l e (rmD 6) s m args below meth c 4 D ca ad A 0 0 (MQ below (QC D ca ad A Q) args s 0 0 A) 210 lv st M :=
  (sd_iconst hX dX12_does_210 rfl sd_at)
def BX12_does_211 (G : Nat → KT) (Q : Option mV → mM → Prop) : KT := (s_zret Q)
set_option maxRecDepth 4000 in
theorem bsX12_does_211 {p : Program} {l : Launch} {e : Env} {s : State} {m : MethodId} {args : Array Value} {below : List Frame} {meth : Method} {c : Code} {D : va_G} {ca : Nat → ClassId} {ad : Nat → Nat} {A : Nat → Prop} {Q : Option mV → mM → Prop} (hX : CX p s m args meth c 4 cX12_does "FairBlocksModel" D ca ad A) (hr : meth.sig.returnType = (Option.some FieldType.boolean)) : ∀ lv st M, BX12_does_211 (Gd p l e (rmD 6) s m args below meth c 4 D ca ad A 0 0 (MQ below (QC D ca ad A Q) args s 0 0 A)) Q lv st M → Gd p l e (rmD 6) s m args below meth c 4 D ca ad A 0 0 (MQ below (QC D ca ad A Q) args s 0 0 A) 211 lv st M :=
  sd_zret hX hr dX12_does_211
def BX12_does_212 (G : Nat → KT) (Q : Option mV → mM → Prop) : KT := (s_aload 0 (s_iload 2 (s_callV 12 1 pre_X12_noUser fn_X12_noUser (s_if (fun x => x = 0) ((s_iload 3 (s_aload 0 (s_geti 12 4 (s_icmp (fun x y => y ≤ x) (s_at G 241 [false, false, false, false]) (s_aload 0 (s_iload 3 (s_callV 12 1 pre_X12_whoTried fn_X12_whoTried (s_iload 2 (s_icmp (fun x y => x = y) ((s_iconst (1) (s_at G 242 [false, false, false, false]))) (s_at G 241 [false, false, false, false]))))))))))) (s_at G 241 [false, false, false, false])))))
set_option maxRecDepth 4000 in
theorem bsX12_does_212 {p : Program} {l : Launch} {e : Env} {s : State} {m : MethodId} {args : Array Value} {below : List Frame} {meth : Method} {c : Code} {D : va_G} {ca : Nat → ClassId} {ad : Nat → Nat} {A : Nat → Prop} {Q : Option mV → mM → Prop} (hX : CX p s m args meth c 4 cX12_does "FairBlocksModel" D ca ad A) (hr : meth.sig.returnType = (Option.some FieldType.boolean)) : ∀ lv st M, BX12_does_212 (Gd p l e (rmD 6) s m args below meth c 4 D ca ad A 0 0 (MQ below (QC D ca ad A Q) args s 0 0 A)) Q lv st M → Gd p l e (rmD 6) s m args below meth c 4 D ca ad A 0 0 (MQ below (QC D ca ad A Q) args s 0 0 A) 212 lv st M :=
  (sd_aload_n hX dX12_does_212 rfl (sd_iload_n hX dX12_does_213 rfl (sd_callV hX (kd := 12) rfl (by decide) (ct_X12_noUser l) mk_X12_noUser w_860 ⟨⟨by decide, by decide⟩, by decide, by decide⟩ dX12_does_214 (sd_if_ne hX dX12_does_217 (by decide) sd_at (sd_iload_n hX dX12_does_220 rfl (sd_aload_n hX dX12_does_221 rfl (sd_geti hX fl_727 (by decide) dX12_does_222 (sd_icmp_ge hX dX12_does_225 (by decide) sd_at (sd_aload_n hX dX12_does_228 rfl (sd_iload_n hX dX12_does_229 rfl (sd_callV hX (kd := 12) rfl (by decide) (ct_X12_whoTried l) mk_X12_whoTried w_977 ⟨⟨by decide, by decide⟩, by decide, by decide⟩ dX12_does_230 (sd_iload_n hX dX12_does_233 rfl (sd_icmp_ne hX dX12_does_234 (by decide) sd_at (sd_iconst hX dX12_does_237 rfl (sd_goto hX dX12_does_238 (by decide) sd_at)))))))))))))))
def BX12_does_241 (G : Nat → KT) (Q : Option mV → mM → Prop) : KT := (s_iconst (0) (s_at G 242 [false, false, false, false]))
set_option maxRecDepth 4000 in
theorem bsX12_does_241 {p : Program} {l : Launch} {e : Env} {s : State} {m : MethodId} {args : Array Value} {below : List Frame} {meth : Method} {c : Code} {D : va_G} {ca : Nat → ClassId} {ad : Nat → Nat} {A : Nat → Prop} {Q : Option mV → mM → Prop} (hX : CX p s m args meth c 4 cX12_does "FairBlocksModel" D ca ad A) (hr : meth.sig.returnType = (Option.some FieldType.boolean)) : ∀ lv st M, BX12_does_241 (Gd p l e (rmD 6) s m args below meth c 4 D ca ad A 0 0 (MQ below (QC D ca ad A Q) args s 0 0 A)) Q lv st M → Gd p l e (rmD 6) s m args below meth c 4 D ca ad A 0 0 (MQ below (QC D ca ad A Q) args s 0 0 A) 241 lv st M :=
  (sd_iconst hX dX12_does_241 rfl sd_at)
def BX12_does_242 (G : Nat → KT) (Q : Option mV → mM → Prop) : KT := (s_zret Q)
set_option maxRecDepth 4000 in
theorem bsX12_does_242 {p : Program} {l : Launch} {e : Env} {s : State} {m : MethodId} {args : Array Value} {below : List Frame} {meth : Method} {c : Code} {D : va_G} {ca : Nat → ClassId} {ad : Nat → Nat} {A : Nat → Prop} {Q : Option mV → mM → Prop} (hX : CX p s m args meth c 4 cX12_does "FairBlocksModel" D ca ad A) (hr : meth.sig.returnType = (Option.some FieldType.boolean)) : ∀ lv st M, BX12_does_242 (Gd p l e (rmD 6) s m args below meth c 4 D ca ad A 0 0 (MQ below (QC D ca ad A Q) args s 0 0 A)) Q lv st M → Gd p l e (rmD 6) s m args below meth c 4 D ca ad A 0 0 (MQ below (QC D ca ad A Q) args s 0 0 A) 242 lv st M :=
  sd_zret hX hr dX12_does_242
def BX12_does_243 (G : Nat → KT) (Q : Option mV → mM → Prop) : KT := (s_aload 0 (s_iload 2 (s_callV 12 1 pre_X12_noUser fn_X12_noUser (s_if (fun x => x = 0) ((s_iload 3 (s_iconst (2) (s_icmp (fun x y => y ≤ x) (s_at G 281 [false, false, false, false]) (s_aload 0 (s_getr 12 13 (fun _ => 166) (s_iload 2 (s_callS 2 pre_X12_hasAny fn_X12_hasAny (s_iload 3 (s_iconst (1) (s_icmp (fun x y => x = y) ((s_iconst (1) (s_at G 274 [false, false, false, false]))) (s_at G 273 [false, false, false, false])))))))))))) (s_at G 281 [false, false, false, false])))))
set_option maxRecDepth 4000 in
theorem bsX12_does_243 {p : Program} {l : Launch} {e : Env} {s : State} {m : MethodId} {args : Array Value} {below : List Frame} {meth : Method} {c : Code} {D : va_G} {ca : Nat → ClassId} {ad : Nat → Nat} {A : Nat → Prop} {Q : Option mV → mM → Prop} (hX : CX p s m args meth c 4 cX12_does "FairBlocksModel" D ca ad A) (hr : meth.sig.returnType = (Option.some FieldType.boolean)) : ∀ lv st M, BX12_does_243 (Gd p l e (rmD 6) s m args below meth c 4 D ca ad A 0 0 (MQ below (QC D ca ad A Q) args s 0 0 A)) Q lv st M → Gd p l e (rmD 6) s m args below meth c 4 D ca ad A 0 0 (MQ below (QC D ca ad A Q) args s 0 0 A) 243 lv st M :=
  (sd_aload_n hX dX12_does_243 rfl (sd_iload_n hX dX12_does_244 rfl (sd_callV hX (kd := 12) rfl (by decide) (ct_X12_noUser l) mk_X12_noUser w_860 ⟨⟨by decide, by decide⟩, by decide, by decide⟩ dX12_does_245 (sd_if_ne hX dX12_does_248 (by decide) sd_at (sd_iload_n hX dX12_does_251 rfl (sd_iconst hX dX12_does_252 rfl (sd_icmp_ge hX dX12_does_253 (by decide) sd_at (sd_aload_n hX dX12_does_256 rfl (sd_getr hX fl_740 (fun _ => rfl) (fun _ _ _ => by decide +kernel) dX12_does_257 (sd_iload_n hX dX12_does_260 rfl (sd_callS hX (ct_X12_hasAny l) mk_X12_hasAny w_894 ⟨⟨by decide, by decide⟩, by decide, by decide⟩ dX12_does_261 (sd_iload_n hX dX12_does_264 rfl (sd_iconst hX dX12_does_265 rfl (sd_icmp_ne hX dX12_does_266 (by decide) sd_at (sd_iconst hX dX12_does_269 rfl (sd_goto hX dX12_does_270 (by decide) sd_at))))))))))))))))
def BX12_does_273 (G : Nat → KT) (Q : Option mV → mM → Prop) : KT := (s_iconst (0) (s_at G 274 [false, false, false, false]))
set_option maxRecDepth 4000 in
theorem bsX12_does_273 {p : Program} {l : Launch} {e : Env} {s : State} {m : MethodId} {args : Array Value} {below : List Frame} {meth : Method} {c : Code} {D : va_G} {ca : Nat → ClassId} {ad : Nat → Nat} {A : Nat → Prop} {Q : Option mV → mM → Prop} (hX : CX p s m args meth c 4 cX12_does "FairBlocksModel" D ca ad A) (hr : meth.sig.returnType = (Option.some FieldType.boolean)) : ∀ lv st M, BX12_does_273 (Gd p l e (rmD 6) s m args below meth c 4 D ca ad A 0 0 (MQ below (QC D ca ad A Q) args s 0 0 A)) Q lv st M → Gd p l e (rmD 6) s m args below meth c 4 D ca ad A 0 0 (MQ below (QC D ca ad A Q) args s 0 0 A) 273 lv st M :=
  (sd_iconst hX dX12_does_273 rfl sd_at)
def BX12_does_274 (G : Nat → KT) (Q : Option mV → mM → Prop) : KT := (s_icmp (fun x y => x = y) ((s_iconst (1) (s_at G 282 [false, false, false, false]))) (s_at G 281 [false, false, false, false]))
set_option maxRecDepth 4000 in
theorem bsX12_does_274 {p : Program} {l : Launch} {e : Env} {s : State} {m : MethodId} {args : Array Value} {below : List Frame} {meth : Method} {c : Code} {D : va_G} {ca : Nat → ClassId} {ad : Nat → Nat} {A : Nat → Prop} {Q : Option mV → mM → Prop} (hX : CX p s m args meth c 4 cX12_does "FairBlocksModel" D ca ad A) (hr : meth.sig.returnType = (Option.some FieldType.boolean)) : ∀ lv st M, BX12_does_274 (Gd p l e (rmD 6) s m args below meth c 4 D ca ad A 0 0 (MQ below (QC D ca ad A Q) args s 0 0 A)) Q lv st M → Gd p l e (rmD 6) s m args below meth c 4 D ca ad A 0 0 (MQ below (QC D ca ad A Q) args s 0 0 A) 274 lv st M :=
  (sd_icmp_ne hX dX12_does_274 (by decide) sd_at (sd_iconst hX dX12_does_277 rfl (sd_goto hX dX12_does_278 (by decide) sd_at)))
def BX12_does_281 (G : Nat → KT) (Q : Option mV → mM → Prop) : KT := (s_iconst (0) (s_at G 282 [false, false, false, false]))
set_option maxRecDepth 4000 in
theorem bsX12_does_281 {p : Program} {l : Launch} {e : Env} {s : State} {m : MethodId} {args : Array Value} {below : List Frame} {meth : Method} {c : Code} {D : va_G} {ca : Nat → ClassId} {ad : Nat → Nat} {A : Nat → Prop} {Q : Option mV → mM → Prop} (hX : CX p s m args meth c 4 cX12_does "FairBlocksModel" D ca ad A) (hr : meth.sig.returnType = (Option.some FieldType.boolean)) : ∀ lv st M, BX12_does_281 (Gd p l e (rmD 6) s m args below meth c 4 D ca ad A 0 0 (MQ below (QC D ca ad A Q) args s 0 0 A)) Q lv st M → Gd p l e (rmD 6) s m args below meth c 4 D ca ad A 0 0 (MQ below (QC D ca ad A Q) args s 0 0 A) 281 lv st M :=
  (sd_iconst hX dX12_does_281 rfl sd_at)
def BX12_does_282 (G : Nat → KT) (Q : Option mV → mM → Prop) : KT := (s_zret Q)
set_option maxRecDepth 4000 in
theorem bsX12_does_282 {p : Program} {l : Launch} {e : Env} {s : State} {m : MethodId} {args : Array Value} {below : List Frame} {meth : Method} {c : Code} {D : va_G} {ca : Nat → ClassId} {ad : Nat → Nat} {A : Nat → Prop} {Q : Option mV → mM → Prop} (hX : CX p s m args meth c 4 cX12_does "FairBlocksModel" D ca ad A) (hr : meth.sig.returnType = (Option.some FieldType.boolean)) : ∀ lv st M, BX12_does_282 (Gd p l e (rmD 6) s m args below meth c 4 D ca ad A 0 0 (MQ below (QC D ca ad A Q) args s 0 0 A)) Q lv st M → Gd p l e (rmD 6) s m args below meth c 4 D ca ad A 0 0 (MQ below (QC D ca ad A Q) args s 0 0 A) 282 lv st M :=
  sd_zret hX hr dX12_does_282
def BX12_does_283 (G : Nat → KT) (Q : Option mV → mM → Prop) : KT := (s_iconst (0) (s_zret Q))
set_option maxRecDepth 4000 in
theorem bsX12_does_283 {p : Program} {l : Launch} {e : Env} {s : State} {m : MethodId} {args : Array Value} {below : List Frame} {meth : Method} {c : Code} {D : va_G} {ca : Nat → ClassId} {ad : Nat → Nat} {A : Nat → Prop} {Q : Option mV → mM → Prop} (hX : CX p s m args meth c 4 cX12_does "FairBlocksModel" D ca ad A) (hr : meth.sig.returnType = (Option.some FieldType.boolean)) : ∀ lv st M, BX12_does_283 (Gd p l e (rmD 6) s m args below meth c 4 D ca ad A 0 0 (MQ below (QC D ca ad A Q) args s 0 0 A)) Q lv st M → Gd p l e (rmD 6) s m args below meth c 4 D ca ad A 0 0 (MQ below (QC D ca ad A Q) args s 0 0 A) 283 lv st M :=
  (sd_iconst hX dX12_does_283 rfl (sd_zret hX hr dX12_does_284))
set_option maxHeartbeats 400000 in
theorem pf_X12_does (G : Nat → KT) (Q : Option mV → mM → Prop) (h0 : ∀ lv st M, BX12_does_0 G Q lv st M → G 0 lv st M) (h44 : ∀ lv st M, BX12_does_44 G Q lv st M → G 44 lv st M) (h72 : ∀ lv st M, BX12_does_72 G Q lv st M → G 72 lv st M) (h73 : ∀ lv st M, BX12_does_73 G Q lv st M → G 73 lv st M) (h74 : ∀ lv st M, BX12_does_74 G Q lv st M → G 74 lv st M) (h86 : ∀ lv st M, BX12_does_86 G Q lv st M → G 86 lv st M) (h88 : ∀ lv st M, BX12_does_88 G Q lv st M → G 88 lv st M) (h114 : ∀ lv st M, BX12_does_114 G Q lv st M → G 114 lv st M) (h126 : ∀ lv st M, BX12_does_126 G Q lv st M → G 126 lv st M) (h128 : ∀ lv st M, BX12_does_128 G Q lv st M → G 128 lv st M) (h154 : ∀ lv st M, BX12_does_154 G Q lv st M → G 154 lv st M) (h166 : ∀ lv st M, BX12_does_166 G Q lv st M → G 166 lv st M) (h168 : ∀ lv st M, BX12_does_168 G Q lv st M → G 168 lv st M) (h182 : ∀ lv st M, BX12_does_182 G Q lv st M → G 182 lv st M) (h210 : ∀ lv st M, BX12_does_210 G Q lv st M → G 210 lv st M) (h211 : ∀ lv st M, BX12_does_211 G Q lv st M → G 211 lv st M) (h212 : ∀ lv st M, BX12_does_212 G Q lv st M → G 212 lv st M) (h241 : ∀ lv st M, BX12_does_241 G Q lv st M → G 241 lv st M) (h242 : ∀ lv st M, BX12_does_242 G Q lv st M → G 242 lv st M) (h243 : ∀ lv st M, BX12_does_243 G Q lv st M → G 243 lv st M) (h273 : ∀ lv st M, BX12_does_273 G Q lv st M → G 273 lv st M) (h274 : ∀ lv st M, BX12_does_274 G Q lv st M → G 274 lv st M) (h281 : ∀ lv st M, BX12_does_281 G Q lv st M → G 281 lv st M) (h282 : ∀ lv st M, BX12_does_282 G Q lv st M → G 282 lv st M) (h283 : ∀ lv st M, BX12_does_283 G Q lv st M → G 283 lv st M) (as : List mV) (M : mM) (ho : ∀ v ∈ as, okV v) (hp : pre_X12_does as M) (hQ : Q (fn_X12_does as M).1 (fn_X12_does as M).2) : G 0 (inL as ++ List.replicate (4 - (inL as).length) none) [] M := by
  obtain ⟨c, a, b, d, rfl, hP, hG, ⟨B, hB, eB⟩, E, hE, eE⟩ := hp
  obtain rfl : c = 158 := k12 (ho (.inr (.inr (12, c))) (by simp))
  have hn := (nM_e hP).1
  have hin : ∀ x, nu M x = 0 → ∃ j, j < 5 ∧ x = nI j := by
    intro x h
    obtain ⟨j, hj, e⟩ := nu_u hP h
    exact ⟨j, by omega, e⟩
  have c10 : ∀ (x : Int32) (j t : Nat), j < 5 → x = nI j → t < 10 → ((10 : Int32) * x + nI t).toNatClampNeg = 10 * x.toNatClampNeg + t := by
    intro x j t hj e ht
    rw [e, nI_clamp (by omega : j < 2 ^ 31)]
    exact cx hj t ht
  have w10 : ∀ (x : Int32) (j t : Nat), j < 5 → x = nI j → t < 10 → vp_in ((10 : Int32) * x + nI t) 52 := by
    intro x j t hj e ht
    rw [e]
    exact vx hj t ht
  simp only [fn_X12_does, dz] at hQ
  (apply h0; simp only [BX12_does_0, s_mth, s_mab, s_at, s_iconst, s_lconst, s_iload, s_lload, s_aload, s_istore, s_lstore, s_astore, s_iinc, s_bin, s_binG, s_un, s_lbin, s_lbinG, s_lsh, s_lcmp, s_i2l, s_l2i, s_dup, s_dup2, s_pop, s_if, s_icmp, s_geti, s_getl, s_getr, s_puti, s_putz, s_putl, s_iald, s_zald, s_iast, s_zast, s_aaldS, s_aaldU, s_gets, s_tald, s_tsw, tsw, s_iret, s_zret, s_lret, s_aret, s_vret, s_callV, s_callS, c1, nl1, keepL, csum, pushR, inL, List.getD_cons_zero, List.getD_cons_succ, List.set_cons_zero, List.set_cons_succ, List.cons_append, List.nil_append, List.append_nil, List.replicate, List.length_cons, List.length_nil, List.take_succ_cons, List.take_zero, List.drop_succ_cons, List.drop_zero, List.reverse_cons, List.reverse_nil, true_and, and_true, forall_const, not_true_eq_false, not_false_eq_true, false_implies, true_implies, implies_true, one0, m10, Nat.reduceAdd, Nat.reduceSub, Nat.reduceLeDiff, Nat.zero_add, Nat.add_zero, fn_X12_hasAny, fn_X12_noUser, fn_X12_slotsOn, fn_X12_whoTried])
  refine ⟨fun h => ?_, fun h => ?_, fun h => ?_, fun h => ?_, fun h => ?_, fun h => ?_, fun h => ?_, fun h => ?_⟩
  · rw [if_neg (by omega), if_neg (by omega), if_neg (by omega), if_neg (by omega), if_neg (by omega), if_neg (by omega), if_neg (by omega)] at hQ
    (apply h283; simp only [BX12_does_283, s_mth, s_mab, s_at, s_iconst, s_lconst, s_iload, s_lload, s_aload, s_istore, s_lstore, s_astore, s_iinc, s_bin, s_binG, s_un, s_lbin, s_lbinG, s_lsh, s_lcmp, s_i2l, s_l2i, s_dup, s_dup2, s_pop, s_if, s_icmp, s_geti, s_getl, s_getr, s_puti, s_putz, s_putl, s_iald, s_zald, s_iast, s_zast, s_aaldS, s_aaldU, s_gets, s_tald, s_tsw, tsw, s_iret, s_zret, s_lret, s_aret, s_vret, s_callV, s_callS, c1, nl1, keepL, csum, pushR, inL, List.getD_cons_zero, List.getD_cons_succ, List.set_cons_zero, List.set_cons_succ, List.cons_append, List.nil_append, List.append_nil, List.replicate, List.length_cons, List.length_nil, List.take_succ_cons, List.take_zero, List.drop_succ_cons, List.drop_zero, List.reverse_cons, List.reverse_nil, true_and, and_true, forall_const, not_true_eq_false, not_false_eq_true, false_implies, true_implies, implies_true, one0, m10, Nat.reduceAdd, Nat.reduceSub, Nat.reduceLeDiff, Nat.zero_add, Nat.add_zero, fn_X12_hasAny, fn_X12_noUser, fn_X12_slotsOn, fn_X12_whoTried])
    exact ⟨by simp, hQ⟩
  · rw [if_pos h] at hQ
    have e10 : (10 : Int32) * b + d = nI (10 * B + E) := by rw [eB, eE, show (10 : Int32) = nI 10 from rfl, pk_mul, nI_add]
    simp only [dz1] at hQ
    (apply h44; simp only [BX12_does_44, s_mth, s_mab, s_at, s_iconst, s_lconst, s_iload, s_lload, s_aload, s_istore, s_lstore, s_astore, s_iinc, s_bin, s_binG, s_un, s_lbin, s_lbinG, s_lsh, s_lcmp, s_i2l, s_l2i, s_dup, s_dup2, s_pop, s_if, s_icmp, s_geti, s_getl, s_getr, s_puti, s_putz, s_putl, s_iald, s_zald, s_iast, s_zast, s_aaldS, s_aaldU, s_gets, s_tald, s_tsw, tsw, s_iret, s_zret, s_lret, s_aret, s_vret, s_callV, s_callS, c1, nl1, keepL, csum, pushR, inL, List.getD_cons_zero, List.getD_cons_succ, List.set_cons_zero, List.set_cons_succ, List.cons_append, List.nil_append, List.append_nil, List.replicate, List.length_cons, List.length_nil, List.take_succ_cons, List.take_zero, List.drop_succ_cons, List.drop_zero, List.reverse_cons, List.reverse_nil, true_and, and_true, forall_const, not_true_eq_false, not_false_eq_true, false_implies, true_implies, implies_true, one0, m10, Nat.reduceAdd, Nat.reduceSub, Nat.reduceLeDiff, Nat.zero_add, Nat.add_zero, fn_X12_hasAny, fn_X12_noUser, fn_X12_slotsOn, fn_X12_whoTried])
    refine ⟨⟨_, _, _, rfl, hP, 10 * B + E, by omega, e10, PG_le hG (by omega)⟩, fun h1 => ?_, fun h1 => ?_⟩
    · rw [if_pos h1] at hQ
      (apply h72; simp only [BX12_does_72, s_mth, s_mab, s_at, s_iconst, s_lconst, s_iload, s_lload, s_aload, s_istore, s_lstore, s_astore, s_iinc, s_bin, s_binG, s_un, s_lbin, s_lbinG, s_lsh, s_lcmp, s_i2l, s_l2i, s_dup, s_dup2, s_pop, s_if, s_icmp, s_geti, s_getl, s_getr, s_puti, s_putz, s_putl, s_iald, s_zald, s_iast, s_zast, s_aaldS, s_aaldU, s_gets, s_tald, s_tsw, tsw, s_iret, s_zret, s_lret, s_aret, s_vret, s_callV, s_callS, c1, nl1, keepL, csum, pushR, inL, List.getD_cons_zero, List.getD_cons_succ, List.set_cons_zero, List.set_cons_succ, List.cons_append, List.nil_append, List.append_nil, List.replicate, List.length_cons, List.length_nil, List.take_succ_cons, List.take_zero, List.drop_succ_cons, List.drop_zero, List.reverse_cons, List.reverse_nil, true_and, and_true, forall_const, not_true_eq_false, not_false_eq_true, false_implies, true_implies, implies_true, one0, m10, Nat.reduceAdd, Nat.reduceSub, Nat.reduceLeDiff, Nat.zero_add, Nat.add_zero, fn_X12_hasAny, fn_X12_noUser, fn_X12_slotsOn, fn_X12_whoTried])
      (apply h73; simp only [BX12_does_73, s_mth, s_mab, s_at, s_iconst, s_lconst, s_iload, s_lload, s_aload, s_istore, s_lstore, s_astore, s_iinc, s_bin, s_binG, s_un, s_lbin, s_lbinG, s_lsh, s_lcmp, s_i2l, s_l2i, s_dup, s_dup2, s_pop, s_if, s_icmp, s_geti, s_getl, s_getr, s_puti, s_putz, s_putl, s_iald, s_zald, s_iast, s_zast, s_aaldS, s_aaldU, s_gets, s_tald, s_tsw, tsw, s_iret, s_zret, s_lret, s_aret, s_vret, s_callV, s_callS, c1, nl1, keepL, csum, pushR, inL, List.getD_cons_zero, List.getD_cons_succ, List.set_cons_zero, List.set_cons_succ, List.cons_append, List.nil_append, List.append_nil, List.replicate, List.length_cons, List.length_nil, List.take_succ_cons, List.take_zero, List.drop_succ_cons, List.drop_zero, List.reverse_cons, List.reverse_nil, true_and, and_true, forall_const, not_true_eq_false, not_false_eq_true, false_implies, true_implies, implies_true, one0, m10, Nat.reduceAdd, Nat.reduceSub, Nat.reduceLeDiff, Nat.zero_add, Nat.add_zero, fn_X12_hasAny, fn_X12_noUser, fn_X12_slotsOn, fn_X12_whoTried])
      exact ⟨by simp, hQ⟩
    · rw [if_neg h1] at hQ
      (apply h73; simp only [BX12_does_73, s_mth, s_mab, s_at, s_iconst, s_lconst, s_iload, s_lload, s_aload, s_istore, s_lstore, s_astore, s_iinc, s_bin, s_binG, s_un, s_lbin, s_lbinG, s_lsh, s_lcmp, s_i2l, s_l2i, s_dup, s_dup2, s_pop, s_if, s_icmp, s_geti, s_getl, s_getr, s_puti, s_putz, s_putl, s_iald, s_zald, s_iast, s_zast, s_aaldS, s_aaldU, s_gets, s_tald, s_tsw, tsw, s_iret, s_zret, s_lret, s_aret, s_vret, s_callV, s_callS, c1, nl1, keepL, csum, pushR, inL, List.getD_cons_zero, List.getD_cons_succ, List.set_cons_zero, List.set_cons_succ, List.cons_append, List.nil_append, List.append_nil, List.replicate, List.length_cons, List.length_nil, List.take_succ_cons, List.take_zero, List.drop_succ_cons, List.drop_zero, List.reverse_cons, List.reverse_nil, true_and, and_true, forall_const, not_true_eq_false, not_false_eq_true, false_implies, true_implies, implies_true, one0, m10, Nat.reduceAdd, Nat.reduceSub, Nat.reduceLeDiff, Nat.zero_add, Nat.add_zero, fn_X12_hasAny, fn_X12_noUser, fn_X12_slotsOn, fn_X12_whoTried])
      exact ⟨by simp, hQ⟩
  · rw [if_neg (by omega), if_pos (by omega)] at hQ
    simp only [dz2] at hQ
    have F : Q (some (.inl 0)) M → G 86 [none, none, none, none] [] M := by
      intro hQ
      (apply h86; simp only [BX12_does_86, s_mth, s_mab, s_at, s_iconst, s_lconst, s_iload, s_lload, s_aload, s_istore, s_lstore, s_astore, s_iinc, s_bin, s_binG, s_un, s_lbin, s_lbinG, s_lsh, s_lcmp, s_i2l, s_l2i, s_dup, s_dup2, s_pop, s_if, s_icmp, s_geti, s_getl, s_getr, s_puti, s_putz, s_putl, s_iald, s_zald, s_iast, s_zast, s_aaldS, s_aaldU, s_gets, s_tald, s_tsw, tsw, s_iret, s_zret, s_lret, s_aret, s_vret, s_callV, s_callS, c1, nl1, keepL, csum, pushR, inL, List.getD_cons_zero, List.getD_cons_succ, List.set_cons_zero, List.set_cons_succ, List.cons_append, List.nil_append, List.append_nil, List.replicate, List.length_cons, List.length_nil, List.take_succ_cons, List.take_zero, List.drop_succ_cons, List.drop_zero, List.reverse_cons, List.reverse_nil, true_and, and_true, forall_const, not_true_eq_false, not_false_eq_true, false_implies, true_implies, implies_true, one0, m10, Nat.reduceAdd, Nat.reduceSub, Nat.reduceLeDiff, Nat.zero_add, Nat.add_zero, fn_X12_hasAny, fn_X12_noUser, fn_X12_slotsOn, fn_X12_whoTried])
      exact ⟨by simp, hQ⟩
    (apply h74; simp only [BX12_does_74, s_mth, s_mab, s_at, s_iconst, s_lconst, s_iload, s_lload, s_aload, s_istore, s_lstore, s_astore, s_iinc, s_bin, s_binG, s_un, s_lbin, s_lbinG, s_lsh, s_lcmp, s_i2l, s_l2i, s_dup, s_dup2, s_pop, s_if, s_icmp, s_geti, s_getl, s_getr, s_puti, s_putz, s_putl, s_iald, s_zald, s_iast, s_zast, s_aaldS, s_aaldU, s_gets, s_tald, s_tsw, tsw, s_iret, s_zret, s_lret, s_aret, s_vret, s_callV, s_callS, c1, nl1, keepL, csum, pushR, inL, List.getD_cons_zero, List.getD_cons_succ, List.set_cons_zero, List.set_cons_succ, List.cons_append, List.nil_append, List.append_nil, List.replicate, List.length_cons, List.length_nil, List.take_succ_cons, List.take_zero, List.drop_succ_cons, List.drop_zero, List.reverse_cons, List.reverse_nil, true_and, and_true, forall_const, not_true_eq_false, not_false_eq_true, false_implies, true_implies, implies_true, one0, m10, Nat.reduceAdd, Nat.reduceSub, Nat.reduceLeDiff, Nat.zero_add, Nat.add_zero, fn_X12_hasAny, fn_X12_noUser, fn_X12_slotsOn, fn_X12_whoTried])
    refine ⟨fun h1 => ⟨⟨_, _, rfl⟩, fun h2 => ?_, fun h2 => ?_⟩, fun h1 => ?_⟩
    · rw [if_pos h1, if_pos h2] at hQ
      obtain ⟨j, hj, e⟩ := hin _ h2
      have e3 := c10 d j 3 hj e (by decide)
      have g3 := w10 d j 3 hj e (by decide)
      (apply h88; simp only [BX12_does_88, s_mth, s_mab, s_at, s_iconst, s_lconst, s_iload, s_lload, s_aload, s_istore, s_lstore, s_astore, s_iinc, s_bin, s_binG, s_un, s_lbin, s_lbinG, s_lsh, s_lcmp, s_i2l, s_l2i, s_dup, s_dup2, s_pop, s_if, s_icmp, s_geti, s_getl, s_getr, s_puti, s_putz, s_putl, s_iald, s_zald, s_iast, s_zast, s_aaldS, s_aaldU, s_gets, s_tald, s_tsw, tsw, s_iret, s_zret, s_lret, s_aret, s_vret, s_callV, s_callS, c1, nl1, keepL, csum, pushR, inL, List.getD_cons_zero, List.getD_cons_succ, List.set_cons_zero, List.set_cons_succ, List.cons_append, List.nil_append, List.append_nil, List.replicate, List.length_cons, List.length_nil, List.take_succ_cons, List.take_zero, List.drop_succ_cons, List.drop_zero, List.reverse_cons, List.reverse_nil, true_and, and_true, forall_const, not_true_eq_false, not_false_eq_true, false_implies, true_implies, implies_true, one0, m10, Nat.reduceAdd, Nat.reduceSub, Nat.reduceLeDiff, Nat.zero_add, Nat.add_zero, fn_X12_hasAny, fn_X12_noUser, fn_X12_slotsOn, fn_X12_whoTried])
      rw [show (3 : Int32) = nI 3 from rfl]
      simp only [lM, e3]
      exact ⟨g3, g3, by simp, hQ⟩
    · rw [if_pos h1, if_neg h2] at hQ; exact F hQ
    · rw [if_neg h1] at hQ; exact F hQ
  · rw [if_neg (by omega), if_neg (by omega), if_pos (by omega)] at hQ
    simp only [dz3] at hQ
    have F : Q (some (.inl 0)) M → G 126 [none, none, none, none] [] M := by
      intro hQ
      (apply h126; simp only [BX12_does_126, s_mth, s_mab, s_at, s_iconst, s_lconst, s_iload, s_lload, s_aload, s_istore, s_lstore, s_astore, s_iinc, s_bin, s_binG, s_un, s_lbin, s_lbinG, s_lsh, s_lcmp, s_i2l, s_l2i, s_dup, s_dup2, s_pop, s_if, s_icmp, s_geti, s_getl, s_getr, s_puti, s_putz, s_putl, s_iald, s_zald, s_iast, s_zast, s_aaldS, s_aaldU, s_gets, s_tald, s_tsw, tsw, s_iret, s_zret, s_lret, s_aret, s_vret, s_callV, s_callS, c1, nl1, keepL, csum, pushR, inL, List.getD_cons_zero, List.getD_cons_succ, List.set_cons_zero, List.set_cons_succ, List.cons_append, List.nil_append, List.append_nil, List.replicate, List.length_cons, List.length_nil, List.take_succ_cons, List.take_zero, List.drop_succ_cons, List.drop_zero, List.reverse_cons, List.reverse_nil, true_and, and_true, forall_const, not_true_eq_false, not_false_eq_true, false_implies, true_implies, implies_true, one0, m10, Nat.reduceAdd, Nat.reduceSub, Nat.reduceLeDiff, Nat.zero_add, Nat.add_zero, fn_X12_hasAny, fn_X12_noUser, fn_X12_slotsOn, fn_X12_whoTried])
      exact ⟨by simp, hQ⟩
    (apply h114; simp only [BX12_does_114, s_mth, s_mab, s_at, s_iconst, s_lconst, s_iload, s_lload, s_aload, s_istore, s_lstore, s_astore, s_iinc, s_bin, s_binG, s_un, s_lbin, s_lbinG, s_lsh, s_lcmp, s_i2l, s_l2i, s_dup, s_dup2, s_pop, s_if, s_icmp, s_geti, s_getl, s_getr, s_puti, s_putz, s_putl, s_iald, s_zald, s_iast, s_zast, s_aaldS, s_aaldU, s_gets, s_tald, s_tsw, tsw, s_iret, s_zret, s_lret, s_aret, s_vret, s_callV, s_callS, c1, nl1, keepL, csum, pushR, inL, List.getD_cons_zero, List.getD_cons_succ, List.set_cons_zero, List.set_cons_succ, List.cons_append, List.nil_append, List.append_nil, List.replicate, List.length_cons, List.length_nil, List.take_succ_cons, List.take_zero, List.drop_succ_cons, List.drop_zero, List.reverse_cons, List.reverse_nil, true_and, and_true, forall_const, not_true_eq_false, not_false_eq_true, false_implies, true_implies, implies_true, one0, m10, Nat.reduceAdd, Nat.reduceSub, Nat.reduceLeDiff, Nat.zero_add, Nat.add_zero, fn_X12_hasAny, fn_X12_noUser, fn_X12_slotsOn, fn_X12_whoTried])
    refine ⟨fun h1 => ⟨⟨_, _, rfl⟩, fun h2 => ?_, fun h2 => ?_⟩, fun h1 => ?_⟩
    · rw [if_pos h1, if_pos h2] at hQ
      obtain ⟨j, hj, e⟩ := hin _ h2
      have e4 := c10 d j 4 hj e (by decide)
      have g4 := w10 d j 4 hj e (by decide)
      have e5 := c10 d j 5 hj e (by decide)
      have g5 := w10 d j 5 hj e (by decide)
      (apply h128; simp only [BX12_does_128, s_mth, s_mab, s_at, s_iconst, s_lconst, s_iload, s_lload, s_aload, s_istore, s_lstore, s_astore, s_iinc, s_bin, s_binG, s_un, s_lbin, s_lbinG, s_lsh, s_lcmp, s_i2l, s_l2i, s_dup, s_dup2, s_pop, s_if, s_icmp, s_geti, s_getl, s_getr, s_puti, s_putz, s_putl, s_iald, s_zald, s_iast, s_zast, s_aaldS, s_aaldU, s_gets, s_tald, s_tsw, tsw, s_iret, s_zret, s_lret, s_aret, s_vret, s_callV, s_callS, c1, nl1, keepL, csum, pushR, inL, List.getD_cons_zero, List.getD_cons_succ, List.set_cons_zero, List.set_cons_succ, List.cons_append, List.nil_append, List.append_nil, List.replicate, List.length_cons, List.length_nil, List.take_succ_cons, List.take_zero, List.drop_succ_cons, List.drop_zero, List.reverse_cons, List.reverse_nil, true_and, and_true, forall_const, not_true_eq_false, not_false_eq_true, false_implies, true_implies, implies_true, one0, m10, Nat.reduceAdd, Nat.reduceSub, Nat.reduceLeDiff, Nat.zero_add, Nat.add_zero, fn_X12_hasAny, fn_X12_noUser, fn_X12_slotsOn, fn_X12_whoTried])
      rw [show (4 : Int32) = nI 4 from rfl, show (5 : Int32) = nI 5 from rfl]
      simp only [lM, e4, e5]
      exact ⟨g4, g5, by simp, hQ⟩
    · rw [if_pos h1, if_neg h2] at hQ; exact F hQ
    · rw [if_neg h1] at hQ; exact F hQ
  · rw [if_neg (by omega), if_neg (by omega), if_neg (by omega), if_pos (by omega)] at hQ
    simp only [dz4] at hQ
    have F : Q (some (.inl 0)) M → G 166 [none, none, none, none] [] M := by
      intro hQ
      (apply h166; simp only [BX12_does_166, s_mth, s_mab, s_at, s_iconst, s_lconst, s_iload, s_lload, s_aload, s_istore, s_lstore, s_astore, s_iinc, s_bin, s_binG, s_un, s_lbin, s_lbinG, s_lsh, s_lcmp, s_i2l, s_l2i, s_dup, s_dup2, s_pop, s_if, s_icmp, s_geti, s_getl, s_getr, s_puti, s_putz, s_putl, s_iald, s_zald, s_iast, s_zast, s_aaldS, s_aaldU, s_gets, s_tald, s_tsw, tsw, s_iret, s_zret, s_lret, s_aret, s_vret, s_callV, s_callS, c1, nl1, keepL, csum, pushR, inL, List.getD_cons_zero, List.getD_cons_succ, List.set_cons_zero, List.set_cons_succ, List.cons_append, List.nil_append, List.append_nil, List.replicate, List.length_cons, List.length_nil, List.take_succ_cons, List.take_zero, List.drop_succ_cons, List.drop_zero, List.reverse_cons, List.reverse_nil, true_and, and_true, forall_const, not_true_eq_false, not_false_eq_true, false_implies, true_implies, implies_true, one0, m10, Nat.reduceAdd, Nat.reduceSub, Nat.reduceLeDiff, Nat.zero_add, Nat.add_zero, fn_X12_hasAny, fn_X12_noUser, fn_X12_slotsOn, fn_X12_whoTried])
      exact ⟨by simp, hQ⟩
    (apply h154; simp only [BX12_does_154, s_mth, s_mab, s_at, s_iconst, s_lconst, s_iload, s_lload, s_aload, s_istore, s_lstore, s_astore, s_iinc, s_bin, s_binG, s_un, s_lbin, s_lbinG, s_lsh, s_lcmp, s_i2l, s_l2i, s_dup, s_dup2, s_pop, s_if, s_icmp, s_geti, s_getl, s_getr, s_puti, s_putz, s_putl, s_iald, s_zald, s_iast, s_zast, s_aaldS, s_aaldU, s_gets, s_tald, s_tsw, tsw, s_iret, s_zret, s_lret, s_aret, s_vret, s_callV, s_callS, c1, nl1, keepL, csum, pushR, inL, List.getD_cons_zero, List.getD_cons_succ, List.set_cons_zero, List.set_cons_succ, List.cons_append, List.nil_append, List.append_nil, List.replicate, List.length_cons, List.length_nil, List.take_succ_cons, List.take_zero, List.drop_succ_cons, List.drop_zero, List.reverse_cons, List.reverse_nil, true_and, and_true, forall_const, not_true_eq_false, not_false_eq_true, false_implies, true_implies, implies_true, one0, m10, Nat.reduceAdd, Nat.reduceSub, Nat.reduceLeDiff, Nat.zero_add, Nat.add_zero, fn_X12_hasAny, fn_X12_noUser, fn_X12_slotsOn, fn_X12_whoTried])
    refine ⟨⟨_, _, rfl⟩, fun h1 => ⟨fun h2 => ?_, fun h2 => ?_⟩, fun h1 => ?_⟩
    · rw [if_pos h1, if_pos h2] at hQ; exact F hQ
    · rw [if_pos h1, if_neg h2] at hQ
      obtain ⟨j, hj, e⟩ := hin _ h1
      have e4 := c10 b j 1 hj e (by decide)
      have g4 := w10 b j 1 hj e (by decide)
      (apply h168; simp only [BX12_does_168, s_mth, s_mab, s_at, s_iconst, s_lconst, s_iload, s_lload, s_aload, s_istore, s_lstore, s_astore, s_iinc, s_bin, s_binG, s_un, s_lbin, s_lbinG, s_lsh, s_lcmp, s_i2l, s_l2i, s_dup, s_dup2, s_pop, s_if, s_icmp, s_geti, s_getl, s_getr, s_puti, s_putz, s_putl, s_iald, s_zald, s_iast, s_zast, s_aaldS, s_aaldU, s_gets, s_tald, s_tsw, tsw, s_iret, s_zret, s_lret, s_aret, s_vret, s_callV, s_callS, c1, nl1, keepL, csum, pushR, inL, List.getD_cons_zero, List.getD_cons_succ, List.set_cons_zero, List.set_cons_succ, List.cons_append, List.nil_append, List.append_nil, List.replicate, List.length_cons, List.length_nil, List.take_succ_cons, List.take_zero, List.drop_succ_cons, List.drop_zero, List.reverse_cons, List.reverse_nil, true_and, and_true, forall_const, not_true_eq_false, not_false_eq_true, false_implies, true_implies, implies_true, one0, m10, Nat.reduceAdd, Nat.reduceSub, Nat.reduceLeDiff, Nat.zero_add, Nat.add_zero, fn_X12_hasAny, fn_X12_noUser, fn_X12_slotsOn, fn_X12_whoTried])
      rw [show (1 : Int32) = nI 1 from rfl]
      simp only [lM, e4]
      exact ⟨g4, by simp [nI], hQ⟩
    · rw [if_neg h1] at hQ; exact F hQ
  · rw [if_neg (by omega), if_neg (by omega), if_neg (by omega), if_neg (by omega), if_pos (by omega)] at hQ
    simp only [dz5] at hQ
    have F : Q (some (.inl 0)) M → G 210 [none, none, none, none] [] M := by
      intro hQ
      (apply h210; simp only [BX12_does_210, s_mth, s_mab, s_at, s_iconst, s_lconst, s_iload, s_lload, s_aload, s_istore, s_lstore, s_astore, s_iinc, s_bin, s_binG, s_un, s_lbin, s_lbinG, s_lsh, s_lcmp, s_i2l, s_l2i, s_dup, s_dup2, s_pop, s_if, s_icmp, s_geti, s_getl, s_getr, s_puti, s_putz, s_putl, s_iald, s_zald, s_iast, s_zast, s_aaldS, s_aaldU, s_gets, s_tald, s_tsw, tsw, s_iret, s_zret, s_lret, s_aret, s_vret, s_callV, s_callS, c1, nl1, keepL, csum, pushR, inL, List.getD_cons_zero, List.getD_cons_succ, List.set_cons_zero, List.set_cons_succ, List.cons_append, List.nil_append, List.append_nil, List.replicate, List.length_cons, List.length_nil, List.take_succ_cons, List.take_zero, List.drop_succ_cons, List.drop_zero, List.reverse_cons, List.reverse_nil, true_and, and_true, forall_const, not_true_eq_false, not_false_eq_true, false_implies, true_implies, implies_true, one0, m10, Nat.reduceAdd, Nat.reduceSub, Nat.reduceLeDiff, Nat.zero_add, Nat.add_zero, fn_X12_hasAny, fn_X12_noUser, fn_X12_slotsOn, fn_X12_whoTried])
      (apply h211; simp only [BX12_does_211, s_mth, s_mab, s_at, s_iconst, s_lconst, s_iload, s_lload, s_aload, s_istore, s_lstore, s_astore, s_iinc, s_bin, s_binG, s_un, s_lbin, s_lbinG, s_lsh, s_lcmp, s_i2l, s_l2i, s_dup, s_dup2, s_pop, s_if, s_icmp, s_geti, s_getl, s_getr, s_puti, s_putz, s_putl, s_iald, s_zald, s_iast, s_zast, s_aaldS, s_aaldU, s_gets, s_tald, s_tsw, tsw, s_iret, s_zret, s_lret, s_aret, s_vret, s_callV, s_callS, c1, nl1, keepL, csum, pushR, inL, List.getD_cons_zero, List.getD_cons_succ, List.set_cons_zero, List.set_cons_succ, List.cons_append, List.nil_append, List.append_nil, List.replicate, List.length_cons, List.length_nil, List.take_succ_cons, List.take_zero, List.drop_succ_cons, List.drop_zero, List.reverse_cons, List.reverse_nil, true_and, and_true, forall_const, not_true_eq_false, not_false_eq_true, false_implies, true_implies, implies_true, one0, m10, Nat.reduceAdd, Nat.reduceSub, Nat.reduceLeDiff, Nat.zero_add, Nat.add_zero, fn_X12_hasAny, fn_X12_noUser, fn_X12_slotsOn, fn_X12_whoTried])
      exact ⟨by simp, hQ⟩
    (apply h182; simp only [BX12_does_182, s_mth, s_mab, s_at, s_iconst, s_lconst, s_iload, s_lload, s_aload, s_istore, s_lstore, s_astore, s_iinc, s_bin, s_binG, s_un, s_lbin, s_lbinG, s_lsh, s_lcmp, s_i2l, s_l2i, s_dup, s_dup2, s_pop, s_if, s_icmp, s_geti, s_getl, s_getr, s_puti, s_putz, s_putl, s_iald, s_zald, s_iast, s_zast, s_aaldS, s_aaldU, s_gets, s_tald, s_tsw, tsw, s_iret, s_zret, s_lret, s_aret, s_vret, s_callV, s_callS, c1, nl1, keepL, csum, pushR, inL, List.getD_cons_zero, List.getD_cons_succ, List.set_cons_zero, List.set_cons_succ, List.cons_append, List.nil_append, List.append_nil, List.replicate, List.length_cons, List.length_nil, List.take_succ_cons, List.take_zero, List.drop_succ_cons, List.drop_zero, List.reverse_cons, List.reverse_nil, true_and, and_true, forall_const, not_true_eq_false, not_false_eq_true, false_implies, true_implies, implies_true, one0, m10, Nat.reduceAdd, Nat.reduceSub, Nat.reduceLeDiff, Nat.zero_add, Nat.add_zero, fn_X12_hasAny, fn_X12_noUser, fn_X12_slotsOn, fn_X12_whoTried])
    simp only [lM]
    refine ⟨⟨_, _, rfl⟩, fun h1 => ?_, fun h1 => ?_⟩
    · rw [if_pos h1] at hQ
      obtain ⟨j, hj, e⟩ := hin _ h1
      have e4 : ((10 : Int32) * b + 7).toNatClampNeg = _ := c10 b j 7 hj e (by decide)
      have g4 := w10 b j 7 hj e (by decide)
      rw [e4]
      refine ⟨g4, fun h2 => ?_, fun h2 => ?_⟩
      · rw [if_pos h2] at hQ
        (apply h211; simp only [BX12_does_211, s_mth, s_mab, s_at, s_iconst, s_lconst, s_iload, s_lload, s_aload, s_istore, s_lstore, s_astore, s_iinc, s_bin, s_binG, s_un, s_lbin, s_lbinG, s_lsh, s_lcmp, s_i2l, s_l2i, s_dup, s_dup2, s_pop, s_if, s_icmp, s_geti, s_getl, s_getr, s_puti, s_putz, s_putl, s_iald, s_zald, s_iast, s_zast, s_aaldS, s_aaldU, s_gets, s_tald, s_tsw, tsw, s_iret, s_zret, s_lret, s_aret, s_vret, s_callV, s_callS, c1, nl1, keepL, csum, pushR, inL, List.getD_cons_zero, List.getD_cons_succ, List.set_cons_zero, List.set_cons_succ, List.cons_append, List.nil_append, List.append_nil, List.replicate, List.length_cons, List.length_nil, List.take_succ_cons, List.take_zero, List.drop_succ_cons, List.drop_zero, List.reverse_cons, List.reverse_nil, true_and, and_true, forall_const, not_true_eq_false, not_false_eq_true, false_implies, true_implies, implies_true, one0, m10, Nat.reduceAdd, Nat.reduceSub, Nat.reduceLeDiff, Nat.zero_add, Nat.add_zero, fn_X12_hasAny, fn_X12_noUser, fn_X12_slotsOn, fn_X12_whoTried])
        exact ⟨by simp, hQ⟩
      · rw [if_neg h2] at hQ; exact F hQ
    · rw [if_neg h1] at hQ; exact F hQ
  · rw [if_neg (by omega), if_neg (by omega), if_neg (by omega), if_neg (by omega), if_neg (by omega), if_pos (by omega)] at hQ
    simp only [dz6] at hQ
    have F : ∀ M, Q (some (.inl 0)) M → G 241 [none, none, none, none] [] M := by
      intro M hQ
      (apply h241; simp only [BX12_does_241, s_mth, s_mab, s_at, s_iconst, s_lconst, s_iload, s_lload, s_aload, s_istore, s_lstore, s_astore, s_iinc, s_bin, s_binG, s_un, s_lbin, s_lbinG, s_lsh, s_lcmp, s_i2l, s_l2i, s_dup, s_dup2, s_pop, s_if, s_icmp, s_geti, s_getl, s_getr, s_puti, s_putz, s_putl, s_iald, s_zald, s_iast, s_zast, s_aaldS, s_aaldU, s_gets, s_tald, s_tsw, tsw, s_iret, s_zret, s_lret, s_aret, s_vret, s_callV, s_callS, c1, nl1, keepL, csum, pushR, inL, List.getD_cons_zero, List.getD_cons_succ, List.set_cons_zero, List.set_cons_succ, List.cons_append, List.nil_append, List.append_nil, List.replicate, List.length_cons, List.length_nil, List.take_succ_cons, List.take_zero, List.drop_succ_cons, List.drop_zero, List.reverse_cons, List.reverse_nil, true_and, and_true, forall_const, not_true_eq_false, not_false_eq_true, false_implies, true_implies, implies_true, one0, m10, Nat.reduceAdd, Nat.reduceSub, Nat.reduceLeDiff, Nat.zero_add, Nat.add_zero, fn_X12_hasAny, fn_X12_noUser, fn_X12_slotsOn, fn_X12_whoTried])
      (apply h242; simp only [BX12_does_242, s_mth, s_mab, s_at, s_iconst, s_lconst, s_iload, s_lload, s_aload, s_istore, s_lstore, s_astore, s_iinc, s_bin, s_binG, s_un, s_lbin, s_lbinG, s_lsh, s_lcmp, s_i2l, s_l2i, s_dup, s_dup2, s_pop, s_if, s_icmp, s_geti, s_getl, s_getr, s_puti, s_putz, s_putl, s_iald, s_zald, s_iast, s_zast, s_aaldS, s_aaldU, s_gets, s_tald, s_tsw, tsw, s_iret, s_zret, s_lret, s_aret, s_vret, s_callV, s_callS, c1, nl1, keepL, csum, pushR, inL, List.getD_cons_zero, List.getD_cons_succ, List.set_cons_zero, List.set_cons_succ, List.cons_append, List.nil_append, List.append_nil, List.replicate, List.length_cons, List.length_nil, List.take_succ_cons, List.take_zero, List.drop_succ_cons, List.drop_zero, List.reverse_cons, List.reverse_nil, true_and, and_true, forall_const, not_true_eq_false, not_false_eq_true, false_implies, true_implies, implies_true, one0, m10, Nat.reduceAdd, Nat.reduceSub, Nat.reduceLeDiff, Nat.zero_add, Nat.add_zero, fn_X12_hasAny, fn_X12_noUser, fn_X12_slotsOn, fn_X12_whoTried])
      exact ⟨by simp, hQ⟩
    have hB4 : ¬ M.1 158 4 ≤ d → ∃ j, j < 4 ∧ d = nI j := by
      intro g
      obtain ⟨hb4, eb⟩ := bM_e hP
      rw [eb, eE, nI_leI (by omega) (by omega)] at g
      exact ⟨E, by omega, eE⟩
    (apply h212; simp only [BX12_does_212, s_mth, s_mab, s_at, s_iconst, s_lconst, s_iload, s_lload, s_aload, s_istore, s_lstore, s_astore, s_iinc, s_bin, s_binG, s_un, s_lbin, s_lbinG, s_lsh, s_lcmp, s_i2l, s_l2i, s_dup, s_dup2, s_pop, s_if, s_icmp, s_geti, s_getl, s_getr, s_puti, s_putz, s_putl, s_iald, s_zald, s_iast, s_zast, s_aaldS, s_aaldU, s_gets, s_tald, s_tsw, tsw, s_iret, s_zret, s_lret, s_aret, s_vret, s_callV, s_callS, c1, nl1, keepL, csum, pushR, inL, List.getD_cons_zero, List.getD_cons_succ, List.set_cons_zero, List.set_cons_succ, List.cons_append, List.nil_append, List.append_nil, List.replicate, List.length_cons, List.length_nil, List.take_succ_cons, List.take_zero, List.drop_succ_cons, List.drop_zero, List.reverse_cons, List.reverse_nil, true_and, and_true, forall_const, not_true_eq_false, not_false_eq_true, false_implies, true_implies, implies_true, one0, m10, Nat.reduceAdd, Nat.reduceSub, Nat.reduceLeDiff, Nat.zero_add, Nat.add_zero, fn_X12_hasAny, fn_X12_noUser, fn_X12_slotsOn, fn_X12_whoTried])
    refine ⟨⟨_, _, rfl⟩, fun h1 => ⟨fun h2 => ?_, fun h2 => ⟨⟨_, _, rfl, hP, PG_0 hG, hB4 h2⟩, fun h3 => ?_, fun h3 => ?_⟩⟩, fun h1 => ?_⟩
    · rw [if_pos h1, if_pos h2] at hQ; exact F _ hQ
    · rw [if_pos h1, if_neg h2, if_pos h3] at hQ
      (apply h242; simp only [BX12_does_242, s_mth, s_mab, s_at, s_iconst, s_lconst, s_iload, s_lload, s_aload, s_istore, s_lstore, s_astore, s_iinc, s_bin, s_binG, s_un, s_lbin, s_lbinG, s_lsh, s_lcmp, s_i2l, s_l2i, s_dup, s_dup2, s_pop, s_if, s_icmp, s_geti, s_getl, s_getr, s_puti, s_putz, s_putl, s_iald, s_zald, s_iast, s_zast, s_aaldS, s_aaldU, s_gets, s_tald, s_tsw, tsw, s_iret, s_zret, s_lret, s_aret, s_vret, s_callV, s_callS, c1, nl1, keepL, csum, pushR, inL, List.getD_cons_zero, List.getD_cons_succ, List.set_cons_zero, List.set_cons_succ, List.cons_append, List.nil_append, List.append_nil, List.replicate, List.length_cons, List.length_nil, List.take_succ_cons, List.take_zero, List.drop_succ_cons, List.drop_zero, List.reverse_cons, List.reverse_nil, true_and, and_true, forall_const, not_true_eq_false, not_false_eq_true, false_implies, true_implies, implies_true, one0, m10, Nat.reduceAdd, Nat.reduceSub, Nat.reduceLeDiff, Nat.zero_add, Nat.add_zero, fn_X12_hasAny, fn_X12_noUser, fn_X12_slotsOn, fn_X12_whoTried])
      exact ⟨by simp, hQ⟩
    · rw [if_pos h1, if_neg h2, if_neg h3] at hQ; exact F _ hQ
    · rw [if_neg h1] at hQ; exact F _ hQ
  · rw [if_neg (by omega), if_neg (by omega), if_neg (by omega), if_neg (by omega), if_neg (by omega), if_neg (by omega), if_pos (by omega)] at hQ
    simp only [dz7] at hQ
    have F : Q (some (.inl 0)) M → G 281 [none, none, none, none] [] M := by
      intro hQ
      (apply h281; simp only [BX12_does_281, s_mth, s_mab, s_at, s_iconst, s_lconst, s_iload, s_lload, s_aload, s_istore, s_lstore, s_astore, s_iinc, s_bin, s_binG, s_un, s_lbin, s_lbinG, s_lsh, s_lcmp, s_i2l, s_l2i, s_dup, s_dup2, s_pop, s_if, s_icmp, s_geti, s_getl, s_getr, s_puti, s_putz, s_putl, s_iald, s_zald, s_iast, s_zast, s_aaldS, s_aaldU, s_gets, s_tald, s_tsw, tsw, s_iret, s_zret, s_lret, s_aret, s_vret, s_callV, s_callS, c1, nl1, keepL, csum, pushR, inL, List.getD_cons_zero, List.getD_cons_succ, List.set_cons_zero, List.set_cons_succ, List.cons_append, List.nil_append, List.append_nil, List.replicate, List.length_cons, List.length_nil, List.take_succ_cons, List.take_zero, List.drop_succ_cons, List.drop_zero, List.reverse_cons, List.reverse_nil, true_and, and_true, forall_const, not_true_eq_false, not_false_eq_true, false_implies, true_implies, implies_true, one0, m10, Nat.reduceAdd, Nat.reduceSub, Nat.reduceLeDiff, Nat.zero_add, Nat.add_zero, fn_X12_hasAny, fn_X12_noUser, fn_X12_slotsOn, fn_X12_whoTried])
      (apply h282; simp only [BX12_does_282, s_mth, s_mab, s_at, s_iconst, s_lconst, s_iload, s_lload, s_aload, s_istore, s_lstore, s_astore, s_iinc, s_bin, s_binG, s_un, s_lbin, s_lbinG, s_lsh, s_lcmp, s_i2l, s_l2i, s_dup, s_dup2, s_pop, s_if, s_icmp, s_geti, s_getl, s_getr, s_puti, s_putz, s_putl, s_iald, s_zald, s_iast, s_zast, s_aaldS, s_aaldU, s_gets, s_tald, s_tsw, tsw, s_iret, s_zret, s_lret, s_aret, s_vret, s_callV, s_callS, c1, nl1, keepL, csum, pushR, inL, List.getD_cons_zero, List.getD_cons_succ, List.set_cons_zero, List.set_cons_succ, List.cons_append, List.nil_append, List.append_nil, List.replicate, List.length_cons, List.length_nil, List.take_succ_cons, List.take_zero, List.drop_succ_cons, List.drop_zero, List.reverse_cons, List.reverse_nil, true_and, and_true, forall_const, not_true_eq_false, not_false_eq_true, false_implies, true_implies, implies_true, one0, m10, Nat.reduceAdd, Nat.reduceSub, Nat.reduceLeDiff, Nat.zero_add, Nat.add_zero, fn_X12_hasAny, fn_X12_noUser, fn_X12_slotsOn, fn_X12_whoTried])
      exact ⟨by simp, hQ⟩
    have L : ∀ x y : Int32, Q (some (.inl (if x = y then 1 else 0))) M → G 274 [none, none, none, none] [.inl y, .inl x] M := by
      intro x y hq
      (apply h274; simp only [BX12_does_274, s_mth, s_mab, s_at, s_iconst, s_lconst, s_iload, s_lload, s_aload, s_istore, s_lstore, s_astore, s_iinc, s_bin, s_binG, s_un, s_lbin, s_lbinG, s_lsh, s_lcmp, s_i2l, s_l2i, s_dup, s_dup2, s_pop, s_if, s_icmp, s_geti, s_getl, s_getr, s_puti, s_putz, s_putl, s_iald, s_zald, s_iast, s_zast, s_aaldS, s_aaldU, s_gets, s_tald, s_tsw, tsw, s_iret, s_zret, s_lret, s_aret, s_vret, s_callV, s_callS, c1, nl1, keepL, csum, pushR, inL, List.getD_cons_zero, List.getD_cons_succ, List.set_cons_zero, List.set_cons_succ, List.cons_append, List.nil_append, List.append_nil, List.replicate, List.length_cons, List.length_nil, List.take_succ_cons, List.take_zero, List.drop_succ_cons, List.drop_zero, List.reverse_cons, List.reverse_nil, true_and, and_true, forall_const, not_true_eq_false, not_false_eq_true, false_implies, true_implies, implies_true, one0, m10, Nat.reduceAdd, Nat.reduceSub, Nat.reduceLeDiff, Nat.zero_add, Nat.add_zero, fn_X12_hasAny, fn_X12_noUser, fn_X12_slotsOn, fn_X12_whoTried])
      refine ⟨fun h1 => ?_, fun h1 => ?_⟩
      · rw [if_pos h1] at hq
        (apply h282; simp only [BX12_does_282, s_mth, s_mab, s_at, s_iconst, s_lconst, s_iload, s_lload, s_aload, s_istore, s_lstore, s_astore, s_iinc, s_bin, s_binG, s_un, s_lbin, s_lbinG, s_lsh, s_lcmp, s_i2l, s_l2i, s_dup, s_dup2, s_pop, s_if, s_icmp, s_geti, s_getl, s_getr, s_puti, s_putz, s_putl, s_iald, s_zald, s_iast, s_zast, s_aaldS, s_aaldU, s_gets, s_tald, s_tsw, tsw, s_iret, s_zret, s_lret, s_aret, s_vret, s_callV, s_callS, c1, nl1, keepL, csum, pushR, inL, List.getD_cons_zero, List.getD_cons_succ, List.set_cons_zero, List.set_cons_succ, List.cons_append, List.nil_append, List.append_nil, List.replicate, List.length_cons, List.length_nil, List.take_succ_cons, List.take_zero, List.drop_succ_cons, List.drop_zero, List.reverse_cons, List.reverse_nil, true_and, and_true, forall_const, not_true_eq_false, not_false_eq_true, false_implies, true_implies, implies_true, one0, m10, Nat.reduceAdd, Nat.reduceSub, Nat.reduceLeDiff, Nat.zero_add, Nat.add_zero, fn_X12_hasAny, fn_X12_noUser, fn_X12_slotsOn, fn_X12_whoTried])
        exact ⟨by simp, hq⟩
      · rw [if_neg h1] at hq
        exact F hq
    (apply h243; simp only [BX12_does_243, s_mth, s_mab, s_at, s_iconst, s_lconst, s_iload, s_lload, s_aload, s_istore, s_lstore, s_astore, s_iinc, s_bin, s_binG, s_un, s_lbin, s_lbinG, s_lsh, s_lcmp, s_i2l, s_l2i, s_dup, s_dup2, s_pop, s_if, s_icmp, s_geti, s_getl, s_getr, s_puti, s_putz, s_putl, s_iald, s_zald, s_iast, s_zast, s_aaldS, s_aaldU, s_gets, s_tald, s_tsw, tsw, s_iret, s_zret, s_lret, s_aret, s_vret, s_callV, s_callS, c1, nl1, keepL, csum, pushR, inL, List.getD_cons_zero, List.getD_cons_succ, List.set_cons_zero, List.set_cons_succ, List.cons_append, List.nil_append, List.append_nil, List.replicate, List.length_cons, List.length_nil, List.take_succ_cons, List.take_zero, List.drop_succ_cons, List.drop_zero, List.reverse_cons, List.reverse_nil, true_and, and_true, forall_const, not_true_eq_false, not_false_eq_true, false_implies, true_implies, implies_true, one0, m10, Nat.reduceAdd, Nat.reduceSub, Nat.reduceLeDiff, Nat.zero_add, Nat.add_zero, fn_X12_hasAny, fn_X12_noUser, fn_X12_slotsOn, fn_X12_whoTried])
    refine ⟨⟨_, _, rfl⟩, fun h1 => ⟨fun h2 => ?_, fun h2 => ⟨⟨_, _, rfl, PG_l hG, hin _ h1⟩, fun h3 => ?_, fun h3 => ?_⟩⟩, fun h1 => ?_⟩
    · rw [if_pos h1, if_pos h2] at hQ; exact F hQ
    · rw [if_pos h1, if_neg h2] at hQ
      exact L _ 1 (by simpa only [if_pos h3] using hQ)
    · rw [if_pos h1, if_neg h2] at hQ
      (apply h273; simp only [BX12_does_273, s_mth, s_mab, s_at, s_iconst, s_lconst, s_iload, s_lload, s_aload, s_istore, s_lstore, s_astore, s_iinc, s_bin, s_binG, s_un, s_lbin, s_lbinG, s_lsh, s_lcmp, s_i2l, s_l2i, s_dup, s_dup2, s_pop, s_if, s_icmp, s_geti, s_getl, s_getr, s_puti, s_putz, s_putl, s_iald, s_zald, s_iast, s_zast, s_aaldS, s_aaldU, s_gets, s_tald, s_tsw, tsw, s_iret, s_zret, s_lret, s_aret, s_vret, s_callV, s_callS, c1, nl1, keepL, csum, pushR, inL, List.getD_cons_zero, List.getD_cons_succ, List.set_cons_zero, List.set_cons_succ, List.cons_append, List.nil_append, List.append_nil, List.replicate, List.length_cons, List.length_nil, List.take_succ_cons, List.take_zero, List.drop_succ_cons, List.drop_zero, List.reverse_cons, List.reverse_nil, true_and, and_true, forall_const, not_true_eq_false, not_false_eq_true, false_implies, true_implies, implies_true, one0, m10, Nat.reduceAdd, Nat.reduceSub, Nat.reduceLeDiff, Nat.zero_add, Nat.add_zero, fn_X12_hasAny, fn_X12_noUser, fn_X12_slotsOn, fn_X12_whoTried])
      exact L _ 0 (by simpa only [if_neg h3] using hQ)
    · rw [if_neg h1] at hQ; exact F hQ
theorem ct_X12_does (l : Launch) : Con l yX12_does cX12_does 4 (Option.some FieldType.boolean) 6 pre_X12_does fn_X12_does := con_of (by decide +kernel) ok_X12_does len_X12_does (fun p e s m args below meth c D ca ad A as M hX hr hp ho => pf_X12_does _ _ (bsX12_does_0 hX hr) (bsX12_does_44 hX hr) (bsX12_does_72 hX hr) (bsX12_does_73 hX hr) (bsX12_does_74 hX hr) (bsX12_does_86 hX hr) (bsX12_does_88 hX hr) (bsX12_does_114 hX hr) (bsX12_does_126 hX hr) (bsX12_does_128 hX hr) (bsX12_does_154 hX hr) (bsX12_does_166 hX hr) (bsX12_does_168 hX hr) (bsX12_does_182 hX hr) (bsX12_does_210 hX hr) (bsX12_does_211 hX hr) (bsX12_does_212 hX hr) (bsX12_does_241 hX hr) (bsX12_does_242 hX hr) (bsX12_does_243 hX hr) (bsX12_does_273 hX hr) (bsX12_does_274 hX hr) (bsX12_does_281 hX hr) (bsX12_does_282 hX hr) (bsX12_does_283 hX hr) as M ho hp ⟨rfl, rfl⟩)
theorem dz_f {M : mM} {h a b : Int32} {n : Nat} (hP : PM M) (hG : PG M 166 (99 + n)) (ha : ∃ j, j ≤ 9 ∧ a = nI j) (hb : ∃ j, j ≤ 9 ∧ b = nI j) : PM (dz M h a b).2 ∧ PG (dz M h a b).2 166 n := by
  have hn := (nM_e hP).1
  have hz : PM M ∧ PG M 166 n := ⟨hP, PG_le hG (by omega)⟩
  have hs : ∀ (x : Int32) (t : Nat) (v : Int32), nu M x = 0 → t < 10 → PM (mset M 166 (10 * x.toNatClampNeg + t) v) ∧ PG (mset M 166 (10 * x.toNatClampNeg + t) v) 166 n := by
    intro x t v hx ht
    obtain ⟨j, hj, rfl⟩ := nu_u hP hx
    rw [nI_clamp (by omega : j < 2 ^ 31)]
    exact ⟨PM_mset hP (by decide) (by decide), PG_mset hz.2 (by omega)⟩
  unfold dz
  split
  · obtain ⟨A, hA, rfl⟩ := ha
    obtain ⟨B, hB, rfl⟩ := hb
    have e10 : (10 : Int32) * nI A + nI B = nI (10 * A + B) := by rw [show (10 : Int32) = nI 10 from rfl, pk_mul, nI_add]
    unfold dz1
    simp only [e10, nI_clamp (show 10 * A + B < 2 ^ 31 by omega)]
    have g := f_sos (r := 166) (b := n) (10 * A + B) 0 0 M hP (PG_le hG (by omega))
    exact ⟨g.1, g.2.2.2.2⟩
  · split
    · unfold dz2
      split
      · split
        · next hx => exact hs b 3 _ hx (by decide)
        · exact hz
      · exact hz
    · split
      · unfold dz3
        split
        · split
          · next hx =>
            have g := hs b 4 0 hx (by decide)
            obtain ⟨j, hj, rfl⟩ := nu_u hP hx
            rw [nI_clamp (by omega : j < 2 ^ 31)] at *
            exact ⟨PM_mset g.1 (by decide) (by decide), PG_mset g.2 (by omega)⟩
          · exact hz
        · exact hz
      · split
        · unfold dz4
          split
          · next hx =>
            split
            · exact hz
            · exact hs a 1 _ hx (by decide)
          · exact hz
        · split
          · unfold dz5
            split
            · split
              · exact hz
              · exact hz
            · exact hz
          · split
            · unfold dz6
              split
              · split
                · exact hz
                · have hq := PQ_wt hP (PG_0 hG)
                  have hf := SM_so (f := 0) hq
                  have e : ∀ a, a ≠ 167 → a ≠ 176 → a ≠ 177 → (so (wtM M) 167 0).2.1 a = M.1 a := fun a g1 g2 g3 => (hf.1 a g1 g2 g3).trans (wtM_n g1)
                  exact ⟨PM_of hP (by rw [e 158 (by decide) (by decide) (by decide)]) (by rw [e 158 (by decide) (by decide) (by decide)]) (e 161 (by decide) (by decide) (by decide)), PG_n hz.2 (by rw [e 166 (by decide) (by decide) (by decide)])⟩
              · exact hz
            · split
              · unfold dz7
                split
                · split
                  · exact hz
                  · exact hz
                · exact hz
              · exact hz
def jgL (row : Int64) (N : Nat) : Nat → Nat → mM → Int32 × mM
  | 0, _, M => (-9, M)
  | m + 1, p, M => if (dz M (dgt row N p / 100) (rm (dgt row N p / 10) 10) (rm (dgt row N p) 10)).1 = 0 then (nI p, (dz M (dgt row N p / 100) (rm (dgt row N p / 10) 10) (rm (dgt row N p) 10)).2) else jgL row N m (p + 1) (dz M (dgt row N p / 100) (rm (dgt row N p / 10) 10) (rm (dgt row N p) 10)).2
def m_judge (M : mM) (n : Int32) (row : Int64) : Int32 × mM := if wi n 1 4 = 0 then (-2, M) else if row < 0 then (-2, M) else if row < uo n.toNatClampNeg then jgL row n.toNatClampNeg n.toNatClampNeg 0 (lay M) else (-2, M)
theorem iL_uo {N : Nat} {row : Int64} (hN : N ≤ 4) : iL row 0 (uo N - 1) = if row < 0 then 0 else if row < uo N then 1 else 0 := by
  have hu : ∀ N, N ≤ 4 → (uo N - 1).toInt = (uo N).toInt - 1 := by decide +kernel
  unfold iL
  split
  · rfl
  · have : uo N - 1 < row ↔ ¬ row < uo N := by
      rw [Int64.lt_iff_toInt_lt, Int64.lt_iff_toInt_lt, hu N hN]
      omega
    by_cases g : row < uo N
    · rw [if_pos g, if_neg (fun h => (this.mp h) g)]
    · rw [if_neg g, if_pos (this.mpr g)]
def pre_X12_judge (as : List mV) (M : mM) : Prop := ∃ c n row, as = [.inr (.inr (12, c)), .inl n, .inr (.inl row)] ∧ MI M
def fn_X12_judge : List mV → mM → Option mV × mM
  | [.inr (.inr (_, c)), .inl n, .inr (.inl row)], M => (some (.inl (m_judge (m0 M) n row).1), (m_judge (m0 M) n row).2)
  | _, M => (none, M)
theorem ok_X12_judge (as : List mV) (M : mM) (h : pre_X12_judge as M) (_ : ∀ v ∈ as, okV v) : okR (fn_X12_judge as M).1 := by
  obtain ⟨c, n, row, rfl, -⟩ := h
  first | trivial | exact (by decide +kernel : kof 14 = 8)
theorem len_X12_judge (as : List mV) (M : mM) (h : pre_X12_judge as M) : (inL as).length ≤ 6 := by
  obtain ⟨c, n, row, rfl, -⟩ := h
  exact Nat.le_of_ble_eq_true rfl


theorem dX12_judge_0 : decode cX12_judge 0 = .ok (.aload_n 0, 1) := by decide +kernel
theorem dX12_judge_1 : decode cX12_judge 1 = .ok (.iconst 0, 1) := by decide +kernel
theorem dX12_judge_2 : decode cX12_judge 2 = .ok (.putfield 1, 3) := by decide +kernel
theorem dX12_judge_5 : decode cX12_judge 5 = .ok (.iload_n 1, 1) := by decide +kernel
theorem dX12_judge_6 : decode cX12_judge 6 = .ok (.i2l, 1) := by decide +kernel
theorem dX12_judge_7 : decode cX12_judge 7 = .ok (.lconst 1, 1) := by decide +kernel
theorem dX12_judge_8 : decode cX12_judge 8 = .ok (.ldc2_w 186, 3) := by decide +kernel
theorem dX12_judge_11 : decode cX12_judge 11 = .ok (.invokestatic 17, 3) := by decide +kernel
theorem dX12_judge_14 : decode cX12_judge 14 = .ok (.ifCond .eq 20, 3) := by decide +kernel
theorem dX12_judge_17 : decode cX12_judge 17 = .ok (.lload_n 2, 1) := by decide +kernel
theorem dX12_judge_18 : decode cX12_judge 18 = .ok (.lconst 0, 1) := by decide +kernel
theorem dX12_judge_19 : decode cX12_judge 19 = .ok (.ldc2_w 188, 3) := by decide +kernel
theorem dX12_judge_22 : decode cX12_judge 22 = .ok (.iload_n 1, 1) := by decide +kernel
theorem dX12_judge_23 : decode cX12_judge 23 = .ok (.invokestatic 190, 3) := by decide +kernel
theorem dX12_judge_26 : decode cX12_judge 26 = .ok (.lconst 1, 1) := by decide +kernel
theorem dX12_judge_27 : decode cX12_judge 27 = .ok (.lsub, 1) := by decide +kernel
theorem dX12_judge_28 : decode cX12_judge 28 = .ok (.invokestatic 17, 3) := by decide +kernel
theorem dX12_judge_31 : decode cX12_judge 31 = .ok (.ifCond .ne 6, 3) := by decide +kernel
theorem dX12_judge_34 : decode cX12_judge 34 = .ok (.bipush (-2), 2) := by decide +kernel
theorem dX12_judge_36 : decode cX12_judge 36 = .ok (.ireturn, 1) := by decide +kernel
theorem dX12_judge_37 : decode cX12_judge 37 = .ok (.aload_n 0, 1) := by decide +kernel
theorem dX12_judge_38 : decode cX12_judge 38 = .ok (.invokevirtual 176, 3) := by decide +kernel
theorem dX12_judge_41 : decode cX12_judge 41 = .ok (.iconst 0, 1) := by decide +kernel
theorem dX12_judge_42 : decode cX12_judge 42 = .ok (.istore 4, 2) := by decide +kernel
theorem dX12_judge_44 : decode cX12_judge 44 = .ok (.iload 4, 2) := by decide +kernel
theorem dX12_judge_46 : decode cX12_judge 46 = .ok (.iload_n 1, 1) := by decide +kernel
theorem dX12_judge_47 : decode cX12_judge 47 = .ok (.if_icmp .ge 58, 3) := by decide +kernel
theorem dX12_judge_50 : decode cX12_judge 50 = .ok (.lload_n 2, 1) := by decide +kernel
theorem dX12_judge_51 : decode cX12_judge 51 = .ok (.ldc2_w 188, 3) := by decide +kernel
theorem dX12_judge_54 : decode cX12_judge 54 = .ok (.iload_n 1, 1) := by decide +kernel
theorem dX12_judge_55 : decode cX12_judge 55 = .ok (.iconst 1, 1) := by decide +kernel
theorem dX12_judge_56 : decode cX12_judge 56 = .ok (.isub, 1) := by decide +kernel
theorem dX12_judge_57 : decode cX12_judge 57 = .ok (.iload 4, 2) := by decide +kernel
theorem dX12_judge_59 : decode cX12_judge 59 = .ok (.isub, 1) := by decide +kernel
theorem dX12_judge_60 : decode cX12_judge 60 = .ok (.invokestatic 190, 3) := by decide +kernel
theorem dX12_judge_63 : decode cX12_judge 63 = .ok (.ldiv, 1) := by decide +kernel
theorem dX12_judge_64 : decode cX12_judge 64 = .ok (.ldc2_w 188, 3) := by decide +kernel
theorem dX12_judge_67 : decode cX12_judge 67 = .ok (.lrem, 1) := by decide +kernel
theorem dX12_judge_68 : decode cX12_judge 68 = .ok (.l2i, 1) := by decide +kernel
theorem dX12_judge_69 : decode cX12_judge 69 = .ok (.istore 5, 2) := by decide +kernel
theorem dX12_judge_71 : decode cX12_judge 71 = .ok (.aload_n 0, 1) := by decide +kernel
theorem dX12_judge_72 : decode cX12_judge 72 = .ok (.iload 5, 2) := by decide +kernel
theorem dX12_judge_74 : decode cX12_judge 74 = .ok (.bipush 100, 2) := by decide +kernel
theorem dX12_judge_76 : decode cX12_judge 76 = .ok (.idiv, 1) := by decide +kernel
theorem dX12_judge_77 : decode cX12_judge 77 = .ok (.iload 5, 2) := by decide +kernel
theorem dX12_judge_79 : decode cX12_judge 79 = .ok (.bipush 10, 2) := by decide +kernel
theorem dX12_judge_81 : decode cX12_judge 81 = .ok (.idiv, 1) := by decide +kernel
theorem dX12_judge_82 : decode cX12_judge 82 = .ok (.bipush 10, 2) := by decide +kernel
theorem dX12_judge_84 : decode cX12_judge 84 = .ok (.irem, 1) := by decide +kernel
theorem dX12_judge_85 : decode cX12_judge 85 = .ok (.iload 5, 2) := by decide +kernel
theorem dX12_judge_87 : decode cX12_judge 87 = .ok (.bipush 10, 2) := by decide +kernel
theorem dX12_judge_89 : decode cX12_judge 89 = .ok (.irem, 1) := by decide +kernel
theorem dX12_judge_90 : decode cX12_judge 90 = .ok (.invokevirtual 194, 3) := by decide +kernel
theorem dX12_judge_93 : decode cX12_judge 93 = .ok (.ifCond .ne 6, 3) := by decide +kernel
theorem dX12_judge_96 : decode cX12_judge 96 = .ok (.iload 4, 2) := by decide +kernel
theorem dX12_judge_98 : decode cX12_judge 98 = .ok (.ireturn, 1) := by decide +kernel
theorem dX12_judge_99 : decode cX12_judge 99 = .ok (.iinc 4 1, 3) := by decide +kernel
theorem dX12_judge_102 : decode cX12_judge 102 = .ok (.goto (-58), 3) := by decide +kernel
theorem dX12_judge_105 : decode cX12_judge 105 = .ok (.bipush (-9), 2) := by decide +kernel
theorem dX12_judge_107 : decode cX12_judge 107 = .ok (.ireturn, 1) := by decide +kernel
theorem mk_X12_judge : MVk yX12_judge "FairBlocksModel" cX12_judge 6 (Option.some FieldType.int) 2 := ⟨w_967, w_965, w_966, w_13, rfl, by decide +kernel, by decide +kernel, by decide +kernel⟩
def BX12_judge_0 (G : Nat → KT) (Q : Option mV → mM → Prop) : KT := (s_aload 0 (s_iconst (0) (s_puti 12 0 (s_iload 1 (s_i2l (s_lconst 1 (s_lconst (4) (s_callS 3 pre_X12_in fn_X12_in (s_if (fun x => x = 0) (s_at G 34 [false, false, false, false, false, false]) (s_lload 2 (s_lconst 0 (s_lconst (1000) (s_iload 1 (s_callS 2 pre_X12_longPower fn_X12_longPower (s_lconst 1 (s_lbin (fun x y => x - y) (s_callS 3 pre_X12_in fn_X12_in (s_if (fun x => x = 0) ((s_at G 34 [false, false, false, false, false, false])) (s_at G 37 [true, true, true, false, false, false])))))))))))))))))))
set_option maxRecDepth 4000 in
theorem bsX12_judge_0 {p : Program} {l : Launch} {e : Env} {s : State} {m : MethodId} {args : Array Value} {below : List Frame} {meth : Method} {c : Code} {D : va_G} {ca : Nat → ClassId} {ad : Nat → Nat} {A : Nat → Prop} {Q : Option mV → mM → Prop} (hX : CX p s m args meth c 6 cX12_judge "FairBlocksModel" D ca ad A) (hr : meth.sig.returnType = (Option.some FieldType.int)) : ∀ lv st M, BX12_judge_0 (Gd p l e (rmD 7) s m args below meth c 6 D ca ad A 0 0 (MQ below (QC D ca ad A Q) args s 0 0 A)) Q lv st M → Gd p l e (rmD 7) s m args below meth c 6 D ca ad A 0 0 (MQ below (QC D ca ad A Q) args s 0 0 A) 0 lv st M :=
  (sd_aload_n hX dX12_judge_0 rfl (sd_iconst hX dX12_judge_1 rfl (sd_puti hX fp_723 dX12_judge_2 (sd_iload_n hX dX12_judge_5 rfl (sd_i2l hX dX12_judge_6 (sd_lconst hX dX12_judge_7 rfl (sd_ldc2 hX w_968 dX12_judge_8 (sd_callS hX (ct_X12_in l) mk_X12_in w_825 ⟨⟨by decide, by decide⟩, by decide, by decide⟩ dX12_judge_11 (sd_if_eq hX dX12_judge_14 (by decide) sd_at (sd_lload_n hX dX12_judge_17 rfl (sd_lconst hX dX12_judge_18 rfl (sd_ldc2 hX w_969 dX12_judge_19 (sd_iload_n hX dX12_judge_22 rfl (sd_callS hX (ct_X12_longPower l) mk_X12_longPower w_970 ⟨⟨by decide, by decide⟩, by decide, by decide⟩ dX12_judge_23 (sd_lconst hX dX12_judge_26 rfl (sd_lsub hX dX12_judge_27 (sd_callS hX (ct_X12_in l) mk_X12_in w_825 ⟨⟨by decide, by decide⟩, by decide, by decide⟩ dX12_judge_28 (sd_if_ne hX dX12_judge_31 (by decide) sd_at sd_at))))))))))))))))))
def BX12_judge_34 (G : Nat → KT) (Q : Option mV → mM → Prop) : KT := (s_iconst (-2) (s_iret Q))
set_option maxRecDepth 4000 in
theorem bsX12_judge_34 {p : Program} {l : Launch} {e : Env} {s : State} {m : MethodId} {args : Array Value} {below : List Frame} {meth : Method} {c : Code} {D : va_G} {ca : Nat → ClassId} {ad : Nat → Nat} {A : Nat → Prop} {Q : Option mV → mM → Prop} (hX : CX p s m args meth c 6 cX12_judge "FairBlocksModel" D ca ad A) (hr : meth.sig.returnType = (Option.some FieldType.int)) : ∀ lv st M, BX12_judge_34 (Gd p l e (rmD 7) s m args below meth c 6 D ca ad A 0 0 (MQ below (QC D ca ad A Q) args s 0 0 A)) Q lv st M → Gd p l e (rmD 7) s m args below meth c 6 D ca ad A 0 0 (MQ below (QC D ca ad A Q) args s 0 0 A) 34 lv st M :=
  (sd_bipush hX dX12_judge_34 rfl (sd_iret hX hr dX12_judge_36))
def BX12_judge_37 (G : Nat → KT) (Q : Option mV → mM → Prop) : KT := (s_aload 0 (s_callV 12 0 pre_X12_layTrial fn_X12_layTrial (s_iconst (0) (s_istore 4 (s_at G 44 [true, true, true, false, true, false])))))
set_option maxRecDepth 4000 in
theorem bsX12_judge_37 {p : Program} {l : Launch} {e : Env} {s : State} {m : MethodId} {args : Array Value} {below : List Frame} {meth : Method} {c : Code} {D : va_G} {ca : Nat → ClassId} {ad : Nat → Nat} {A : Nat → Prop} {Q : Option mV → mM → Prop} (hX : CX p s m args meth c 6 cX12_judge "FairBlocksModel" D ca ad A) (hr : meth.sig.returnType = (Option.some FieldType.int)) : ∀ lv st M, BX12_judge_37 (Gd p l e (rmD 7) s m args below meth c 6 D ca ad A 0 0 (MQ below (QC D ca ad A Q) args s 0 0 A)) Q lv st M → Gd p l e (rmD 7) s m args below meth c 6 D ca ad A 0 0 (MQ below (QC D ca ad A Q) args s 0 0 A) 37 lv st M :=
  (sd_aload_n hX dX12_judge_37 rfl (sd_callV hX (kd := 12) rfl (by decide) (ct_X12_layTrial l) mk_X12_layTrial w_940 ⟨⟨by decide, by decide⟩, by decide, by decide⟩ dX12_judge_38 (sd_iconst hX dX12_judge_41 rfl (sd_istore hX (by decide) dX12_judge_42 sd_at))))
def BX12_judge_44 (G : Nat → KT) (Q : Option mV → mM → Prop) : KT := (s_iload 4 (s_iload 1 (s_icmp (fun x y => y ≤ x) (s_at G 105 [false, false, false, false, false, false]) (s_lload 2 (s_lconst (1000) (s_iload 1 (s_iconst (1) (s_bin (fun x y => x - y) (s_iload 4 (s_bin (fun x y => x - y) (s_callS 2 pre_X12_longPower fn_X12_longPower (s_lbinG (fun x y => x / y) (s_lconst (1000) (s_lbinG (fun x y => x - x / y * y) (s_l2i (s_istore 5 (s_aload 0 (s_iload 5 (s_iconst (100) (s_binG (fun x y => x / y) (s_iload 5 (s_iconst (10) (s_binG (fun x y => x / y) (s_iconst (10) (s_binG (fun x y => x - x / y * y) (s_iload 5 (s_iconst (10) (s_binG (fun x y => x - x / y * y) (s_callV 12 3 pre_X12_does fn_X12_does (s_if (fun x => x = 0) ((s_iload 4 (s_iret Q))) (s_at G 99 [true, true, true, false, true, false])))))))))))))))))))))))))))))))
set_option maxRecDepth 4000 in
theorem bsX12_judge_44 {p : Program} {l : Launch} {e : Env} {s : State} {m : MethodId} {args : Array Value} {below : List Frame} {meth : Method} {c : Code} {D : va_G} {ca : Nat → ClassId} {ad : Nat → Nat} {A : Nat → Prop} {Q : Option mV → mM → Prop} (hX : CX p s m args meth c 6 cX12_judge "FairBlocksModel" D ca ad A) (hr : meth.sig.returnType = (Option.some FieldType.int)) : ∀ lv st M, BX12_judge_44 (Gd p l e (rmD 7) s m args below meth c 6 D ca ad A 0 0 (MQ below (QC D ca ad A Q) args s 0 0 A)) Q lv st M → Gd p l e (rmD 7) s m args below meth c 6 D ca ad A 0 0 (MQ below (QC D ca ad A Q) args s 0 0 A) 44 lv st M :=
  (sd_iload hX dX12_judge_44 (sd_iload_n hX dX12_judge_46 rfl (sd_icmp_ge hX dX12_judge_47 (by decide) sd_at (sd_lload_n hX dX12_judge_50 rfl (sd_ldc2 hX w_969 dX12_judge_51 (sd_iload_n hX dX12_judge_54 rfl (sd_iconst hX dX12_judge_55 rfl (sd_isub hX dX12_judge_56 (sd_iload hX dX12_judge_57 (sd_isub hX dX12_judge_59 (sd_callS hX (ct_X12_longPower l) mk_X12_longPower w_970 ⟨⟨by decide, by decide⟩, by decide, by decide⟩ dX12_judge_60 (sd_ldiv hX dX12_judge_63 (sd_ldc2 hX w_969 dX12_judge_64 (sd_lrem hX dX12_judge_67 (sd_l2i hX dX12_judge_68 (sd_istore hX (by decide) dX12_judge_69 (sd_aload_n hX dX12_judge_71 rfl (sd_iload hX dX12_judge_72 (sd_bipush hX dX12_judge_74 rfl (sd_idiv hX dX12_judge_76 (sd_iload hX dX12_judge_77 (sd_bipush hX dX12_judge_79 rfl (sd_idiv hX dX12_judge_81 (sd_bipush hX dX12_judge_82 rfl (sd_irem hX dX12_judge_84 (sd_iload hX dX12_judge_85 (sd_bipush hX dX12_judge_87 rfl (sd_irem hX dX12_judge_89 (sd_callV hX (kd := 12) rfl (by decide) (ct_X12_does l) mk_X12_does w_973 ⟨⟨by decide, by decide⟩, by decide, by decide⟩ dX12_judge_90 (sd_if_ne hX dX12_judge_93 (by decide) sd_at (sd_iload hX dX12_judge_96 (sd_iret hX hr dX12_judge_98))))))))))))))))))))))))))))))))
def BX12_judge_99 (G : Nat → KT) (Q : Option mV → mM → Prop) : KT := (s_iinc 4 (1) (s_at G 44 [true, true, true, false, true, false]))
set_option maxRecDepth 4000 in
theorem bsX12_judge_99 {p : Program} {l : Launch} {e : Env} {s : State} {m : MethodId} {args : Array Value} {below : List Frame} {meth : Method} {c : Code} {D : va_G} {ca : Nat → ClassId} {ad : Nat → Nat} {A : Nat → Prop} {Q : Option mV → mM → Prop} (hX : CX p s m args meth c 6 cX12_judge "FairBlocksModel" D ca ad A) (hr : meth.sig.returnType = (Option.some FieldType.int)) : ∀ lv st M, BX12_judge_99 (Gd p l e (rmD 7) s m args below meth c 6 D ca ad A 0 0 (MQ below (QC D ca ad A Q) args s 0 0 A)) Q lv st M → Gd p l e (rmD 7) s m args below meth c 6 D ca ad A 0 0 (MQ below (QC D ca ad A Q) args s 0 0 A) 99 lv st M :=
  (sd_iinc hX (by decide) dX12_judge_99 rfl (sd_goto hX dX12_judge_102 (by decide) sd_at))
def BX12_judge_105 (G : Nat → KT) (Q : Option mV → mM → Prop) : KT := (s_iconst (-9) (s_iret Q))
set_option maxRecDepth 4000 in
theorem bsX12_judge_105 {p : Program} {l : Launch} {e : Env} {s : State} {m : MethodId} {args : Array Value} {below : List Frame} {meth : Method} {c : Code} {D : va_G} {ca : Nat → ClassId} {ad : Nat → Nat} {A : Nat → Prop} {Q : Option mV → mM → Prop} (hX : CX p s m args meth c 6 cX12_judge "FairBlocksModel" D ca ad A) (hr : meth.sig.returnType = (Option.some FieldType.int)) : ∀ lv st M, BX12_judge_105 (Gd p l e (rmD 7) s m args below meth c 6 D ca ad A 0 0 (MQ below (QC D ca ad A Q) args s 0 0 A)) Q lv st M → Gd p l e (rmD 7) s m args below meth c 6 D ca ad A 0 0 (MQ below (QC D ca ad A Q) args s 0 0 A) 105 lv st M :=
  (sd_bipush hX dX12_judge_105 rfl (sd_iret hX hr dX12_judge_107))
set_option maxHeartbeats 400000 in
theorem pf_X12_judge (G : Nat → KT) (Q : Option mV → mM → Prop) (h0 : ∀ lv st M, BX12_judge_0 G Q lv st M → G 0 lv st M) (h34 : ∀ lv st M, BX12_judge_34 G Q lv st M → G 34 lv st M) (h37 : ∀ lv st M, BX12_judge_37 G Q lv st M → G 37 lv st M) (h44 : ∀ lv st M, BX12_judge_44 G Q lv st M → G 44 lv st M) (h99 : ∀ lv st M, BX12_judge_99 G Q lv st M → G 99 lv st M) (h105 : ∀ lv st M, BX12_judge_105 G Q lv st M → G 105 lv st M) (as : List mV) (M : mM) (ho : ∀ v ∈ as, okV v) (hp : pre_X12_judge as M) (hQ : Q (fn_X12_judge as M).1 (fn_X12_judge as M).2) : G 0 (inL as ++ List.replicate (6 - (inL as).length) none) [] M := by
  obtain ⟨c, n, row, rfl, hM⟩ := hp
  obtain rfl : c = 158 := k12 (ho (.inr (.inr (12, c))) (by simp))
  have hI := MI_0 hM
  have e : iL n.toInt64 1 4 = wi n 1 4 := iLw n 1 4
  simp only [fn_X12_judge, m_judge] at hQ
  have F : ∀ M, Q (some (.inl (-2))) M → G 34 [none, none, none, none, none, none] [] M := by
    intro M hQ
    (apply h34; simp only [BX12_judge_34, s_mth, s_mab, s_at, s_iconst, s_lconst, s_iload, s_lload, s_aload, s_istore, s_lstore, s_astore, s_iinc, s_bin, s_binG, s_un, s_lbin, s_lbinG, s_lsh, s_lcmp, s_i2l, s_l2i, s_dup, s_dup2, s_pop, s_if, s_icmp, s_geti, s_getl, s_getr, s_puti, s_putz, s_putl, s_iald, s_zald, s_iast, s_zast, s_aaldS, s_aaldU, s_gets, s_tald, s_tsw, tsw, s_iret, s_zret, s_lret, s_aret, s_vret, s_callV, s_callS, c1, nl1, keepL, csum, pushR, inL, List.getD_cons_zero, List.getD_cons_succ, List.set_cons_zero, List.set_cons_succ, List.cons_append, List.nil_append, List.append_nil, List.replicate, List.length_cons, List.length_nil, List.take_succ_cons, List.take_zero, List.drop_succ_cons, List.drop_zero, List.reverse_cons, List.reverse_nil, true_and, and_true, forall_const, not_true_eq_false, not_false_eq_true, false_implies, true_implies, implies_true, one0, m10, Nat.reduceAdd, Nat.reduceSub, Nat.reduceLeDiff, Nat.zero_add, Nat.add_zero, fn_X12_does, fn_X12_in, fn_X12_layTrial, fn_X12_longPower])
    exact hQ
  (apply h0; simp only [BX12_judge_0, s_mth, s_mab, s_at, s_iconst, s_lconst, s_iload, s_lload, s_aload, s_istore, s_lstore, s_astore, s_iinc, s_bin, s_binG, s_un, s_lbin, s_lbinG, s_lsh, s_lcmp, s_i2l, s_l2i, s_dup, s_dup2, s_pop, s_if, s_icmp, s_geti, s_getl, s_getr, s_puti, s_putz, s_putl, s_iald, s_zald, s_iast, s_zast, s_aaldS, s_aaldU, s_gets, s_tald, s_tsw, tsw, s_iret, s_zret, s_lret, s_aret, s_vret, s_callV, s_callS, c1, nl1, keepL, csum, pushR, inL, List.getD_cons_zero, List.getD_cons_succ, List.set_cons_zero, List.set_cons_succ, List.cons_append, List.nil_append, List.append_nil, List.replicate, List.length_cons, List.length_nil, List.take_succ_cons, List.take_zero, List.drop_succ_cons, List.drop_zero, List.reverse_cons, List.reverse_nil, true_and, and_true, forall_const, not_true_eq_false, not_false_eq_true, false_implies, true_implies, implies_true, one0, m10, Nat.reduceAdd, Nat.reduceSub, Nat.reduceLeDiff, Nat.zero_add, Nat.add_zero, fn_X12_does, fn_X12_in, fn_X12_layTrial, fn_X12_longPower])
  rw [show mset M 158 0 0 = m0 M from rfl, e]
  generalize m0 M = M0 at *
  refine ⟨⟨_, _, _, rfl⟩, fun h => ?_, fun h => ?_⟩
  · rw [if_pos h] at hQ; exact F _ hQ
  · rw [if_neg h] at hQ
    obtain ⟨N, h1, h4, rfl⟩ := wi_g (d := 1) (c := 4) rfl rfl (by decide) (by decide) h
    rw [nI_clamp (by omega : N < 2 ^ 31)] at hQ
    rw [nI_clamp (by omega : N < 2 ^ 31), show lpw 1000 N = uo N from rfl, iL_uo h4]
    refine ⟨⟨_, _, rfl, N, by omega, rfl⟩, ⟨_, _, _, rfl⟩, fun h2 => ?_, fun h2 => ?_⟩
    · split at h2
      · next g => rw [if_pos g] at hQ; exact F _ hQ
      · next g =>
        split at h2
        · exact absurd h2 (by decide)
        · next g2 => rw [if_neg g, if_neg g2] at hQ; exact F _ hQ
    · split at h2
      · exact absurd rfl h2
      · next g =>
        split at h2
        · next h3 =>
          rw [if_neg g, if_pos h3] at hQ
          obtain ⟨r, hr, rfl⟩ := pk_lOf g
          have hu := uo_v N h4
          have hr2 : r < 10 ^ 12 := by
            rw [hu.1] at h3
            have h5 := (pk_lLT hr hu.2.2.1).mp h3
            have : 1000 ^ N ≤ 1000 ^ 4 := Nat.pow_le_pow_right (by decide) h4
            omega
          have loop : ∀ (m p : Nat) (M : mM), p + m = N → PM M → PG M 166 (99 * m + 1) → Q (some (.inl (jgL (lN r) N m p M).1)) (jgL (lN r) N m p M).2 → G 44 [some (.inr (.inr (12, 158))), some (.inl (nI N)), some (.inr (.inl (lN r))), none, some (.inl (nI p)), none] [] M := by
            intro m
            induction m with
            | zero =>
              intro p M hi hP hG hq
              obtain rfl : p = N := by omega
              (apply h44; simp only [BX12_judge_44, s_mth, s_mab, s_at, s_iconst, s_lconst, s_iload, s_lload, s_aload, s_istore, s_lstore, s_astore, s_iinc, s_bin, s_binG, s_un, s_lbin, s_lbinG, s_lsh, s_lcmp, s_i2l, s_l2i, s_dup, s_dup2, s_pop, s_if, s_icmp, s_geti, s_getl, s_getr, s_puti, s_putz, s_putl, s_iald, s_zald, s_iast, s_zast, s_aaldS, s_aaldU, s_gets, s_tald, s_tsw, tsw, s_iret, s_zret, s_lret, s_aret, s_vret, s_callV, s_callS, c1, nl1, keepL, csum, pushR, inL, List.getD_cons_zero, List.getD_cons_succ, List.set_cons_zero, List.set_cons_succ, List.cons_append, List.nil_append, List.append_nil, List.replicate, List.length_cons, List.length_nil, List.take_succ_cons, List.take_zero, List.drop_succ_cons, List.drop_zero, List.reverse_cons, List.reverse_nil, true_and, and_true, forall_const, not_true_eq_false, not_false_eq_true, false_implies, true_implies, implies_true, one0, m10, Nat.reduceAdd, Nat.reduceSub, Nat.reduceLeDiff, Nat.zero_add, Nat.add_zero, fn_X12_does, fn_X12_in, fn_X12_layTrial, fn_X12_longPower])
              refine ⟨fun _ => ?_, fun h => absurd (nI_le (Nat.le_refl p) (by omega)) h⟩
              (apply h105; simp only [BX12_judge_105, s_mth, s_mab, s_at, s_iconst, s_lconst, s_iload, s_lload, s_aload, s_istore, s_lstore, s_astore, s_iinc, s_bin, s_binG, s_un, s_lbin, s_lbinG, s_lsh, s_lcmp, s_i2l, s_l2i, s_dup, s_dup2, s_pop, s_if, s_icmp, s_geti, s_getl, s_getr, s_puti, s_putz, s_putl, s_iald, s_zald, s_iast, s_zast, s_aaldS, s_aaldU, s_gets, s_tald, s_tsw, tsw, s_iret, s_zret, s_lret, s_aret, s_vret, s_callV, s_callS, c1, nl1, keepL, csum, pushR, inL, List.getD_cons_zero, List.getD_cons_succ, List.set_cons_zero, List.set_cons_succ, List.cons_append, List.nil_append, List.append_nil, List.replicate, List.length_cons, List.length_nil, List.take_succ_cons, List.take_zero, List.drop_succ_cons, List.drop_zero, List.reverse_cons, List.reverse_nil, true_and, and_true, forall_const, not_true_eq_false, not_false_eq_true, false_implies, true_implies, implies_true, one0, m10, Nat.reduceAdd, Nat.reduceSub, Nat.reduceLeDiff, Nat.zero_add, Nat.add_zero, fn_X12_does, fn_X12_in, fn_X12_layTrial, fn_X12_longPower])
              exact hq
            | succ m ih =>
              intro p M hi hP hG hq
              have e1 : nI N - 1 - nI p = nI (N - 1 - p) := by rw [show (1 : Int32) = nI 1 from rfl, pk_sub (by omega), pk_sub (by omega)]
              have hu := uo_v (N - 1 - p) (by omega)
              have ed := dgt_v (r := r) (N := N) (p := p) hr2 (by omega)
              have hlt : r / 1000 ^ (N - 1 - p) % 1000 < 1000 := Nat.mod_lt _ (by decide)
              have ga : ∃ j, j ≤ 9 ∧ rm (dgt (lN r) N p / 10) 10 = nI j := by
                refine ⟨r / 1000 ^ (N - 1 - p) % 1000 / 10 % 10, by omega, ?_⟩
                rw [ed, show (10 : Int32) = nI 10 from rfl, pk_div (by omega) (by decide) (by decide)]
                exact pk_rem (by omega) (by decide) (by decide)
              have gb : ∃ j, j ≤ 9 ∧ rm (dgt (lN r) N p) 10 = nI j := by
                refine ⟨r / 1000 ^ (N - 1 - p) % 1000 % 10, by omega, ?_⟩
                rw [ed]
                exact pk_rem (by omega) (by decide) (by decide)
              (apply h44; simp only [BX12_judge_44, s_mth, s_mab, s_at, s_iconst, s_lconst, s_iload, s_lload, s_aload, s_istore, s_lstore, s_astore, s_iinc, s_bin, s_binG, s_un, s_lbin, s_lbinG, s_lsh, s_lcmp, s_i2l, s_l2i, s_dup, s_dup2, s_pop, s_if, s_icmp, s_geti, s_getl, s_getr, s_puti, s_putz, s_putl, s_iald, s_zald, s_iast, s_zast, s_aaldS, s_aaldU, s_gets, s_tald, s_tsw, tsw, s_iret, s_zret, s_lret, s_aret, s_vret, s_callV, s_callS, c1, nl1, keepL, csum, pushR, inL, List.getD_cons_zero, List.getD_cons_succ, List.set_cons_zero, List.set_cons_succ, List.cons_append, List.nil_append, List.append_nil, List.replicate, List.length_cons, List.length_nil, List.take_succ_cons, List.take_zero, List.drop_succ_cons, List.drop_zero, List.reverse_cons, List.reverse_nil, true_and, and_true, forall_const, not_true_eq_false, not_false_eq_true, false_implies, true_implies, implies_true, one0, m10, Nat.reduceAdd, Nat.reduceSub, Nat.reduceLeDiff, Nat.zero_add, Nat.add_zero, fn_X12_does, fn_X12_in, fn_X12_layTrial, fn_X12_longPower])
              simp only [e1, nI_clamp (show N - 1 - p < 2 ^ 31 by omega)]
              refine ⟨fun h => absurd h (nI_ge (by omega) (by omega)), fun _ => ⟨⟨_, _, rfl, N - 1 - p, by omega, rfl⟩, hu.2.2.2, by decide, by decide, by decide, by decide, by decide, ⟨_, _, _, _, rfl, hP, PG_le hG (by omega), ga, gb⟩, fun h => ?_, fun h => ?_⟩⟩
              · have h' : (dz M (dgt (lN r) N p / 100) (rm (dgt (lN r) N p / 10) 10) (rm (dgt (lN r) N p) 10)).1 = 0 := h
                rw [jgL, if_pos h'] at hq
                exact hq
              · have h' : ¬ (dz M (dgt (lN r) N p / 100) (rm (dgt (lN r) N p / 10) 10) (rm (dgt (lN r) N p) 10)).1 = 0 := h
                rw [jgL, if_neg h'] at hq
                have hz := dz_f (h := dgt (lN r) N p / 100) (n := 99 * m + 1) hP (PG_le hG (by omega)) ga gb
                (apply h99; simp only [BX12_judge_99, s_mth, s_mab, s_at, s_iconst, s_lconst, s_iload, s_lload, s_aload, s_istore, s_lstore, s_astore, s_iinc, s_bin, s_binG, s_un, s_lbin, s_lbinG, s_lsh, s_lcmp, s_i2l, s_l2i, s_dup, s_dup2, s_pop, s_if, s_icmp, s_geti, s_getl, s_getr, s_puti, s_putz, s_putl, s_iald, s_zald, s_iast, s_zast, s_aaldS, s_aaldU, s_gets, s_tald, s_tsw, tsw, s_iret, s_zret, s_lret, s_aret, s_vret, s_callV, s_callS, c1, nl1, keepL, csum, pushR, inL, List.getD_cons_zero, List.getD_cons_succ, List.set_cons_zero, List.set_cons_succ, List.cons_append, List.nil_append, List.append_nil, List.replicate, List.length_cons, List.length_nil, List.take_succ_cons, List.take_zero, List.drop_succ_cons, List.drop_zero, List.reverse_cons, List.reverse_nil, true_and, and_true, forall_const, not_true_eq_false, not_false_eq_true, false_implies, true_implies, implies_true, one0, m10, Nat.reduceAdd, Nat.reduceSub, Nat.reduceLeDiff, Nat.zero_add, Nat.add_zero, fn_X12_does, fn_X12_in, fn_X12_layTrial, fn_X12_longPower])
                rw [nI_1]
                exact ih (p + 1) _ (by omega) hz.1 hz.2 hq
          (apply h37; simp only [BX12_judge_37, s_mth, s_mab, s_at, s_iconst, s_lconst, s_iload, s_lload, s_aload, s_istore, s_lstore, s_astore, s_iinc, s_bin, s_binG, s_un, s_lbin, s_lbinG, s_lsh, s_lcmp, s_i2l, s_l2i, s_dup, s_dup2, s_pop, s_if, s_icmp, s_geti, s_getl, s_getr, s_puti, s_putz, s_putl, s_iald, s_zald, s_iast, s_zast, s_aaldS, s_aaldU, s_gets, s_tald, s_tsw, tsw, s_iret, s_zret, s_lret, s_aret, s_vret, s_callV, s_callS, c1, nl1, keepL, csum, pushR, inL, List.getD_cons_zero, List.getD_cons_succ, List.set_cons_zero, List.set_cons_succ, List.cons_append, List.nil_append, List.append_nil, List.replicate, List.length_cons, List.length_nil, List.take_succ_cons, List.take_zero, List.drop_succ_cons, List.drop_zero, List.reverse_cons, List.reverse_nil, true_and, and_true, forall_const, not_true_eq_false, not_false_eq_true, false_implies, true_implies, implies_true, one0, m10, Nat.reduceAdd, Nat.reduceSub, Nat.reduceLeDiff, Nat.zero_add, Nat.add_zero, fn_X12_does, fn_X12_in, fn_X12_layTrial, fn_X12_longPower])
          exact ⟨⟨_, rfl⟩, loop N 0 _ (by omega) (PM_lay hI.1.1) (PG_le (PG_lay hI.1.2) (by omega)) hQ⟩
        · exact absurd rfl h2
theorem ct_X12_judge (l : Launch) : Con l yX12_judge cX12_judge 6 (Option.some FieldType.int) 7 pre_X12_judge fn_X12_judge := con_of (by decide +kernel) ok_X12_judge len_X12_judge (fun p e s m args below meth c D ca ad A as M hX hr hp ho => pf_X12_judge _ _ (bsX12_judge_0 hX hr) (bsX12_judge_34 hX hr) (bsX12_judge_37 hX hr) (bsX12_judge_44 hX hr) (bsX12_judge_99 hX hr) (bsX12_judge_105 hX hr) as M ho hp ⟨rfl, rfl⟩)
