/-! the model: shares, slots that fail, comings by a seed -/
theorem rm_abs (x y : Int32) : (rm x y).toInt.natAbs = x.toInt.natAbs % y.toInt.natAbs := by
  have e : rm x y = x % y := by
    unfold rm
    apply Int32.toInt_inj.mp
    have h1 := Int32.le_toInt (x % y)
    have h2 := Int32.toInt_lt (x % y)
    rw [Int32.toInt_sub, Int32.toInt_mul, Int32.toInt_div, Int.bmod_mul_bmod, Int.sub_bmod_bmod, Int.mul_comm (x.toInt.tdiv y.toInt), ← Int.tmod_def, ← Int32.toInt_mod]
    exact Int.bmod_eq_of_le_mul_two (by omega) (by omega)
  rw [e, Int32.toInt_mod, Int.natAbs_tmod]
theorem abs0 {x : Int32} : x.toInt.natAbs = 0 ↔ x = 0 := by
  rw [Int.natAbs_eq_zero]
  constructor
  · intro h; apply Int32.toInt_inj.mp; rw [h]; rfl
  · intro h; rw [h]; rfl
theorem dv_k : ∀ (k : Nat) (g l : Int32), l.toInt.natAbs < 2 ^ k → ∃ r, dvL (2 * k + 1) g l = some r ∧ r.toInt.natAbs = Nat.gcd g.toInt.natAbs l.toInt.natAbs
  | 0, g, l, h => by
    have h0 : l = 0 := abs0.mp (by omega)
    refine ⟨g, by rw [dvL, if_pos h0], ?_⟩
    rw [abs0.mpr h0, Nat.gcd_zero_right]
  | k + 1, g, l, h => by
    by_cases hl : l = 0
    · refine ⟨g, by rw [dvL, if_pos hl], ?_⟩
      rw [abs0.mpr hl, Nat.gcd_zero_right]
    · have hl' : 0 < l.toInt.natAbs := Nat.pos_of_ne_zero fun g => hl (abs0.mp g)
      have hr := rm_abs g l
      have hlt := Nat.mod_lt g.toInt.natAbs hl'
      by_cases h2 : rm g l = 0
      · refine ⟨l, by rw [show 2 * (k + 1) + 1 = 2 * k + 1 + 1 + 1 from rfl, dvL, if_neg hl, dvL, if_pos h2], ?_⟩
        rw [abs0.mpr h2] at hr
        rw [Nat.gcd_comm, Nat.gcd_rec, ← hr, Nat.gcd_zero_left]
      · have h2' : 0 < (rm g l).toInt.natAbs := Nat.pos_of_ne_zero fun g => h2 (abs0.mp g)
        have hr2 := rm_abs l (rm g l)
        have hm := Nat.mod_lt l.toInt.natAbs h2'
        have hd := Nat.mod_add_div l.toInt.natAbs (rm g l).toInt.natAbs
        have hq : 1 ≤ l.toInt.natAbs / (rm g l).toInt.natAbs := (Nat.le_div_iff_mul_le h2').mpr (by rw [Nat.one_mul, hr]; omega)
        have hq2 : (rm g l).toInt.natAbs ≤ (rm g l).toInt.natAbs * (l.toInt.natAbs / (rm g l).toInt.natAbs) := Nat.le_mul_of_pos_right _ hq
        have hp : 2 ^ (k + 1) = 2 * 2 ^ k := by rw [Nat.pow_succ, Nat.mul_comm]
        obtain ⟨r, e1, e2⟩ := dv_k k (rm g l) (rm l (rm g l)) (by rw [hr2]; omega)
        refine ⟨r, ?_, ?_⟩
        · rw [show 2 * (k + 1) + 1 = 2 * k + 1 + 1 + 1 from rfl, dvL, if_neg hl, dvL, if_neg h2]
          exact e1
        · rw [e2, hr2, Nat.gcd_comm (rm g l).toInt.natAbs, ← Nat.gcd_rec, hr, ← Nat.gcd_rec, Nat.gcd_comm]
theorem dv_ok (g l : Int32) : ∃ r, dvL 101 g l = some r ∧ r.toInt.natAbs = Nat.gcd g.toInt.natAbs l.toInt.natAbs := by
  refine dv_k 50 g l ?_
  have h1 := Int32.le_toInt l
  have h2 := Int32.toInt_lt l
  omega
theorem dv_pre {a b : Int32} (hb : ¬ b = 0) : (∃ g, dvL 101 (ng a) b = some g) ∧ ¬ dvD a b = 0 := by
  obtain ⟨r, e1, e2⟩ := dv_ok (ng a) b
  refine ⟨⟨r, e1⟩, ?_⟩
  unfold dvD
  rw [e1, Option.getD_some]
  intro h
  rw [abs0.mpr h] at e2
  have := Nat.eq_zero_of_gcd_eq_zero_right e2.symm
  exact hb (abs0.mp this)
def gbS (t : Int32) (i : Nat) (M : mM) : mM := mset M 166 (10 * i + 3) (if hs1 t (nI i) = 0 then 1 else 0)
def gbM (M : mM) (t : Int32) : mM := itr (gbS t) 0 (nM M) (lay M)
def gb (M : mM) (t : Int32) : Int32 × mM := sos (gbM M t) 166 20
theorem gbS_f {M M' : mM} {t : Int32} {i : Nat} (hi : i < 5) (h : TR M M' ∧ PM M' ∧ PG M' 166 1000) : TR M (gbS t i M') ∧ PM (gbS t i M') ∧ PG (gbS t i M') 166 1000 :=
  ⟨TR_mset h.1, PM_mset h.2.1 (by decide) (by decide), PG_mset h.2.2 (by omega)⟩
theorem gbM_f {M : mM} {t : Int32} (hP : PM M) (hG : PG M 165 1000) : TR M (gbM M t) ∧ PM (gbM M t) ∧ PG (gbM M t) 166 1000 := by
  have hn := (nM_e hP).1
  exact itr_inv (gbS t) (fun M' => TR M M' ∧ PM M' ∧ PG M' 166 1000) (nM M) 0 (lay M) (fun j q _ h2 hq => gbS_f (by omega) hq) ⟨TR_lay, PM_lay hP, PG_lay hG⟩
theorem TR_gb {M : mM} {t : Int32} (hP : PM M) (hG : PG M 165 1000) : TR M (gb M t).2 := by
  obtain ⟨h1, h2, h3⟩ := gbM_f (t := t) hP hG
  exact TR_sos h1 h2 (PG_le h3 (by decide))
def pre_X12_gotBy (as : List mV) (M : mM) : Prop := ∃ c t, as = [.inr (.inr (12, c)), .inl t] ∧ PM M ∧ PG M 165 1000
def fn_X12_gotBy : List mV → mM → Option mV × mM
  | [.inr (.inr (_, c)), .inl t], M => (some (.inl (gb M t).1), (gb M t).2)
  | _, M => (none, M)
theorem ok_X12_gotBy (as : List mV) (M : mM) (h : pre_X12_gotBy as M) (_ : ∀ v ∈ as, okV v) : okR (fn_X12_gotBy as M).1 := by
  obtain ⟨c, t, rfl, -⟩ := h
  first | trivial | exact (by decide +kernel : kof 14 = 8)
theorem len_X12_gotBy (as : List mV) (M : mM) (h : pre_X12_gotBy as M) : (inL as).length ≤ 3 := by
  obtain ⟨c, t, rfl, -⟩ := h
  exact Nat.le_of_ble_eq_true rfl


theorem dX12_gotBy_0 : decode cX12_gotBy 0 = .ok (.aload_n 0, 1) := by decide +kernel
theorem dX12_gotBy_1 : decode cX12_gotBy 1 = .ok (.invokevirtual 176, 3) := by decide +kernel
theorem dX12_gotBy_4 : decode cX12_gotBy 4 = .ok (.iconst 0, 1) := by decide +kernel
theorem dX12_gotBy_5 : decode cX12_gotBy 5 = .ok (.istore_n 2, 1) := by decide +kernel
theorem dX12_gotBy_6 : decode cX12_gotBy 6 = .ok (.iload_n 2, 1) := by decide +kernel
theorem dX12_gotBy_7 : decode cX12_gotBy 7 = .ok (.aload_n 0, 1) := by decide +kernel
theorem dX12_gotBy_8 : decode cX12_gotBy 8 = .ok (.getfield 14, 3) := by decide +kernel
theorem dX12_gotBy_11 : decode cX12_gotBy 11 = .ok (.if_icmp .ge 33, 3) := by decide +kernel
theorem dX12_gotBy_14 : decode cX12_gotBy 14 = .ok (.aload_n 0, 1) := by decide +kernel
theorem dX12_gotBy_15 : decode cX12_gotBy 15 = .ok (.getfield 7, 3) := by decide +kernel
theorem dX12_gotBy_18 : decode cX12_gotBy 18 = .ok (.bipush 10, 2) := by decide +kernel
theorem dX12_gotBy_20 : decode cX12_gotBy 20 = .ok (.iload_n 2, 1) := by decide +kernel
theorem dX12_gotBy_21 : decode cX12_gotBy 21 = .ok (.imul, 1) := by decide +kernel
theorem dX12_gotBy_22 : decode cX12_gotBy 22 = .ok (.iconst 3, 1) := by decide +kernel
theorem dX12_gotBy_23 : decode cX12_gotBy 23 = .ok (.iadd, 1) := by decide +kernel
theorem dX12_gotBy_24 : decode cX12_gotBy 24 = .ok (.iload_n 1, 1) := by decide +kernel
theorem dX12_gotBy_25 : decode cX12_gotBy 25 = .ok (.iload_n 2, 1) := by decide +kernel
theorem dX12_gotBy_26 : decode cX12_gotBy 26 = .ok (.invokestatic 207, 3) := by decide +kernel
theorem dX12_gotBy_29 : decode cX12_gotBy 29 = .ok (.ifCond .eq 7, 3) := by decide +kernel
theorem dX12_gotBy_32 : decode cX12_gotBy 32 = .ok (.iconst 0, 1) := by decide +kernel
theorem dX12_gotBy_33 : decode cX12_gotBy 33 = .ok (.goto 4, 3) := by decide +kernel
theorem dX12_gotBy_36 : decode cX12_gotBy 36 = .ok (.iconst 1, 1) := by decide +kernel
theorem dX12_gotBy_37 : decode cX12_gotBy 37 = .ok (.iastore, 1) := by decide +kernel
theorem dX12_gotBy_38 : decode cX12_gotBy 38 = .ok (.iinc 2 1, 3) := by decide +kernel
theorem dX12_gotBy_41 : decode cX12_gotBy 41 = .ok (.goto (-35), 3) := by decide +kernel
theorem dX12_gotBy_44 : decode cX12_gotBy 44 = .ok (.aload_n 0, 1) := by decide +kernel
theorem dX12_gotBy_45 : decode cX12_gotBy 45 = .ok (.aload_n 0, 1) := by decide +kernel
theorem dX12_gotBy_46 : decode cX12_gotBy 46 = .ok (.getfield 7, 3) := by decide +kernel
theorem dX12_gotBy_49 : decode cX12_gotBy 49 = .ok (.bipush 20, 2) := by decide +kernel
theorem dX12_gotBy_51 : decode cX12_gotBy 51 = .ok (.invokevirtual 167, 3) := by decide +kernel
theorem dX12_gotBy_54 : decode cX12_gotBy 54 = .ok (.ireturn, 1) := by decide +kernel
theorem mk_X12_gotBy : MVk yX12_gotBy "FairBlocksModel" cX12_gotBy 3 (Option.some FieldType.int) 1 := ⟨w_1017, w_1016, wp_35, w_13, rfl, by decide +kernel, by decide +kernel, by decide +kernel⟩
def BX12_gotBy_0 (G : Nat → KT) (Q : Option mV → mM → Prop) : KT := (s_aload 0 (s_callV 12 0 pre_X12_layTrial fn_X12_layTrial (s_iconst (0) (s_istore 2 (s_at G 6 [true, true, true])))))
set_option maxRecDepth 4000 in
theorem bsX12_gotBy_0 {p : Program} {l : Launch} {e : Env} {s : State} {m : MethodId} {args : Array Value} {below : List Frame} {meth : Method} {c : Code} {D : va_G} {ca : Nat → ClassId} {ad : Nat → Nat} {A : Nat → Prop} {Q : Option mV → mM → Prop} (hX : CX p s m args meth c 3 cX12_gotBy "FairBlocksModel" D ca ad A) (hr : meth.sig.returnType = (Option.some FieldType.int)) : ∀ lv st M, BX12_gotBy_0 (Gd p l e (rmD 5) s m args below meth c 3 D ca ad A 0 0 (MQ below (QC D ca ad A Q) args s 0 0 A)) Q lv st M → Gd p l e (rmD 5) s m args below meth c 3 D ca ad A 0 0 (MQ below (QC D ca ad A Q) args s 0 0 A) 0 lv st M :=
  (sd_aload_n hX dX12_gotBy_0 rfl (sd_callV hX (kd := 12) rfl (by decide) (ct_X12_layTrial l) mk_X12_layTrial w_940 ⟨⟨by decide, by decide⟩, by decide, by decide⟩ dX12_gotBy_1 (sd_iconst hX dX12_gotBy_4 rfl (sd_istore_n hX (by decide) dX12_gotBy_5 rfl sd_at))))
def BX12_gotBy_6 (G : Nat → KT) (Q : Option mV → mM → Prop) : KT := (s_iload 2 (s_aload 0 (s_geti 12 6 (s_icmp (fun x y => y ≤ x) (s_at G 44 [true, false, false]) (s_aload 0 (s_getr 12 13 (fun _ => 166) (s_iconst (10) (s_iload 2 (s_bin (fun x y => x * y) (s_iconst (3) (s_bin (fun x y => x + y) (s_iload 1 (s_iload 2 (s_callS 2 pre_X12_has fn_X12_has (s_if (fun x => x = 0) (s_at G 36 [true, true, true]) (s_iconst (0) (s_at G 37 [true, true, true])))))))))))))))))
set_option maxRecDepth 4000 in
theorem bsX12_gotBy_6 {p : Program} {l : Launch} {e : Env} {s : State} {m : MethodId} {args : Array Value} {below : List Frame} {meth : Method} {c : Code} {D : va_G} {ca : Nat → ClassId} {ad : Nat → Nat} {A : Nat → Prop} {Q : Option mV → mM → Prop} (hX : CX p s m args meth c 3 cX12_gotBy "FairBlocksModel" D ca ad A) (hr : meth.sig.returnType = (Option.some FieldType.int)) : ∀ lv st M, BX12_gotBy_6 (Gd p l e (rmD 5) s m args below meth c 3 D ca ad A 0 0 (MQ below (QC D ca ad A Q) args s 0 0 A)) Q lv st M → Gd p l e (rmD 5) s m args below meth c 3 D ca ad A 0 0 (MQ below (QC D ca ad A Q) args s 0 0 A) 6 lv st M :=
  (sd_iload_n hX dX12_gotBy_6 rfl (sd_aload_n hX dX12_gotBy_7 rfl (sd_geti hX fl_729 (by decide) dX12_gotBy_8 (sd_icmp_ge hX dX12_gotBy_11 (by decide) sd_at (sd_aload_n hX dX12_gotBy_14 rfl (sd_getr hX fl_740 (fun _ => rfl) (fun _ _ _ => by decide +kernel) dX12_gotBy_15 (sd_bipush hX dX12_gotBy_18 rfl (sd_iload_n hX dX12_gotBy_20 rfl (sd_imul hX dX12_gotBy_21 (sd_iconst hX dX12_gotBy_22 rfl (sd_iadd hX dX12_gotBy_23 (sd_iload_n hX dX12_gotBy_24 rfl (sd_iload_n hX dX12_gotBy_25 rfl (sd_callS hX (ct_X12_has l) mk_X12_has w_1005 ⟨⟨by decide, by decide⟩, by decide, by decide⟩ dX12_gotBy_26 (sd_if_eq hX dX12_gotBy_29 (by decide) sd_at (sd_iconst hX dX12_gotBy_32 rfl (sd_goto hX dX12_gotBy_33 (by decide) sd_at)))))))))))))))))
def BX12_gotBy_36 (G : Nat → KT) (Q : Option mV → mM → Prop) : KT := (s_iconst (1) (s_at G 37 [true, true, true]))
set_option maxRecDepth 4000 in
theorem bsX12_gotBy_36 {p : Program} {l : Launch} {e : Env} {s : State} {m : MethodId} {args : Array Value} {below : List Frame} {meth : Method} {c : Code} {D : va_G} {ca : Nat → ClassId} {ad : Nat → Nat} {A : Nat → Prop} {Q : Option mV → mM → Prop} (hX : CX p s m args meth c 3 cX12_gotBy "FairBlocksModel" D ca ad A) (hr : meth.sig.returnType = (Option.some FieldType.int)) : ∀ lv st M, BX12_gotBy_36 (Gd p l e (rmD 5) s m args below meth c 3 D ca ad A 0 0 (MQ below (QC D ca ad A Q) args s 0 0 A)) Q lv st M → Gd p l e (rmD 5) s m args below meth c 3 D ca ad A 0 0 (MQ below (QC D ca ad A Q) args s 0 0 A) 36 lv st M :=
  (sd_iconst hX dX12_gotBy_36 rfl sd_at)
def BX12_gotBy_37 (G : Nat → KT) (Q : Option mV → mM → Prop) : KT := (s_iast (s_iinc 2 (1) (s_at G 6 [true, true, true])))
set_option maxRecDepth 4000 in
theorem bsX12_gotBy_37 {p : Program} {l : Launch} {e : Env} {s : State} {m : MethodId} {args : Array Value} {below : List Frame} {meth : Method} {c : Code} {D : va_G} {ca : Nat → ClassId} {ad : Nat → Nat} {A : Nat → Prop} {Q : Option mV → mM → Prop} (hX : CX p s m args meth c 3 cX12_gotBy "FairBlocksModel" D ca ad A) (hr : meth.sig.returnType = (Option.some FieldType.int)) : ∀ lv st M, BX12_gotBy_37 (Gd p l e (rmD 5) s m args below meth c 3 D ca ad A 0 0 (MQ below (QC D ca ad A Q) args s 0 0 A)) Q lv st M → Gd p l e (rmD 5) s m args below meth c 3 D ca ad A 0 0 (MQ below (QC D ca ad A Q) args s 0 0 A) 37 lv st M :=
  (sd_iast hX dX12_gotBy_37 (sd_iinc hX (by decide) dX12_gotBy_38 rfl (sd_goto hX dX12_gotBy_41 (by decide) sd_at)))
def BX12_gotBy_44 (G : Nat → KT) (Q : Option mV → mM → Prop) : KT := (s_aload 0 (s_aload 0 (s_getr 12 13 (fun _ => 166) (s_iconst (20) (s_callV 12 2 pre_X12_slotsOn fn_X12_slotsOn (s_iret Q))))))
set_option maxRecDepth 4000 in
theorem bsX12_gotBy_44 {p : Program} {l : Launch} {e : Env} {s : State} {m : MethodId} {args : Array Value} {below : List Frame} {meth : Method} {c : Code} {D : va_G} {ca : Nat → ClassId} {ad : Nat → Nat} {A : Nat → Prop} {Q : Option mV → mM → Prop} (hX : CX p s m args meth c 3 cX12_gotBy "FairBlocksModel" D ca ad A) (hr : meth.sig.returnType = (Option.some FieldType.int)) : ∀ lv st M, BX12_gotBy_44 (Gd p l e (rmD 5) s m args below meth c 3 D ca ad A 0 0 (MQ below (QC D ca ad A Q) args s 0 0 A)) Q lv st M → Gd p l e (rmD 5) s m args below meth c 3 D ca ad A 0 0 (MQ below (QC D ca ad A Q) args s 0 0 A) 44 lv st M :=
  (sd_aload_n hX dX12_gotBy_44 rfl (sd_aload_n hX dX12_gotBy_45 rfl (sd_getr hX fl_740 (fun _ => rfl) (fun _ _ _ => by decide +kernel) dX12_gotBy_46 (sd_bipush hX dX12_gotBy_49 rfl (sd_callV hX (kd := 12) rfl (by decide) (ct_X12_slotsOn l) mk_X12_slotsOn w_878 ⟨⟨by decide, by decide⟩, by decide, by decide⟩ dX12_gotBy_51 (sd_iret hX hr dX12_gotBy_54))))))
set_option maxHeartbeats 400000 in
theorem pf_X12_gotBy (G : Nat → KT) (Q : Option mV → mM → Prop) (h0 : ∀ lv st M, BX12_gotBy_0 G Q lv st M → G 0 lv st M) (h6 : ∀ lv st M, BX12_gotBy_6 G Q lv st M → G 6 lv st M) (h36 : ∀ lv st M, BX12_gotBy_36 G Q lv st M → G 36 lv st M) (h37 : ∀ lv st M, BX12_gotBy_37 G Q lv st M → G 37 lv st M) (h44 : ∀ lv st M, BX12_gotBy_44 G Q lv st M → G 44 lv st M) (as : List mV) (M : mM) (ho : ∀ v ∈ as, okV v) (hp : pre_X12_gotBy as M) (hQ : Q (fn_X12_gotBy as M).1 (fn_X12_gotBy as M).2) : G 0 (inL as ++ List.replicate (3 - (inL as).length) none) [] M := by
  obtain ⟨c, t, rfl, hP, hG⟩ := hp
  obtain rfl : c = 158 := k12 (ho (.inr (.inr (12, c))) (by simp))
  obtain ⟨hn, en, -⟩ := nM_e hP
  simp only [fn_X12_gotBy, gb] at hQ
  have hf := gbM_f (t := t) hP hG
  have loop : ∀ (n u : Nat) (M' : mM), u + n = nM M → (TR M M' ∧ PM M' ∧ PG M' 166 1000) → itr (gbS t) u n M' = gbM M t → G 6 [some (.inr (.inr (12, 158))), some (.inl t), some (.inl (nI u))] [] M' := by
    intro n
    induction n with
    | zero =>
      intro u M' hu hT e
      (apply h6; simp only [BX12_gotBy_6, s_mth, s_mab, s_at, s_iconst, s_lconst, s_iload, s_lload, s_aload, s_istore, s_lstore, s_astore, s_iinc, s_bin, s_binG, s_un, s_lbin, s_lbinG, s_lsh, s_lcmp, s_i2l, s_l2i, s_dup, s_dup2, s_pop, s_if, s_icmp, s_geti, s_getl, s_getr, s_puti, s_putz, s_putl, s_iald, s_zald, s_iast, s_zast, s_aaldS, s_aaldU, s_gets, s_tald, s_tsw, tsw, s_iret, s_zret, s_lret, s_aret, s_vret, s_callV, s_callS, c1, nl1, keepL, csum, pushR, inL, List.getD_cons_zero, List.getD_cons_succ, List.set_cons_zero, List.set_cons_succ, List.cons_append, List.nil_append, List.append_nil, List.replicate, List.length_cons, List.length_nil, List.take_succ_cons, List.take_zero, List.drop_succ_cons, List.drop_zero, List.reverse_cons, List.reverse_nil, true_and, and_true, forall_const, not_true_eq_false, not_false_eq_true, false_implies, true_implies, implies_true, one0, m10, Nat.reduceAdd, Nat.reduceSub, Nat.reduceLeDiff, Nat.zero_add, Nat.add_zero, fn_X12_has, fn_X12_layTrial, fn_X12_slotsOn])
      rw [hT.1.1 158 (by decide) (by decide) (by decide), en]
      refine ⟨fun _ => ?_, fun h => absurd (nI_le (by omega) (by omega)) h⟩
      have e2 : M' = gbM M t := e
      rw [e2]
      (apply h44; simp only [BX12_gotBy_44, s_mth, s_mab, s_at, s_iconst, s_lconst, s_iload, s_lload, s_aload, s_istore, s_lstore, s_astore, s_iinc, s_bin, s_binG, s_un, s_lbin, s_lbinG, s_lsh, s_lcmp, s_i2l, s_l2i, s_dup, s_dup2, s_pop, s_if, s_icmp, s_geti, s_getl, s_getr, s_puti, s_putz, s_putl, s_iald, s_zald, s_iast, s_zast, s_aaldS, s_aaldU, s_gets, s_tald, s_tsw, tsw, s_iret, s_zret, s_lret, s_aret, s_vret, s_callV, s_callS, c1, nl1, keepL, csum, pushR, inL, List.getD_cons_zero, List.getD_cons_succ, List.set_cons_zero, List.set_cons_succ, List.cons_append, List.nil_append, List.append_nil, List.replicate, List.length_cons, List.length_nil, List.take_succ_cons, List.take_zero, List.drop_succ_cons, List.drop_zero, List.reverse_cons, List.reverse_nil, true_and, and_true, forall_const, not_true_eq_false, not_false_eq_true, false_implies, true_implies, implies_true, one0, m10, Nat.reduceAdd, Nat.reduceSub, Nat.reduceLeDiff, Nat.zero_add, Nat.add_zero, fn_X12_has, fn_X12_layTrial, fn_X12_slotsOn])
      exact ⟨⟨_, _, _, rfl, hf.2.1, 20, by decide, rfl, PG_le hf.2.2 (by decide)⟩, hQ⟩
    | succ n ih =>
      intro u M' hu hT e
      have hu5 : u < 5 := by omega
      have x0 : ((10 : Int32) * nI u + 0).toNatClampNeg = 10 * u + 0 := cx hu5 0 (by decide)
      have v0 : vp_in ((10 : Int32) * nI u + 0) 52 := vx hu5 0 (by decide)
      have x1 : ((10 : Int32) * nI u + 1).toNatClampNeg = 10 * u + 1 := cx hu5 1 (by decide)
      have v1 : vp_in ((10 : Int32) * nI u + 1) 52 := vx hu5 1 (by decide)
      have x2 : ((10 : Int32) * nI u + 2).toNatClampNeg = 10 * u + 2 := cx hu5 2 (by decide)
      have v2 : vp_in ((10 : Int32) * nI u + 2) 52 := vx hu5 2 (by decide)
      have x3 : ((10 : Int32) * nI u + 3).toNatClampNeg = 10 * u + 3 := cx hu5 3 (by decide)
      have v3 : vp_in ((10 : Int32) * nI u + 3) 52 := vx hu5 3 (by decide)
      have x4 : ((10 : Int32) * nI u + 4).toNatClampNeg = 10 * u + 4 := cx hu5 4 (by decide)
      have v4 : vp_in ((10 : Int32) * nI u + 4) 52 := vx hu5 4 (by decide)
      have x5 : ((10 : Int32) * nI u + 5).toNatClampNeg = 10 * u + 5 := cx hu5 5 (by decide)
      have v5 : vp_in ((10 : Int32) * nI u + 5) 52 := vx hu5 5 (by decide)
      have x6 : ((10 : Int32) * nI u + 6).toNatClampNeg = 10 * u + 6 := cx hu5 6 (by decide)
      have v6 : vp_in ((10 : Int32) * nI u + 6) 52 := vx hu5 6 (by decide)
      have x7 : ((10 : Int32) * nI u + 7).toNatClampNeg = 10 * u + 7 := cx hu5 7 (by decide)
      have v7 : vp_in ((10 : Int32) * nI u + 7) 52 := vx hu5 7 (by decide)
      have x8 : ((10 : Int32) * nI u + 8).toNatClampNeg = 10 * u + 8 := cx hu5 8 (by decide)
      have v8 : vp_in ((10 : Int32) * nI u + 8) 52 := vx hu5 8 (by decide)
      have x9 : ((10 : Int32) * nI u + 9).toNatClampNeg = 10 * u + 9 := cx hu5 9 (by decide)
      have v9 : vp_in ((10 : Int32) * nI u + 9) 52 := vx hu5 9 (by decide)
      have L37 : ∀ b, b = (if hs1 t (nI u) = 0 then 1 else 0) → G 37 [some (.inr (.inr (12, 158))), some (.inl t), some (.inl (nI u))] [.inl b, .inl (10 * nI u + 3), .inr (.inr (13, 166))] M' := by
        intro b eb
        (apply h37; simp only [BX12_gotBy_37, s_mth, s_mab, s_at, s_iconst, s_lconst, s_iload, s_lload, s_aload, s_istore, s_lstore, s_astore, s_iinc, s_bin, s_binG, s_un, s_lbin, s_lbinG, s_lsh, s_lcmp, s_i2l, s_l2i, s_dup, s_dup2, s_pop, s_if, s_icmp, s_geti, s_getl, s_getr, s_puti, s_putz, s_putl, s_iald, s_zald, s_iast, s_zast, s_aaldS, s_aaldU, s_gets, s_tald, s_tsw, tsw, s_iret, s_zret, s_lret, s_aret, s_vret, s_callV, s_callS, c1, nl1, keepL, csum, pushR, inL, List.getD_cons_zero, List.getD_cons_succ, List.set_cons_zero, List.set_cons_succ, List.cons_append, List.nil_append, List.append_nil, List.replicate, List.length_cons, List.length_nil, List.take_succ_cons, List.take_zero, List.drop_succ_cons, List.drop_zero, List.reverse_cons, List.reverse_nil, true_and, and_true, forall_const, not_true_eq_false, not_false_eq_true, false_implies, true_implies, implies_true, one0, m10, Nat.reduceAdd, Nat.reduceSub, Nat.reduceLeDiff, Nat.zero_add, Nat.add_zero, fn_X12_has, fn_X12_layTrial, fn_X12_slotsOn])
        simp only [lM, x3]
        refine ⟨v3, ?_⟩
        rw [nI_1, eb]
        exact ih (u + 1) _ (by omega) (gbS_f hu5 hT) e
      (apply h6; simp only [BX12_gotBy_6, s_mth, s_mab, s_at, s_iconst, s_lconst, s_iload, s_lload, s_aload, s_istore, s_lstore, s_astore, s_iinc, s_bin, s_binG, s_un, s_lbin, s_lbinG, s_lsh, s_lcmp, s_i2l, s_l2i, s_dup, s_dup2, s_pop, s_if, s_icmp, s_geti, s_getl, s_getr, s_puti, s_putz, s_putl, s_iald, s_zald, s_iast, s_zast, s_aaldS, s_aaldU, s_gets, s_tald, s_tsw, tsw, s_iret, s_zret, s_lret, s_aret, s_vret, s_callV, s_callS, c1, nl1, keepL, csum, pushR, inL, List.getD_cons_zero, List.getD_cons_succ, List.set_cons_zero, List.set_cons_succ, List.cons_append, List.nil_append, List.append_nil, List.replicate, List.length_cons, List.length_nil, List.take_succ_cons, List.take_zero, List.drop_succ_cons, List.drop_zero, List.reverse_cons, List.reverse_nil, true_and, and_true, forall_const, not_true_eq_false, not_false_eq_true, false_implies, true_implies, implies_true, one0, m10, Nat.reduceAdd, Nat.reduceSub, Nat.reduceLeDiff, Nat.zero_add, Nat.add_zero, fn_X12_has, fn_X12_layTrial, fn_X12_slotsOn])
      rw [hT.1.1 158 (by decide) (by decide) (by decide), en]
      refine ⟨fun h => absurd h (nI_ge (by omega) (by omega)), fun _ => ⟨⟨_, _, rfl⟩, fun g => ?_, fun g => ?_⟩⟩
      · (apply h36; simp only [BX12_gotBy_36, s_mth, s_mab, s_at, s_iconst, s_lconst, s_iload, s_lload, s_aload, s_istore, s_lstore, s_astore, s_iinc, s_bin, s_binG, s_un, s_lbin, s_lbinG, s_lsh, s_lcmp, s_i2l, s_l2i, s_dup, s_dup2, s_pop, s_if, s_icmp, s_geti, s_getl, s_getr, s_puti, s_putz, s_putl, s_iald, s_zald, s_iast, s_zast, s_aaldS, s_aaldU, s_gets, s_tald, s_tsw, tsw, s_iret, s_zret, s_lret, s_aret, s_vret, s_callV, s_callS, c1, nl1, keepL, csum, pushR, inL, List.getD_cons_zero, List.getD_cons_succ, List.set_cons_zero, List.set_cons_succ, List.cons_append, List.nil_append, List.append_nil, List.replicate, List.length_cons, List.length_nil, List.take_succ_cons, List.take_zero, List.drop_succ_cons, List.drop_zero, List.reverse_cons, List.reverse_nil, true_and, and_true, forall_const, not_true_eq_false, not_false_eq_true, false_implies, true_implies, implies_true, one0, m10, Nat.reduceAdd, Nat.reduceSub, Nat.reduceLeDiff, Nat.zero_add, Nat.add_zero, fn_X12_has, fn_X12_layTrial, fn_X12_slotsOn])
        exact L37 1 (by rw [if_pos g])
      · exact L37 0 (by rw [if_neg g])
  (apply h0; simp only [BX12_gotBy_0, s_mth, s_mab, s_at, s_iconst, s_lconst, s_iload, s_lload, s_aload, s_istore, s_lstore, s_astore, s_iinc, s_bin, s_binG, s_un, s_lbin, s_lbinG, s_lsh, s_lcmp, s_i2l, s_l2i, s_dup, s_dup2, s_pop, s_if, s_icmp, s_geti, s_getl, s_getr, s_puti, s_putz, s_putl, s_iald, s_zald, s_iast, s_zast, s_aaldS, s_aaldU, s_gets, s_tald, s_tsw, tsw, s_iret, s_zret, s_lret, s_aret, s_vret, s_callV, s_callS, c1, nl1, keepL, csum, pushR, inL, List.getD_cons_zero, List.getD_cons_succ, List.set_cons_zero, List.set_cons_succ, List.cons_append, List.nil_append, List.append_nil, List.replicate, List.length_cons, List.length_nil, List.take_succ_cons, List.take_zero, List.drop_succ_cons, List.drop_zero, List.reverse_cons, List.reverse_nil, true_and, and_true, forall_const, not_true_eq_false, not_false_eq_true, false_implies, true_implies, implies_true, one0, m10, Nat.reduceAdd, Nat.reduceSub, Nat.reduceLeDiff, Nat.zero_add, Nat.add_zero, fn_X12_has, fn_X12_layTrial, fn_X12_slotsOn])
  exact ⟨⟨_, rfl⟩, loop (nM M) 0 (lay M) (by omega) ⟨TR_lay, PM_lay hP, PG_lay hG⟩ rfl⟩
theorem ct_X12_gotBy (l : Launch) : Con l yX12_gotBy cX12_gotBy 3 (Option.some FieldType.int) 5 pre_X12_gotBy fn_X12_gotBy := con_of (by decide +kernel) ok_X12_gotBy len_X12_gotBy (fun p e s m args below meth c D ca ad A as M hX hr hp ho => pf_X12_gotBy _ _ (bsX12_gotBy_0 hX hr) (bsX12_gotBy_6 hX hr) (bsX12_gotBy_36 hX hr) (bsX12_gotBy_37 hX hr) (bsX12_gotBy_44 hX hr) as M ho hp ⟨rfl, rfl⟩)
def pc (n : Nat) : Nat := n % 2 + n / 2 % 2 + n / 4 % 2 + n / 8 % 2 + n / 16 % 2 + n / 32 % 2
theorem on_k : ∀ s, s < 64 → on1 (nI s) = nI (pc s) := by decide +kernel
theorem hs_k : ∀ s, s < 64 → ∀ u, u < 6 → (hs1 (nI s) (nI u) = 0 ↔ s.testBit u = false) := by decide +kernel
theorem and_k : ∀ s, s < 32 → ∀ o, o < 32 → (nI s &&& nI o = 0 ↔ s &&& o = 0) := by decide +kernel
def shB (n o s u : Nat) : Bool := !(s &&& o == 0) || s.testBit u || o.testBit u || Nat.ble (pc o + pc s + 1) n
theorem sh_b : (List.range 6).all (fun n => (List.range (2 ^ n)).all fun o => (List.range (2 ^ n)).all fun s => (List.range n).all fun u => shB n o s u) = true := by decide +kernel
theorem sh_k (n : Nat) (hn : n ≤ 5) (o : Nat) (ho : o < 2 ^ n) (s : Nat) (hs : s < 2 ^ n) (u : Nat) (hu : u < n) (h1 : s &&& o = 0) (h2 : s.testBit u = false) (h3 : o.testBit u = false) : pc o + pc s + 1 ≤ n := by
  have h := List.all_eq_true.mp (List.all_eq_true.mp (List.all_eq_true.mp (List.all_eq_true.mp sh_b n (List.mem_range.mpr (by omega))) o (List.mem_range.mpr ho)) s (List.mem_range.mpr hs)) u (List.mem_range.mpr hu)
  unfold shB at h
  rw [h1, h2, h3] at h
  exact Nat.le_of_ble_eq_true (by simpa using h)
theorem pc_k : ∀ n, n ≤ 5 → ∀ o, o < 2 ^ n → pc o ≤ n := by decide +kernel
theorem pw2_k : ∀ n, n ≤ 5 → 2 ^ n ≤ 32 := by decide
theorem of_k : ∀ i, i < 5 → ∀ o, o < 2 ^ i → (nI o ||| ((0 : Int32) <<< (nI i &&& 31)) = nI o) ∧ (nI o ||| ((1 : Int32) <<< (nI i &&& 31)) = nI (o + 2 ^ i)) := by decide +kernel
theorem of_v {M : mM} (h : ∀ u, u < nM M → M.1 165 (10 * u + 3) = 0 ∨ M.1 165 (10 * u + 3) = 1) : ∀ (n i : Nat) (o : Nat), i + n ≤ nM M → i + n ≤ 5 → o < 2 ^ i → ∃ o', o' < 2 ^ (i + n) ∧ itr (ofS M) i n (nI o) = nI o'
  | 0, i, o, _, _, ho => ⟨o, ho, rfl⟩
  | n + 1, i, o, h1, h5, ho => by
    have hk := of_k i (by omega) o ho
    have hp : 2 ^ (i + 1) = 2 * 2 ^ i := by rw [Nat.pow_succ, Nat.mul_comm]
    have g := of_v h n (i + 1)
    rw [show i + (n + 1) = i + 1 + n by omega] at *
    show ∃ o', o' < 2 ^ (i + 1 + n) ∧ itr (ofS M) (i + 1) n (ofS M i (nI o)) = nI o'
    unfold ofS
    rcases h i (by omega) with e | e
    · rw [e, hk.1]; exact g o h1 h5 (by omega)
    · rw [e, hk.2]; exact g _ h1 h5 (by omega)
theorem of_nI {M : mM} (hP : PM M) (h : ∀ u, u < nM M → M.1 165 (10 * u + 3) = 0 ∨ M.1 165 (10 * u + 3) = 1) : ∃ o, o < 2 ^ nM M ∧ ofM M = nI o := by
  have hn := (nM_e hP).1
  have := of_v h (nM M) 0 0 (by omega) (by omega) (by decide)
  rw [Nat.zero_add] at this
  exact this
def smF (mn : Int32) (s : Nat) : Int32 := fcM (on1 (nI s)).toNatClampNeg * fcM (mn - 1 - on1 (nI s)).toNatClampNeg
def smA (u : Int32) (s : Nat) (M : mM) : Int32 × mM := gb M (nI s ||| ((1 : Int32) <<< (u &&& 31)))
def smB (s : Nat) (M : mM) : Int32 × mM := gb M (nI s)
def smS (off u mn : Int32) (s : Nat) (q : Int32 × mM) : Int32 × mM := if nI s &&& off = 0 then (if hs1 (nI s) u = 0 then (q.1 + smF mn s * ((smA u s q.2).1 - (smB s (smA u s q.2).2).1), (smB s (smA u s q.2).2).2) else q) else q
def mnM (M : mM) : Int32 := M.1 158 6 - on1 (ofM M)
def smM (M : mM) (u : Int32) : Int32 × mM := itr (smS (ofM M) u (mnM M)) 0 (2 ^ nM M) (0, M)
def m_share (M : mM) (u w : Int32) : Int32 × mM := if nu M u = 0 then (if hs1 (ofM M) u = 0 then (frM (smM M u).1 (fcM (mnM M).toNatClampNeg) w, (smM M u).2) else (-3, M)) else (-1, M)
theorem fc_k : ∀ k, k ≤ 5 → ¬ fcM k = 0 := by decide +kernel
def pre_X12_share (as : List mV) (M : mM) : Prop := ∃ c u w, as = [.inr (.inr (12, c)), .inl u, .inl w] ∧ MI M
def fn_X12_share : List mV → mM → Option mV × mM
  | [.inr (.inr (_, c)), .inl u, .inl w], M => (some (.inl (m_share (m0 M) u w).1), (m_share (m0 M) u w).2)
  | _, M => (none, M)
theorem ok_X12_share (as : List mV) (M : mM) (h : pre_X12_share as M) (_ : ∀ v ∈ as, okV v) : okR (fn_X12_share as M).1 := by
  obtain ⟨c, u, w, rfl, -⟩ := h
  first | trivial | exact (by decide +kernel : kof 14 = 8)
theorem len_X12_share (as : List mV) (M : mM) (h : pre_X12_share as M) : (inL as).length ≤ 8 := by
  obtain ⟨c, u, w, rfl, -⟩ := h
  exact Nat.le_of_ble_eq_true rfl


theorem dX12_share_0 : decode cX12_share 0 = .ok (.aload_n 0, 1) := by decide +kernel
theorem dX12_share_1 : decode cX12_share 1 = .ok (.iconst 0, 1) := by decide +kernel
theorem dX12_share_2 : decode cX12_share 2 = .ok (.putfield 1, 3) := by decide +kernel
theorem dX12_share_5 : decode cX12_share 5 = .ok (.aload_n 0, 1) := by decide +kernel
theorem dX12_share_6 : decode cX12_share 6 = .ok (.iload_n 1, 1) := by decide +kernel
theorem dX12_share_7 : decode cX12_share 7 = .ok (.invokevirtual 156, 3) := by decide +kernel
theorem dX12_share_10 : decode cX12_share 10 = .ok (.ifCond .eq 5, 3) := by decide +kernel
theorem dX12_share_13 : decode cX12_share 13 = .ok (.iconst (-1), 1) := by decide +kernel
theorem dX12_share_14 : decode cX12_share 14 = .ok (.ireturn, 1) := by decide +kernel
theorem dX12_share_15 : decode cX12_share 15 = .ok (.aload_n 0, 1) := by decide +kernel
theorem dX12_share_16 : decode cX12_share 16 = .ok (.invokevirtual 210, 3) := by decide +kernel
theorem dX12_share_19 : decode cX12_share 19 = .ok (.istore_n 3, 1) := by decide +kernel
theorem dX12_share_20 : decode cX12_share 20 = .ok (.iload_n 3, 1) := by decide +kernel
theorem dX12_share_21 : decode cX12_share 21 = .ok (.iload_n 1, 1) := by decide +kernel
theorem dX12_share_22 : decode cX12_share 22 = .ok (.invokestatic 207, 3) := by decide +kernel
theorem dX12_share_25 : decode cX12_share 25 = .ok (.ifCond .eq 6, 3) := by decide +kernel
theorem dX12_share_28 : decode cX12_share 28 = .ok (.bipush (-3), 2) := by decide +kernel
theorem dX12_share_30 : decode cX12_share 30 = .ok (.ireturn, 1) := by decide +kernel
theorem dX12_share_31 : decode cX12_share 31 = .ok (.aload_n 0, 1) := by decide +kernel
theorem dX12_share_32 : decode cX12_share 32 = .ok (.getfield 14, 3) := by decide +kernel
theorem dX12_share_35 : decode cX12_share 35 = .ok (.iload_n 3, 1) := by decide +kernel
theorem dX12_share_36 : decode cX12_share 36 = .ok (.invokestatic 213, 3) := by decide +kernel
theorem dX12_share_39 : decode cX12_share 39 = .ok (.isub, 1) := by decide +kernel
theorem dX12_share_40 : decode cX12_share 40 = .ok (.istore 4, 2) := by decide +kernel
theorem dX12_share_42 : decode cX12_share 42 = .ok (.iconst 0, 1) := by decide +kernel
theorem dX12_share_43 : decode cX12_share 43 = .ok (.istore 5, 2) := by decide +kernel
theorem dX12_share_45 : decode cX12_share 45 = .ok (.iconst 0, 1) := by decide +kernel
theorem dX12_share_46 : decode cX12_share 46 = .ok (.istore 6, 2) := by decide +kernel
theorem dX12_share_48 : decode cX12_share 48 = .ok (.iload 6, 2) := by decide +kernel
theorem dX12_share_50 : decode cX12_share 50 = .ok (.iconst 1, 1) := by decide +kernel
theorem dX12_share_51 : decode cX12_share 51 = .ok (.aload_n 0, 1) := by decide +kernel
theorem dX12_share_52 : decode cX12_share 52 = .ok (.getfield 14, 3) := by decide +kernel
theorem dX12_share_55 : decode cX12_share 55 = .ok (.ishl, 1) := by decide +kernel
theorem dX12_share_56 : decode cX12_share 56 = .ok (.if_icmp .ge 71, 3) := by decide +kernel
theorem dX12_share_59 : decode cX12_share 59 = .ok (.iload 6, 2) := by decide +kernel
theorem dX12_share_61 : decode cX12_share 61 = .ok (.iload_n 3, 1) := by decide +kernel
theorem dX12_share_62 : decode cX12_share 62 = .ok (.iand, 1) := by decide +kernel
theorem dX12_share_63 : decode cX12_share 63 = .ok (.ifCond .ne 58, 3) := by decide +kernel
theorem dX12_share_66 : decode cX12_share 66 = .ok (.iload 6, 2) := by decide +kernel
theorem dX12_share_68 : decode cX12_share 68 = .ok (.iload_n 1, 1) := by decide +kernel
theorem dX12_share_69 : decode cX12_share 69 = .ok (.invokestatic 207, 3) := by decide +kernel
theorem dX12_share_72 : decode cX12_share 72 = .ok (.ifCond .ne 49, 3) := by decide +kernel
theorem dX12_share_75 : decode cX12_share 75 = .ok (.iload 6, 2) := by decide +kernel
theorem dX12_share_77 : decode cX12_share 77 = .ok (.invokestatic 213, 3) := by decide +kernel
theorem dX12_share_80 : decode cX12_share 80 = .ok (.istore 7, 2) := by decide +kernel
theorem dX12_share_82 : decode cX12_share 82 = .ok (.iload 5, 2) := by decide +kernel
theorem dX12_share_84 : decode cX12_share 84 = .ok (.iload 7, 2) := by decide +kernel
theorem dX12_share_86 : decode cX12_share 86 = .ok (.invokestatic 216, 3) := by decide +kernel
theorem dX12_share_89 : decode cX12_share 89 = .ok (.iload 4, 2) := by decide +kernel
theorem dX12_share_91 : decode cX12_share 91 = .ok (.iconst 1, 1) := by decide +kernel
theorem dX12_share_92 : decode cX12_share 92 = .ok (.isub, 1) := by decide +kernel
theorem dX12_share_93 : decode cX12_share 93 = .ok (.iload 7, 2) := by decide +kernel
theorem dX12_share_95 : decode cX12_share 95 = .ok (.isub, 1) := by decide +kernel
theorem dX12_share_96 : decode cX12_share 96 = .ok (.invokestatic 216, 3) := by decide +kernel
theorem dX12_share_99 : decode cX12_share 99 = .ok (.imul, 1) := by decide +kernel
theorem dX12_share_100 : decode cX12_share 100 = .ok (.aload_n 0, 1) := by decide +kernel
theorem dX12_share_101 : decode cX12_share 101 = .ok (.iload 6, 2) := by decide +kernel
theorem dX12_share_103 : decode cX12_share 103 = .ok (.iconst 1, 1) := by decide +kernel
theorem dX12_share_104 : decode cX12_share 104 = .ok (.iload_n 1, 1) := by decide +kernel
theorem dX12_share_105 : decode cX12_share 105 = .ok (.ishl, 1) := by decide +kernel
theorem dX12_share_106 : decode cX12_share 106 = .ok (.ior, 1) := by decide +kernel
theorem dX12_share_107 : decode cX12_share 107 = .ok (.invokevirtual 219, 3) := by decide +kernel
theorem dX12_share_110 : decode cX12_share 110 = .ok (.aload_n 0, 1) := by decide +kernel
theorem dX12_share_111 : decode cX12_share 111 = .ok (.iload 6, 2) := by decide +kernel
theorem dX12_share_113 : decode cX12_share 113 = .ok (.invokevirtual 219, 3) := by decide +kernel
theorem dX12_share_116 : decode cX12_share 116 = .ok (.isub, 1) := by decide +kernel
theorem dX12_share_117 : decode cX12_share 117 = .ok (.imul, 1) := by decide +kernel
theorem dX12_share_118 : decode cX12_share 118 = .ok (.iadd, 1) := by decide +kernel
theorem dX12_share_119 : decode cX12_share 119 = .ok (.istore 5, 2) := by decide +kernel
theorem dX12_share_121 : decode cX12_share 121 = .ok (.iinc 6 1, 3) := by decide +kernel
theorem dX12_share_124 : decode cX12_share 124 = .ok (.goto (-76), 3) := by decide +kernel
theorem dX12_share_127 : decode cX12_share 127 = .ok (.iload 5, 2) := by decide +kernel
theorem dX12_share_129 : decode cX12_share 129 = .ok (.iload 4, 2) := by decide +kernel
theorem dX12_share_131 : decode cX12_share 131 = .ok (.invokestatic 216, 3) := by decide +kernel
theorem dX12_share_134 : decode cX12_share 134 = .ok (.iload_n 2, 1) := by decide +kernel
theorem dX12_share_135 : decode cX12_share 135 = .ok (.invokestatic 222, 3) := by decide +kernel
theorem dX12_share_138 : decode cX12_share 138 = .ok (.ireturn, 1) := by decide +kernel
theorem mk_X12_share : MVk yX12_share "FairBlocksModel" cX12_share 8 (Option.some FieldType.int) 2 := ⟨w_1000, w_998, w_999, w_13, rfl, by decide +kernel, by decide +kernel, by decide +kernel⟩
def BX12_share_0 (G : Nat → KT) (Q : Option mV → mM → Prop) : KT := (s_aload 0 (s_iconst (0) (s_puti 12 0 (s_aload 0 (s_iload 1 (s_callV 12 1 pre_X12_noUser fn_X12_noUser (s_if (fun x => x = 0) (s_at G 15 [true, true, true, false, false, false, false, false]) (s_iconst (-1) (s_iret Q)))))))))
set_option maxRecDepth 4000 in
theorem bsX12_share_0 {p : Program} {l : Launch} {e : Env} {s : State} {m : MethodId} {args : Array Value} {below : List Frame} {meth : Method} {c : Code} {D : va_G} {ca : Nat → ClassId} {ad : Nat → Nat} {A : Nat → Prop} {Q : Option mV → mM → Prop} (hX : CX p s m args meth c 8 cX12_share "FairBlocksModel" D ca ad A) (hr : meth.sig.returnType = (Option.some FieldType.int)) : ∀ lv st M, BX12_share_0 (Gd p l e (rmD 6) s m args below meth c 8 D ca ad A 0 0 (MQ below (QC D ca ad A Q) args s 0 0 A)) Q lv st M → Gd p l e (rmD 6) s m args below meth c 8 D ca ad A 0 0 (MQ below (QC D ca ad A Q) args s 0 0 A) 0 lv st M :=
  (sd_aload_n hX dX12_share_0 rfl (sd_iconst hX dX12_share_1 rfl (sd_puti hX fp_723 dX12_share_2 (sd_aload_n hX dX12_share_5 rfl (sd_iload_n hX dX12_share_6 rfl (sd_callV hX (kd := 12) rfl (by decide) (ct_X12_noUser l) mk_X12_noUser w_860 ⟨⟨by decide, by decide⟩, by decide, by decide⟩ dX12_share_7 (sd_if_eq hX dX12_share_10 (by decide) sd_at (sd_iconst hX dX12_share_13 rfl (sd_iret hX hr dX12_share_14)))))))))
def BX12_share_15 (G : Nat → KT) (Q : Option mV → mM → Prop) : KT := (s_aload 0 (s_callV 12 0 pre_X12_offOnes fn_X12_offOnes (s_istore 3 (s_iload 3 (s_iload 1 (s_callS 2 pre_X12_has fn_X12_has (s_if (fun x => x = 0) (s_at G 31 [true, true, true, true, false, false, false, false]) (s_iconst (-3) (s_iret Q)))))))))
set_option maxRecDepth 4000 in
theorem bsX12_share_15 {p : Program} {l : Launch} {e : Env} {s : State} {m : MethodId} {args : Array Value} {below : List Frame} {meth : Method} {c : Code} {D : va_G} {ca : Nat → ClassId} {ad : Nat → Nat} {A : Nat → Prop} {Q : Option mV → mM → Prop} (hX : CX p s m args meth c 8 cX12_share "FairBlocksModel" D ca ad A) (hr : meth.sig.returnType = (Option.some FieldType.int)) : ∀ lv st M, BX12_share_15 (Gd p l e (rmD 6) s m args below meth c 8 D ca ad A 0 0 (MQ below (QC D ca ad A Q) args s 0 0 A)) Q lv st M → Gd p l e (rmD 6) s m args below meth c 8 D ca ad A 0 0 (MQ below (QC D ca ad A Q) args s 0 0 A) 15 lv st M :=
  (sd_aload_n hX dX12_share_15 rfl (sd_callV hX (kd := 12) rfl (by decide) (ct_X12_offOnes l) mk_X12_offOnes w_1001 ⟨⟨by decide, by decide⟩, by decide, by decide⟩ dX12_share_16 (sd_istore_n hX (by decide) dX12_share_19 rfl (sd_iload_n hX dX12_share_20 rfl (sd_iload_n hX dX12_share_21 rfl (sd_callS hX (ct_X12_has l) mk_X12_has w_1005 ⟨⟨by decide, by decide⟩, by decide, by decide⟩ dX12_share_22 (sd_if_eq hX dX12_share_25 (by decide) sd_at (sd_bipush hX dX12_share_28 rfl (sd_iret hX hr dX12_share_30)))))))))
def BX12_share_31 (G : Nat → KT) (Q : Option mV → mM → Prop) : KT := (s_aload 0 (s_geti 12 6 (s_iload 3 (s_callS 1 pre_X12_ones fn_X12_ones (s_bin (fun x y => x - y) (s_istore 4 (s_iconst (0) (s_istore 5 (s_iconst (0) (s_istore 6 (s_at G 48 [true, true, true, true, true, true, true, false])))))))))))
set_option maxRecDepth 4000 in
theorem bsX12_share_31 {p : Program} {l : Launch} {e : Env} {s : State} {m : MethodId} {args : Array Value} {below : List Frame} {meth : Method} {c : Code} {D : va_G} {ca : Nat → ClassId} {ad : Nat → Nat} {A : Nat → Prop} {Q : Option mV → mM → Prop} (hX : CX p s m args meth c 8 cX12_share "FairBlocksModel" D ca ad A) (hr : meth.sig.returnType = (Option.some FieldType.int)) : ∀ lv st M, BX12_share_31 (Gd p l e (rmD 6) s m args below meth c 8 D ca ad A 0 0 (MQ below (QC D ca ad A Q) args s 0 0 A)) Q lv st M → Gd p l e (rmD 6) s m args below meth c 8 D ca ad A 0 0 (MQ below (QC D ca ad A Q) args s 0 0 A) 31 lv st M :=
  (sd_aload_n hX dX12_share_31 rfl (sd_geti hX fl_729 (by decide) dX12_share_32 (sd_iload_n hX dX12_share_35 rfl (sd_callS hX (ct_X12_ones l) mk_X12_ones w_1008 ⟨⟨by decide, by decide⟩, by decide, by decide⟩ dX12_share_36 (sd_isub hX dX12_share_39 (sd_istore hX (by decide) dX12_share_40 (sd_iconst hX dX12_share_42 rfl (sd_istore hX (by decide) dX12_share_43 (sd_iconst hX dX12_share_45 rfl (sd_istore hX (by decide) dX12_share_46 sd_at))))))))))
def BX12_share_48 (G : Nat → KT) (Q : Option mV → mM → Prop) : KT := (s_iload 6 (s_iconst (1) (s_aload 0 (s_geti 12 6 (s_bin (fun x y => x <<< (y &&& 31)) (s_icmp (fun x y => y ≤ x) (s_at G 127 [false, false, true, false, true, true, false, false]) (s_iload 6 (s_iload 3 (s_bin (fun x y => x &&& y) (s_if (fun x => x = 0) ((s_iload 6 (s_iload 1 (s_callS 2 pre_X12_has fn_X12_has (s_if (fun x => x = 0) ((s_iload 6 (s_callS 1 pre_X12_ones fn_X12_ones (s_istore 7 (s_iload 5 (s_iload 7 (s_callS 1 pre_X12_factorial fn_X12_factorial (s_iload 4 (s_iconst (1) (s_bin (fun x y => x - y) (s_iload 7 (s_bin (fun x y => x - y) (s_callS 1 pre_X12_factorial fn_X12_factorial (s_bin (fun x y => x * y) (s_aload 0 (s_iload 6 (s_iconst (1) (s_iload 1 (s_bin (fun x y => x <<< (y &&& 31)) (s_bin (fun x y => x ||| y) (s_callV 12 1 pre_X12_gotBy fn_X12_gotBy (s_aload 0 (s_iload 6 (s_callV 12 1 pre_X12_gotBy fn_X12_gotBy (s_bin (fun x y => x - y) (s_bin (fun x y => x * y) (s_bin (fun x y => x + y) (s_istore 5 (s_at G 121 [true, true, true, true, true, true, true, false]))))))))))))))))))))))))))))) (s_at G 121 [true, true, true, true, true, true, true, false])))))) (s_at G 121 [true, true, true, true, true, true, true, false])))))))))))
set_option maxRecDepth 4000 in
theorem bsX12_share_48 {p : Program} {l : Launch} {e : Env} {s : State} {m : MethodId} {args : Array Value} {below : List Frame} {meth : Method} {c : Code} {D : va_G} {ca : Nat → ClassId} {ad : Nat → Nat} {A : Nat → Prop} {Q : Option mV → mM → Prop} (hX : CX p s m args meth c 8 cX12_share "FairBlocksModel" D ca ad A) (hr : meth.sig.returnType = (Option.some FieldType.int)) : ∀ lv st M, BX12_share_48 (Gd p l e (rmD 6) s m args below meth c 8 D ca ad A 0 0 (MQ below (QC D ca ad A Q) args s 0 0 A)) Q lv st M → Gd p l e (rmD 6) s m args below meth c 8 D ca ad A 0 0 (MQ below (QC D ca ad A Q) args s 0 0 A) 48 lv st M :=
  (sd_iload hX dX12_share_48 (sd_iconst hX dX12_share_50 rfl (sd_aload_n hX dX12_share_51 rfl (sd_geti hX fl_729 (by decide) dX12_share_52 (sd_ishl hX dX12_share_55 (sd_icmp_ge hX dX12_share_56 (by decide) sd_at (sd_iload hX dX12_share_59 (sd_iload_n hX dX12_share_61 rfl (sd_iand hX dX12_share_62 (sd_if_ne hX dX12_share_63 (by decide) sd_at (sd_iload hX dX12_share_66 (sd_iload_n hX dX12_share_68 rfl (sd_callS hX (ct_X12_has l) mk_X12_has w_1005 ⟨⟨by decide, by decide⟩, by decide, by decide⟩ dX12_share_69 (sd_if_ne hX dX12_share_72 (by decide) sd_at (sd_iload hX dX12_share_75 (sd_callS hX (ct_X12_ones l) mk_X12_ones w_1008 ⟨⟨by decide, by decide⟩, by decide, by decide⟩ dX12_share_77 (sd_istore hX (by decide) dX12_share_80 (sd_iload hX dX12_share_82 (sd_iload hX dX12_share_84 (sd_callS hX (ct_X12_factorial l) mk_X12_factorial w_1011 ⟨⟨by decide, by decide⟩, by decide, by decide⟩ dX12_share_86 (sd_iload hX dX12_share_89 (sd_iconst hX dX12_share_91 rfl (sd_isub hX dX12_share_92 (sd_iload hX dX12_share_93 (sd_isub hX dX12_share_95 (sd_callS hX (ct_X12_factorial l) mk_X12_factorial w_1011 ⟨⟨by decide, by decide⟩, by decide, by decide⟩ dX12_share_96 (sd_imul hX dX12_share_99 (sd_aload_n hX dX12_share_100 rfl (sd_iload hX dX12_share_101 (sd_iconst hX dX12_share_103 rfl (sd_iload_n hX dX12_share_104 rfl (sd_ishl hX dX12_share_105 (sd_ior hX dX12_share_106 (sd_callV hX (kd := 12) rfl (by decide) (ct_X12_gotBy l) mk_X12_gotBy w_1014 ⟨⟨by decide, by decide⟩, by decide, by decide⟩ dX12_share_107 (sd_aload_n hX dX12_share_110 rfl (sd_iload hX dX12_share_111 (sd_callV hX (kd := 12) rfl (by decide) (ct_X12_gotBy l) mk_X12_gotBy w_1014 ⟨⟨by decide, by decide⟩, by decide, by decide⟩ dX12_share_113 (sd_isub hX dX12_share_116 (sd_imul hX dX12_share_117 (sd_iadd hX dX12_share_118 (sd_istore hX (by decide) dX12_share_119 sd_at)))))))))))))))))))))))))))))))))))))))))
def BX12_share_121 (G : Nat → KT) (Q : Option mV → mM → Prop) : KT := (s_iinc 6 (1) (s_at G 48 [true, true, true, true, true, true, true, false]))
set_option maxRecDepth 4000 in
theorem bsX12_share_121 {p : Program} {l : Launch} {e : Env} {s : State} {m : MethodId} {args : Array Value} {below : List Frame} {meth : Method} {c : Code} {D : va_G} {ca : Nat → ClassId} {ad : Nat → Nat} {A : Nat → Prop} {Q : Option mV → mM → Prop} (hX : CX p s m args meth c 8 cX12_share "FairBlocksModel" D ca ad A) (hr : meth.sig.returnType = (Option.some FieldType.int)) : ∀ lv st M, BX12_share_121 (Gd p l e (rmD 6) s m args below meth c 8 D ca ad A 0 0 (MQ below (QC D ca ad A Q) args s 0 0 A)) Q lv st M → Gd p l e (rmD 6) s m args below meth c 8 D ca ad A 0 0 (MQ below (QC D ca ad A Q) args s 0 0 A) 121 lv st M :=
  (sd_iinc hX (by decide) dX12_share_121 rfl (sd_goto hX dX12_share_124 (by decide) sd_at))
def BX12_share_127 (G : Nat → KT) (Q : Option mV → mM → Prop) : KT := (s_iload 5 (s_iload 4 (s_callS 1 pre_X12_factorial fn_X12_factorial (s_iload 2 (s_callS 3 pre_X12_fraction fn_X12_fraction (s_iret Q))))))
set_option maxRecDepth 4000 in
theorem bsX12_share_127 {p : Program} {l : Launch} {e : Env} {s : State} {m : MethodId} {args : Array Value} {below : List Frame} {meth : Method} {c : Code} {D : va_G} {ca : Nat → ClassId} {ad : Nat → Nat} {A : Nat → Prop} {Q : Option mV → mM → Prop} (hX : CX p s m args meth c 8 cX12_share "FairBlocksModel" D ca ad A) (hr : meth.sig.returnType = (Option.some FieldType.int)) : ∀ lv st M, BX12_share_127 (Gd p l e (rmD 6) s m args below meth c 8 D ca ad A 0 0 (MQ below (QC D ca ad A Q) args s 0 0 A)) Q lv st M → Gd p l e (rmD 6) s m args below meth c 8 D ca ad A 0 0 (MQ below (QC D ca ad A Q) args s 0 0 A) 127 lv st M :=
  (sd_iload hX dX12_share_127 (sd_iload hX dX12_share_129 (sd_callS hX (ct_X12_factorial l) mk_X12_factorial w_1011 ⟨⟨by decide, by decide⟩, by decide, by decide⟩ dX12_share_131 (sd_iload_n hX dX12_share_134 rfl (sd_callS hX (ct_X12_fraction l) mk_X12_fraction w_1018 ⟨⟨by decide, by decide⟩, by decide, by decide⟩ dX12_share_135 (sd_iret hX hr dX12_share_138))))))
set_option maxHeartbeats 400000 in
theorem pf_X12_share (G : Nat → KT) (Q : Option mV → mM → Prop) (h0 : ∀ lv st M, BX12_share_0 G Q lv st M → G 0 lv st M) (h15 : ∀ lv st M, BX12_share_15 G Q lv st M → G 15 lv st M) (h31 : ∀ lv st M, BX12_share_31 G Q lv st M → G 31 lv st M) (h48 : ∀ lv st M, BX12_share_48 G Q lv st M → G 48 lv st M) (h121 : ∀ lv st M, BX12_share_121 G Q lv st M → G 121 lv st M) (h127 : ∀ lv st M, BX12_share_127 G Q lv st M → G 127 lv st M) (as : List mV) (M : mM) (ho : ∀ v ∈ as, okV v) (hp : pre_X12_share as M) (hQ : Q (fn_X12_share as M).1 (fn_X12_share as M).2) : G 0 (inL as ++ List.replicate (8 - (inL as).length) none) [] M := by
  obtain ⟨c, u, w, rfl, hM⟩ := hp
  obtain rfl : c = 158 := k12 (ho (.inr (.inr (12, c))) (by simp))
  have hI := MI_0 hM
  simp only [fn_X12_share, m_share] at hQ
  (apply h0; simp only [BX12_share_0, s_mth, s_mab, s_at, s_iconst, s_lconst, s_iload, s_lload, s_aload, s_istore, s_lstore, s_astore, s_iinc, s_bin, s_binG, s_un, s_lbin, s_lbinG, s_lsh, s_lcmp, s_i2l, s_l2i, s_dup, s_dup2, s_pop, s_if, s_icmp, s_geti, s_getl, s_getr, s_puti, s_putz, s_putl, s_iald, s_zald, s_iast, s_zast, s_aaldS, s_aaldU, s_gets, s_tald, s_tsw, tsw, s_iret, s_zret, s_lret, s_aret, s_vret, s_callV, s_callS, c1, nl1, keepL, csum, pushR, inL, List.getD_cons_zero, List.getD_cons_succ, List.set_cons_zero, List.set_cons_succ, List.cons_append, List.nil_append, List.append_nil, List.replicate, List.length_cons, List.length_nil, List.take_succ_cons, List.take_zero, List.drop_succ_cons, List.drop_zero, List.reverse_cons, List.reverse_nil, true_and, and_true, forall_const, not_true_eq_false, not_false_eq_true, false_implies, true_implies, implies_true, one0, m10, Nat.reduceAdd, Nat.reduceSub, Nat.reduceLeDiff, Nat.zero_add, Nat.add_zero, fn_X12_factorial, fn_X12_fraction, fn_X12_gotBy, fn_X12_has, fn_X12_noUser, fn_X12_offOnes, fn_X12_ones])
  rw [show mset M 158 0 0 = m0 M from rfl]
  generalize m0 M = M0 at *
  refine ⟨⟨_, _, rfl⟩, fun h => ?_, fun h => ?_⟩
  · rw [if_pos h] at hQ
    obtain ⟨j, hj, rfl⟩ := nu_u hI.1.1 h
    obtain ⟨hn, en, -⟩ := nM_e hI.1.1
    obtain ⟨o, ho2, eo⟩ := of_nI hI.1.1 hI.2.2.2.2
    have h32 := pw2_k _ hn
    have hpo := pc_k _ hn o ho2
    have eMn : mnM M0 = nI (nM M0 - pc o) := by
      unfold mnM
      rw [en, eo, on_k o (by omega), pk_sub hpo]
    (apply h15; simp only [BX12_share_15, s_mth, s_mab, s_at, s_iconst, s_lconst, s_iload, s_lload, s_aload, s_istore, s_lstore, s_astore, s_iinc, s_bin, s_binG, s_un, s_lbin, s_lbinG, s_lsh, s_lcmp, s_i2l, s_l2i, s_dup, s_dup2, s_pop, s_if, s_icmp, s_geti, s_getl, s_getr, s_puti, s_putz, s_putl, s_iald, s_zald, s_iast, s_zast, s_aaldS, s_aaldU, s_gets, s_tald, s_tsw, tsw, s_iret, s_zret, s_lret, s_aret, s_vret, s_callV, s_callS, c1, nl1, keepL, csum, pushR, inL, List.getD_cons_zero, List.getD_cons_succ, List.set_cons_zero, List.set_cons_succ, List.cons_append, List.nil_append, List.append_nil, List.replicate, List.length_cons, List.length_nil, List.take_succ_cons, List.take_zero, List.drop_succ_cons, List.drop_zero, List.reverse_cons, List.reverse_nil, true_and, and_true, forall_const, not_true_eq_false, not_false_eq_true, false_implies, true_implies, implies_true, one0, m10, Nat.reduceAdd, Nat.reduceSub, Nat.reduceLeDiff, Nat.zero_add, Nat.add_zero, fn_X12_factorial, fn_X12_fraction, fn_X12_gotBy, fn_X12_has, fn_X12_noUser, fn_X12_offOnes, fn_X12_ones])
    refine ⟨⟨_, rfl, hI.1.1⟩, ⟨_, _, rfl⟩, fun h2 => ?_, fun h2 => ?_⟩
    · rw [if_pos h2] at hQ
      have hoj : o.testBit j = false := by
        rw [eo] at h2
        exact (hs_k o (by omega) j (by omega)).mp h2
      have loop : ∀ (n s : Nat) (up : Int32) (M' : mM), s + n = 2 ^ nM M0 → TR M0 M' → Q (some (.inl (frM (itr (smS (ofM M0) (nI j) (mnM M0)) s n (up, M')).1 (fcM (mnM M0).toNatClampNeg) w))) (itr (smS (ofM M0) (nI j) (mnM M0)) s n (up, M')).2 → G 48 [some (.inr (.inr (12, 158))), some (.inl (nI j)), some (.inl w), some (.inl (ofM M0)), some (.inl (mnM M0)), some (.inl up), some (.inl (nI s)), none] [] M' := by
        intro n
        induction n with
        | zero =>
          intro s up M' hs hT hq
          (apply h48; simp only [BX12_share_48, s_mth, s_mab, s_at, s_iconst, s_lconst, s_iload, s_lload, s_aload, s_istore, s_lstore, s_astore, s_iinc, s_bin, s_binG, s_un, s_lbin, s_lbinG, s_lsh, s_lcmp, s_i2l, s_l2i, s_dup, s_dup2, s_pop, s_if, s_icmp, s_geti, s_getl, s_getr, s_puti, s_putz, s_putl, s_iald, s_zald, s_iast, s_zast, s_aaldS, s_aaldU, s_gets, s_tald, s_tsw, tsw, s_iret, s_zret, s_lret, s_aret, s_vret, s_callV, s_callS, c1, nl1, keepL, csum, pushR, inL, List.getD_cons_zero, List.getD_cons_succ, List.set_cons_zero, List.set_cons_succ, List.cons_append, List.nil_append, List.append_nil, List.replicate, List.length_cons, List.length_nil, List.take_succ_cons, List.take_zero, List.drop_succ_cons, List.drop_zero, List.reverse_cons, List.reverse_nil, true_and, and_true, forall_const, not_true_eq_false, not_false_eq_true, false_implies, true_implies, implies_true, one0, m10, Nat.reduceAdd, Nat.reduceSub, Nat.reduceLeDiff, Nat.zero_add, Nat.add_zero, fn_X12_factorial, fn_X12_fraction, fn_X12_gotBy, fn_X12_has, fn_X12_noUser, fn_X12_offOnes, fn_X12_ones])
          rw [hT.1 158 (by decide) (by decide) (by decide), en, shl1 _ (by omega)]
          refine ⟨fun _ => ?_, fun h => absurd (nI_le (by omega) (by omega)) h⟩
          have g5 : nM M0 - pc o ≤ 5 := by omega
          have hz := dv_pre (a := up) (fc_k _ g5)
          (apply h127; simp only [BX12_share_127, s_mth, s_mab, s_at, s_iconst, s_lconst, s_iload, s_lload, s_aload, s_istore, s_lstore, s_astore, s_iinc, s_bin, s_binG, s_un, s_lbin, s_lbinG, s_lsh, s_lcmp, s_i2l, s_l2i, s_dup, s_dup2, s_pop, s_if, s_icmp, s_geti, s_getl, s_getr, s_puti, s_putz, s_putl, s_iald, s_zald, s_iast, s_zast, s_aaldS, s_aaldU, s_gets, s_tald, s_tsw, tsw, s_iret, s_zret, s_lret, s_aret, s_vret, s_callV, s_callS, c1, nl1, keepL, csum, pushR, inL, List.getD_cons_zero, List.getD_cons_succ, List.set_cons_zero, List.set_cons_succ, List.cons_append, List.nil_append, List.append_nil, List.replicate, List.length_cons, List.length_nil, List.take_succ_cons, List.take_zero, List.drop_succ_cons, List.drop_zero, List.reverse_cons, List.reverse_nil, true_and, and_true, forall_const, not_true_eq_false, not_false_eq_true, false_implies, true_implies, implies_true, one0, m10, Nat.reduceAdd, Nat.reduceSub, Nat.reduceLeDiff, Nat.zero_add, Nat.add_zero, fn_X12_factorial, fn_X12_fraction, fn_X12_gotBy, fn_X12_has, fn_X12_noUser, fn_X12_offOnes, fn_X12_ones])
          rw [eMn] at hq ⊢
          rw [nI_clamp (by omega : nM M0 - pc o < 2 ^ 31)] at hq ⊢
          exact ⟨⟨_, rfl, _, g5, rfl⟩, ⟨_, _, _, rfl, hz⟩, hq⟩
        | succ n ih =>
          intro s up M' hs hT hq
          have hq2 : Q (some (.inl (frM (itr (smS (ofM M0) (nI j) (mnM M0)) (s + 1) n (smS (ofM M0) (nI j) (mnM M0) s (up, M'))).1 (fcM (mnM M0).toNatClampNeg) w))) (itr (smS (ofM M0) (nI j) (mnM M0)) (s + 1) n (smS (ofM M0) (nI j) (mnM M0) s (up, M'))).2 := hq
          have L121 : ∀ up2 M2, (up2, M2) = smS (ofM M0) (nI j) (mnM M0) s (up, M') → TR M0 M2 → G 121 [some (.inr (.inr (12, 158))), some (.inl (nI j)), some (.inl w), some (.inl (ofM M0)), some (.inl (mnM M0)), some (.inl up2), some (.inl (nI s)), none] [] M2 := by
            intro up2 M2 e hT2
            rw [← e] at hq2
            (apply h121; simp only [BX12_share_121, s_mth, s_mab, s_at, s_iconst, s_lconst, s_iload, s_lload, s_aload, s_istore, s_lstore, s_astore, s_iinc, s_bin, s_binG, s_un, s_lbin, s_lbinG, s_lsh, s_lcmp, s_i2l, s_l2i, s_dup, s_dup2, s_pop, s_if, s_icmp, s_geti, s_getl, s_getr, s_puti, s_putz, s_putl, s_iald, s_zald, s_iast, s_zast, s_aaldS, s_aaldU, s_gets, s_tald, s_tsw, tsw, s_iret, s_zret, s_lret, s_aret, s_vret, s_callV, s_callS, c1, nl1, keepL, csum, pushR, inL, List.getD_cons_zero, List.getD_cons_succ, List.set_cons_zero, List.set_cons_succ, List.cons_append, List.nil_append, List.append_nil, List.replicate, List.length_cons, List.length_nil, List.take_succ_cons, List.take_zero, List.drop_succ_cons, List.drop_zero, List.reverse_cons, List.reverse_nil, true_and, and_true, forall_const, not_true_eq_false, not_false_eq_true, false_implies, true_implies, implies_true, one0, m10, Nat.reduceAdd, Nat.reduceSub, Nat.reduceLeDiff, Nat.zero_add, Nat.add_zero, fn_X12_factorial, fn_X12_fraction, fn_X12_gotBy, fn_X12_has, fn_X12_noUser, fn_X12_offOnes, fn_X12_ones])
            rw [nI_1]
            exact ih (s + 1) up2 M2 (by omega) hT2 hq2
          unfold smS smA smB at L121
          simp only at L121
          have hP' := TR_PM hT hI.1.1
          have hG' := TR_PG hT hI.1.2
          have hTa := TR_gb (t := nI s ||| ((1 : Int32) <<< (nI j &&& 31))) hP' hG'
          have hTb := TR_gb (t := nI s) (TR_PM hTa hP') (TR_PG hTa hG')
          (apply h48; simp only [BX12_share_48, s_mth, s_mab, s_at, s_iconst, s_lconst, s_iload, s_lload, s_aload, s_istore, s_lstore, s_astore, s_iinc, s_bin, s_binG, s_un, s_lbin, s_lbinG, s_lsh, s_lcmp, s_i2l, s_l2i, s_dup, s_dup2, s_pop, s_if, s_icmp, s_geti, s_getl, s_getr, s_puti, s_putz, s_putl, s_iald, s_zald, s_iast, s_zast, s_aaldS, s_aaldU, s_gets, s_tald, s_tsw, tsw, s_iret, s_zret, s_lret, s_aret, s_vret, s_callV, s_callS, c1, nl1, keepL, csum, pushR, inL, List.getD_cons_zero, List.getD_cons_succ, List.set_cons_zero, List.set_cons_succ, List.cons_append, List.nil_append, List.append_nil, List.replicate, List.length_cons, List.length_nil, List.take_succ_cons, List.take_zero, List.drop_succ_cons, List.drop_zero, List.reverse_cons, List.reverse_nil, true_and, and_true, forall_const, not_true_eq_false, not_false_eq_true, false_implies, true_implies, implies_true, one0, m10, Nat.reduceAdd, Nat.reduceSub, Nat.reduceLeDiff, Nat.zero_add, Nat.add_zero, fn_X12_factorial, fn_X12_fraction, fn_X12_gotBy, fn_X12_has, fn_X12_noUser, fn_X12_offOnes, fn_X12_ones])
          rw [hT.1 158 (by decide) (by decide) (by decide), en, shl1 _ (by omega)]
          refine ⟨fun h => absurd h (nI_ge (by omega) (by omega)), fun _ => ⟨fun g1 => ⟨⟨_, _, rfl⟩, fun g2 => ?_, fun g2 => ?_⟩, fun g1 => ?_⟩⟩
          · rw [if_pos g1, if_pos g2] at L121
            have k1 : s &&& o = 0 := by
              rw [eo] at g1
              exact (and_k s (by omega) o (by omega)).mp g1
            have k2 : s.testBit j = false := (hs_k s (by omega) j (by omega)).mp g2
            have k3 := sh_k _ hn o ho2 s (by omega) j hj k1 k2 hoj
            have e1 : on1 (nI s) = nI (pc s) := on_k s (by omega)
            have e2 : mnM M0 - 1 - on1 (nI s) = nI (nM M0 - pc o - 1 - pc s) := by
              rw [eMn, e1, show (1 : Int32) = nI 1 from rfl, pk_sub (by omega), pk_sub (by omega)]
            refine ⟨⟨_, rfl⟩, ⟨_, rfl, pc s, by omega, e1⟩, ⟨_, rfl, _, by omega, e2⟩, ⟨_, _, rfl, hP', hG'⟩, ⟨_, _, rfl, TR_PM hTa hP', TR_PG hTa hG'⟩, ?_⟩
            exact L121 _ _ rfl (TR_t hT (TR_t hTa hTb))
          · rw [if_pos g1, if_neg g2] at L121
            exact L121 _ _ rfl hT
          · rw [if_neg g1] at L121
            exact L121 _ _ rfl hT
      (apply h31; simp only [BX12_share_31, s_mth, s_mab, s_at, s_iconst, s_lconst, s_iload, s_lload, s_aload, s_istore, s_lstore, s_astore, s_iinc, s_bin, s_binG, s_un, s_lbin, s_lbinG, s_lsh, s_lcmp, s_i2l, s_l2i, s_dup, s_dup2, s_pop, s_if, s_icmp, s_geti, s_getl, s_getr, s_puti, s_putz, s_putl, s_iald, s_zald, s_iast, s_zast, s_aaldS, s_aaldU, s_gets, s_tald, s_tsw, tsw, s_iret, s_zret, s_lret, s_aret, s_vret, s_callV, s_callS, c1, nl1, keepL, csum, pushR, inL, List.getD_cons_zero, List.getD_cons_succ, List.set_cons_zero, List.set_cons_succ, List.cons_append, List.nil_append, List.append_nil, List.replicate, List.length_cons, List.length_nil, List.take_succ_cons, List.take_zero, List.drop_succ_cons, List.drop_zero, List.reverse_cons, List.reverse_nil, true_and, and_true, forall_const, not_true_eq_false, not_false_eq_true, false_implies, true_implies, implies_true, one0, m10, Nat.reduceAdd, Nat.reduceSub, Nat.reduceLeDiff, Nat.zero_add, Nat.add_zero, fn_X12_factorial, fn_X12_fraction, fn_X12_gotBy, fn_X12_has, fn_X12_noUser, fn_X12_offOnes, fn_X12_ones])
      exact ⟨⟨_, rfl⟩, loop (2 ^ nM M0) 0 0 M0 (by omega) TR_r hQ⟩
    · rw [if_neg h2] at hQ; exact hQ
  · rw [if_neg h] at hQ; exact hQ
theorem ct_X12_share (l : Launch) : Con l yX12_share cX12_share 8 (Option.some FieldType.int) 6 pre_X12_share fn_X12_share := con_of (by decide +kernel) ok_X12_share len_X12_share (fun p e s m args below meth c D ca ad A as M hX hr hp ho => pf_X12_share _ _ (bsX12_share_0 hX hr) (bsX12_share_15 hX hr) (bsX12_share_31 hX hr) (bsX12_share_48 hX hr) (bsX12_share_121 hX hr) (bsX12_share_127 hX hr) as M ho hp ⟨rfl, rfl⟩)
def flI (s t : Nat) (M : mM) : mM := (so M 166 (hs1 (nI s) (nI t))).2
def flM (M : mM) (N s : Nat) : mM := itr (flI s) 0 N (lay M)
def flT (N : Nat) (x : Int32) (s : Nat) : Int32 := pw x (on1 (nI s)).toNatClampNeg * pw (10 - x) (nI N - on1 (nI s)).toNatClampNeg
def flS (U N : Nat) (x : Int32) (s : Nat) (q : Int32 × mM) : Int32 × mM := (q.1 + (if ha (flM q.2 N s) 166 U = 0 then flT N x s else 0), flM q.2 N s)
def fl (M : mM) (U N : Nat) (x : Int32) : Int32 × mM := itr (flS U N x) 0 (2 ^ N) (0, M)
def m_fails (M : mM) (u n x w : Int32) : Int32 × mM := if nu M u = 0 then (if wi n 1 6 = 0 then (-2, M) else if wi x 0 10 = 0 then (-2, M) else (frM (fl M u.toNatClampNeg n.toNatClampNeg x).1 (pw 10 n.toNatClampNeg) w, (fl M u.toNatClampNeg n.toNatClampNeg x).2)) else (-1, M)
theorem p10_k : ∀ n, n ≤ 6 → ¬ pw 10 n = 0 := by decide +kernel
theorem flI_f : ∀ (n i s : Nat) (M M' : mM), TR M M' → PM M' → PG M' 166 (n + 1) → TR M (itr (flI s) i n M') ∧ PM (itr (flI s) i n M') ∧ PG (itr (flI s) i n M') 166 1
  | 0, i, s, M, M', h1, h2, h3 => ⟨h1, h2, h3⟩
  | n + 1, i, s, M, M', h1, h2, h3 => by
    have hs := PG_so (f := hs1 (nI s) (nI i)) h2 h3
    exact flI_f n (i + 1) s M _ (TR_so h1 h2 (PG_0 h3)) hs.1 hs.2
def pre_X12_fails (as : List mV) (M : mM) : Prop := ∃ c u n x w, as = [.inr (.inr (12, c)), .inl u, .inl n, .inl x, .inl w] ∧ MI M
def fn_X12_fails : List mV → mM → Option mV × mM
  | [.inr (.inr (_, c)), .inl u, .inl n, .inl x, .inl w], M => (some (.inl (m_fails (m0 M) u n x w).1), (m_fails (m0 M) u n x w).2)
  | _, M => (none, M)
theorem ok_X12_fails (as : List mV) (M : mM) (h : pre_X12_fails as M) (_ : ∀ v ∈ as, okV v) : okR (fn_X12_fails as M).1 := by
  obtain ⟨c, u, n, x, w, rfl, -⟩ := h
  first | trivial | exact (by decide +kernel : kof 14 = 8)
theorem len_X12_fails (as : List mV) (M : mM) (h : pre_X12_fails as M) : (inL as).length ≤ 8 := by
  obtain ⟨c, u, n, x, w, rfl, -⟩ := h
  exact Nat.le_of_ble_eq_true rfl


theorem dX12_fails_0 : decode cX12_fails 0 = .ok (.aload_n 0, 1) := by decide +kernel
theorem dX12_fails_1 : decode cX12_fails 1 = .ok (.iconst 0, 1) := by decide +kernel
theorem dX12_fails_2 : decode cX12_fails 2 = .ok (.putfield 1, 3) := by decide +kernel
theorem dX12_fails_5 : decode cX12_fails 5 = .ok (.aload_n 0, 1) := by decide +kernel
theorem dX12_fails_6 : decode cX12_fails 6 = .ok (.iload_n 1, 1) := by decide +kernel
theorem dX12_fails_7 : decode cX12_fails 7 = .ok (.invokevirtual 156, 3) := by decide +kernel
theorem dX12_fails_10 : decode cX12_fails 10 = .ok (.ifCond .eq 5, 3) := by decide +kernel
theorem dX12_fails_13 : decode cX12_fails 13 = .ok (.iconst (-1), 1) := by decide +kernel
theorem dX12_fails_14 : decode cX12_fails 14 = .ok (.ireturn, 1) := by decide +kernel
theorem dX12_fails_15 : decode cX12_fails 15 = .ok (.iload_n 2, 1) := by decide +kernel
theorem dX12_fails_16 : decode cX12_fails 16 = .ok (.i2l, 1) := by decide +kernel
theorem dX12_fails_17 : decode cX12_fails 17 = .ok (.lconst 1, 1) := by decide +kernel
theorem dX12_fails_18 : decode cX12_fails 18 = .ok (.ldc2_w 226, 3) := by decide +kernel
theorem dX12_fails_21 : decode cX12_fails 21 = .ok (.invokestatic 17, 3) := by decide +kernel
theorem dX12_fails_24 : decode cX12_fails 24 = .ok (.ifCond .eq 15, 3) := by decide +kernel
theorem dX12_fails_27 : decode cX12_fails 27 = .ok (.iload_n 3, 1) := by decide +kernel
theorem dX12_fails_28 : decode cX12_fails 28 = .ok (.i2l, 1) := by decide +kernel
theorem dX12_fails_29 : decode cX12_fails 29 = .ok (.lconst 0, 1) := by decide +kernel
theorem dX12_fails_30 : decode cX12_fails 30 = .ok (.ldc2_w 160, 3) := by decide +kernel
theorem dX12_fails_33 : decode cX12_fails 33 = .ok (.invokestatic 17, 3) := by decide +kernel
theorem dX12_fails_36 : decode cX12_fails 36 = .ok (.ifCond .ne 6, 3) := by decide +kernel
theorem dX12_fails_39 : decode cX12_fails 39 = .ok (.bipush (-2), 2) := by decide +kernel
theorem dX12_fails_41 : decode cX12_fails 41 = .ok (.ireturn, 1) := by decide +kernel
theorem dX12_fails_42 : decode cX12_fails 42 = .ok (.iconst 0, 1) := by decide +kernel
theorem dX12_fails_43 : decode cX12_fails 43 = .ok (.istore 5, 2) := by decide +kernel
theorem dX12_fails_45 : decode cX12_fails 45 = .ok (.iconst 0, 1) := by decide +kernel
theorem dX12_fails_46 : decode cX12_fails 46 = .ok (.istore 6, 2) := by decide +kernel
theorem dX12_fails_48 : decode cX12_fails 48 = .ok (.iload 6, 2) := by decide +kernel
theorem dX12_fails_50 : decode cX12_fails 50 = .ok (.iconst 1, 1) := by decide +kernel
theorem dX12_fails_51 : decode cX12_fails 51 = .ok (.iload_n 2, 1) := by decide +kernel
theorem dX12_fails_52 : decode cX12_fails 52 = .ok (.ishl, 1) := by decide +kernel
theorem dX12_fails_53 : decode cX12_fails 53 = .ok (.if_icmp .ge 88, 3) := by decide +kernel
theorem dX12_fails_56 : decode cX12_fails 56 = .ok (.aload_n 0, 1) := by decide +kernel
theorem dX12_fails_57 : decode cX12_fails 57 = .ok (.invokevirtual 176, 3) := by decide +kernel
theorem dX12_fails_60 : decode cX12_fails 60 = .ok (.iconst 0, 1) := by decide +kernel
theorem dX12_fails_61 : decode cX12_fails 61 = .ok (.istore 7, 2) := by decide +kernel
theorem dX12_fails_63 : decode cX12_fails 63 = .ok (.iload 7, 2) := by decide +kernel
theorem dX12_fails_65 : decode cX12_fails 65 = .ok (.iload_n 2, 1) := by decide +kernel
theorem dX12_fails_66 : decode cX12_fails 66 = .ok (.if_icmp .ge 25, 3) := by decide +kernel
theorem dX12_fails_69 : decode cX12_fails 69 = .ok (.aload_n 0, 1) := by decide +kernel
theorem dX12_fails_70 : decode cX12_fails 70 = .ok (.aload_n 0, 1) := by decide +kernel
theorem dX12_fails_71 : decode cX12_fails 71 = .ok (.getfield 7, 3) := by decide +kernel
theorem dX12_fails_74 : decode cX12_fails 74 = .ok (.iload 6, 2) := by decide +kernel
theorem dX12_fails_76 : decode cX12_fails 76 = .ok (.iload 7, 2) := by decide +kernel
theorem dX12_fails_78 : decode cX12_fails 78 = .ok (.invokestatic 207, 3) := by decide +kernel
theorem dX12_fails_81 : decode cX12_fails 81 = .ok (.invokevirtual 152, 3) := by decide +kernel
theorem dX12_fails_84 : decode cX12_fails 84 = .ok (.pop, 1) := by decide +kernel
theorem dX12_fails_85 : decode cX12_fails 85 = .ok (.iinc 7 1, 3) := by decide +kernel
theorem dX12_fails_88 : decode cX12_fails 88 = .ok (.goto (-25), 3) := by decide +kernel
theorem dX12_fails_91 : decode cX12_fails 91 = .ok (.iload 5, 2) := by decide +kernel
theorem dX12_fails_93 : decode cX12_fails 93 = .ok (.aload_n 0, 1) := by decide +kernel
theorem dX12_fails_94 : decode cX12_fails 94 = .ok (.getfield 7, 3) := by decide +kernel
theorem dX12_fails_97 : decode cX12_fails 97 = .ok (.iload_n 1, 1) := by decide +kernel
theorem dX12_fails_98 : decode cX12_fails 98 = .ok (.invokestatic 127, 3) := by decide +kernel
theorem dX12_fails_101 : decode cX12_fails 101 = .ok (.ifCond .eq 7, 3) := by decide +kernel
theorem dX12_fails_104 : decode cX12_fails 104 = .ok (.iconst 0, 1) := by decide +kernel
theorem dX12_fails_105 : decode cX12_fails 105 = .ok (.goto 27, 3) := by decide +kernel
theorem dX12_fails_108 : decode cX12_fails 108 = .ok (.iload_n 3, 1) := by decide +kernel
theorem dX12_fails_109 : decode cX12_fails 109 = .ok (.iload 6, 2) := by decide +kernel
theorem dX12_fails_111 : decode cX12_fails 111 = .ok (.invokestatic 213, 3) := by decide +kernel
theorem dX12_fails_114 : decode cX12_fails 114 = .ok (.invokestatic 228, 3) := by decide +kernel
theorem dX12_fails_117 : decode cX12_fails 117 = .ok (.bipush 10, 2) := by decide +kernel
theorem dX12_fails_119 : decode cX12_fails 119 = .ok (.iload_n 3, 1) := by decide +kernel
theorem dX12_fails_120 : decode cX12_fails 120 = .ok (.isub, 1) := by decide +kernel
theorem dX12_fails_121 : decode cX12_fails 121 = .ok (.iload_n 2, 1) := by decide +kernel
theorem dX12_fails_122 : decode cX12_fails 122 = .ok (.iload 6, 2) := by decide +kernel
theorem dX12_fails_124 : decode cX12_fails 124 = .ok (.invokestatic 213, 3) := by decide +kernel
theorem dX12_fails_127 : decode cX12_fails 127 = .ok (.isub, 1) := by decide +kernel
theorem dX12_fails_128 : decode cX12_fails 128 = .ok (.invokestatic 228, 3) := by decide +kernel
theorem dX12_fails_131 : decode cX12_fails 131 = .ok (.imul, 1) := by decide +kernel
theorem dX12_fails_132 : decode cX12_fails 132 = .ok (.iadd, 1) := by decide +kernel
theorem dX12_fails_133 : decode cX12_fails 133 = .ok (.istore 5, 2) := by decide +kernel
theorem dX12_fails_135 : decode cX12_fails 135 = .ok (.iinc 6 1, 3) := by decide +kernel
theorem dX12_fails_138 : decode cX12_fails 138 = .ok (.goto (-90), 3) := by decide +kernel
theorem dX12_fails_141 : decode cX12_fails 141 = .ok (.iload 5, 2) := by decide +kernel
theorem dX12_fails_143 : decode cX12_fails 143 = .ok (.bipush 10, 2) := by decide +kernel
theorem dX12_fails_145 : decode cX12_fails 145 = .ok (.iload_n 2, 1) := by decide +kernel
theorem dX12_fails_146 : decode cX12_fails 146 = .ok (.invokestatic 228, 3) := by decide +kernel
theorem dX12_fails_149 : decode cX12_fails 149 = .ok (.iload 4, 2) := by decide +kernel
theorem dX12_fails_151 : decode cX12_fails 151 = .ok (.invokestatic 222, 3) := by decide +kernel
theorem dX12_fails_154 : decode cX12_fails 154 = .ok (.ireturn, 1) := by decide +kernel
theorem mk_X12_fails : MVk yX12_fails "FairBlocksModel" cX12_fails 8 (Option.some FieldType.int) 4 := ⟨w_1027, w_1025, w_1026, w_13, rfl, by decide +kernel, by decide +kernel, by decide +kernel⟩
def BX12_fails_0 (G : Nat → KT) (Q : Option mV → mM → Prop) : KT := (s_aload 0 (s_iconst (0) (s_puti 12 0 (s_aload 0 (s_iload 1 (s_callV 12 1 pre_X12_noUser fn_X12_noUser (s_if (fun x => x = 0) (s_at G 15 [true, true, true, true, true, false, false, false]) (s_iconst (-1) (s_iret Q)))))))))
set_option maxRecDepth 4000 in
theorem bsX12_fails_0 {p : Program} {l : Launch} {e : Env} {s : State} {m : MethodId} {args : Array Value} {below : List Frame} {meth : Method} {c : Code} {D : va_G} {ca : Nat → ClassId} {ad : Nat → Nat} {A : Nat → Prop} {Q : Option mV → mM → Prop} (hX : CX p s m args meth c 8 cX12_fails "FairBlocksModel" D ca ad A) (hr : meth.sig.returnType = (Option.some FieldType.int)) : ∀ lv st M, BX12_fails_0 (Gd p l e (rmD 4) s m args below meth c 8 D ca ad A 0 0 (MQ below (QC D ca ad A Q) args s 0 0 A)) Q lv st M → Gd p l e (rmD 4) s m args below meth c 8 D ca ad A 0 0 (MQ below (QC D ca ad A Q) args s 0 0 A) 0 lv st M :=
  (sd_aload_n hX dX12_fails_0 rfl (sd_iconst hX dX12_fails_1 rfl (sd_puti hX fp_723 dX12_fails_2 (sd_aload_n hX dX12_fails_5 rfl (sd_iload_n hX dX12_fails_6 rfl (sd_callV hX (kd := 12) rfl (by decide) (ct_X12_noUser l) mk_X12_noUser w_860 ⟨⟨by decide, by decide⟩, by decide, by decide⟩ dX12_fails_7 (sd_if_eq hX dX12_fails_10 (by decide) sd_at (sd_iconst hX dX12_fails_13 rfl (sd_iret hX hr dX12_fails_14)))))))))
def BX12_fails_15 (G : Nat → KT) (Q : Option mV → mM → Prop) : KT := (s_iload 2 (s_i2l (s_lconst 1 (s_lconst (6) (s_callS 3 pre_X12_in fn_X12_in (s_if (fun x => x = 0) (s_at G 39 [false, false, false, false, false, false, false, false]) (s_iload 3 (s_i2l (s_lconst 0 (s_lconst (10) (s_callS 3 pre_X12_in fn_X12_in (s_if (fun x => x = 0) ((s_at G 39 [false, false, false, false, false, false, false, false])) (s_at G 42 [true, true, true, true, true, false, false, false])))))))))))))
set_option maxRecDepth 4000 in
theorem bsX12_fails_15 {p : Program} {l : Launch} {e : Env} {s : State} {m : MethodId} {args : Array Value} {below : List Frame} {meth : Method} {c : Code} {D : va_G} {ca : Nat → ClassId} {ad : Nat → Nat} {A : Nat → Prop} {Q : Option mV → mM → Prop} (hX : CX p s m args meth c 8 cX12_fails "FairBlocksModel" D ca ad A) (hr : meth.sig.returnType = (Option.some FieldType.int)) : ∀ lv st M, BX12_fails_15 (Gd p l e (rmD 4) s m args below meth c 8 D ca ad A 0 0 (MQ below (QC D ca ad A Q) args s 0 0 A)) Q lv st M → Gd p l e (rmD 4) s m args below meth c 8 D ca ad A 0 0 (MQ below (QC D ca ad A Q) args s 0 0 A) 15 lv st M :=
  (sd_iload_n hX dX12_fails_15 rfl (sd_i2l hX dX12_fails_16 (sd_lconst hX dX12_fails_17 rfl (sd_ldc2 hX w_1028 dX12_fails_18 (sd_callS hX (ct_X12_in l) mk_X12_in w_825 ⟨⟨by decide, by decide⟩, by decide, by decide⟩ dX12_fails_21 (sd_if_eq hX dX12_fails_24 (by decide) sd_at (sd_iload_n hX dX12_fails_27 rfl (sd_i2l hX dX12_fails_28 (sd_lconst hX dX12_fails_29 rfl (sd_ldc2 hX w_864 dX12_fails_30 (sd_callS hX (ct_X12_in l) mk_X12_in w_825 ⟨⟨by decide, by decide⟩, by decide, by decide⟩ dX12_fails_33 (sd_if_ne hX dX12_fails_36 (by decide) sd_at sd_at))))))))))))
def BX12_fails_39 (G : Nat → KT) (Q : Option mV → mM → Prop) : KT := (s_iconst (-2) (s_iret Q))
set_option maxRecDepth 4000 in
theorem bsX12_fails_39 {p : Program} {l : Launch} {e : Env} {s : State} {m : MethodId} {args : Array Value} {below : List Frame} {meth : Method} {c : Code} {D : va_G} {ca : Nat → ClassId} {ad : Nat → Nat} {A : Nat → Prop} {Q : Option mV → mM → Prop} (hX : CX p s m args meth c 8 cX12_fails "FairBlocksModel" D ca ad A) (hr : meth.sig.returnType = (Option.some FieldType.int)) : ∀ lv st M, BX12_fails_39 (Gd p l e (rmD 4) s m args below meth c 8 D ca ad A 0 0 (MQ below (QC D ca ad A Q) args s 0 0 A)) Q lv st M → Gd p l e (rmD 4) s m args below meth c 8 D ca ad A 0 0 (MQ below (QC D ca ad A Q) args s 0 0 A) 39 lv st M :=
  (sd_bipush hX dX12_fails_39 rfl (sd_iret hX hr dX12_fails_41))
def BX12_fails_42 (G : Nat → KT) (Q : Option mV → mM → Prop) : KT := (s_iconst (0) (s_istore 5 (s_iconst (0) (s_istore 6 (s_at G 48 [true, true, true, true, true, true, true, false])))))
set_option maxRecDepth 4000 in
theorem bsX12_fails_42 {p : Program} {l : Launch} {e : Env} {s : State} {m : MethodId} {args : Array Value} {below : List Frame} {meth : Method} {c : Code} {D : va_G} {ca : Nat → ClassId} {ad : Nat → Nat} {A : Nat → Prop} {Q : Option mV → mM → Prop} (hX : CX p s m args meth c 8 cX12_fails "FairBlocksModel" D ca ad A) (hr : meth.sig.returnType = (Option.some FieldType.int)) : ∀ lv st M, BX12_fails_42 (Gd p l e (rmD 4) s m args below meth c 8 D ca ad A 0 0 (MQ below (QC D ca ad A Q) args s 0 0 A)) Q lv st M → Gd p l e (rmD 4) s m args below meth c 8 D ca ad A 0 0 (MQ below (QC D ca ad A Q) args s 0 0 A) 42 lv st M :=
  (sd_iconst hX dX12_fails_42 rfl (sd_istore hX (by decide) dX12_fails_43 (sd_iconst hX dX12_fails_45 rfl (sd_istore hX (by decide) dX12_fails_46 sd_at))))
def BX12_fails_48 (G : Nat → KT) (Q : Option mV → mM → Prop) : KT := (s_iload 6 (s_iconst (1) (s_iload 2 (s_bin (fun x y => x <<< (y &&& 31)) (s_icmp (fun x y => y ≤ x) (s_at G 141 [false, false, true, false, true, true, false, false]) (s_aload 0 (s_callV 12 0 pre_X12_layTrial fn_X12_layTrial (s_iconst (0) (s_istore 7 (s_at G 63 [true, true, true, true, true, true, true, true]))))))))))
set_option maxRecDepth 4000 in
theorem bsX12_fails_48 {p : Program} {l : Launch} {e : Env} {s : State} {m : MethodId} {args : Array Value} {below : List Frame} {meth : Method} {c : Code} {D : va_G} {ca : Nat → ClassId} {ad : Nat → Nat} {A : Nat → Prop} {Q : Option mV → mM → Prop} (hX : CX p s m args meth c 8 cX12_fails "FairBlocksModel" D ca ad A) (hr : meth.sig.returnType = (Option.some FieldType.int)) : ∀ lv st M, BX12_fails_48 (Gd p l e (rmD 4) s m args below meth c 8 D ca ad A 0 0 (MQ below (QC D ca ad A Q) args s 0 0 A)) Q lv st M → Gd p l e (rmD 4) s m args below meth c 8 D ca ad A 0 0 (MQ below (QC D ca ad A Q) args s 0 0 A) 48 lv st M :=
  (sd_iload hX dX12_fails_48 (sd_iconst hX dX12_fails_50 rfl (sd_iload_n hX dX12_fails_51 rfl (sd_ishl hX dX12_fails_52 (sd_icmp_ge hX dX12_fails_53 (by decide) sd_at (sd_aload_n hX dX12_fails_56 rfl (sd_callV hX (kd := 12) rfl (by decide) (ct_X12_layTrial l) mk_X12_layTrial w_940 ⟨⟨by decide, by decide⟩, by decide, by decide⟩ dX12_fails_57 (sd_iconst hX dX12_fails_60 rfl (sd_istore hX (by decide) dX12_fails_61 sd_at)))))))))
def BX12_fails_63 (G : Nat → KT) (Q : Option mV → mM → Prop) : KT := (s_iload 7 (s_iload 2 (s_icmp (fun x y => y ≤ x) (s_at G 91 [true, true, true, true, true, true, true, false]) (s_aload 0 (s_aload 0 (s_getr 12 13 (fun _ => 166) (s_iload 6 (s_iload 7 (s_callS 2 pre_X12_has fn_X12_has (s_callV 12 2 pre_X12_slotOn fn_X12_slotOn (s_pop (s_iinc 7 (1) (s_at G 63 [true, true, true, true, true, true, true, true])))))))))))))
set_option maxRecDepth 4000 in
theorem bsX12_fails_63 {p : Program} {l : Launch} {e : Env} {s : State} {m : MethodId} {args : Array Value} {below : List Frame} {meth : Method} {c : Code} {D : va_G} {ca : Nat → ClassId} {ad : Nat → Nat} {A : Nat → Prop} {Q : Option mV → mM → Prop} (hX : CX p s m args meth c 8 cX12_fails "FairBlocksModel" D ca ad A) (hr : meth.sig.returnType = (Option.some FieldType.int)) : ∀ lv st M, BX12_fails_63 (Gd p l e (rmD 4) s m args below meth c 8 D ca ad A 0 0 (MQ below (QC D ca ad A Q) args s 0 0 A)) Q lv st M → Gd p l e (rmD 4) s m args below meth c 8 D ca ad A 0 0 (MQ below (QC D ca ad A Q) args s 0 0 A) 63 lv st M :=
  (sd_iload hX dX12_fails_63 (sd_iload_n hX dX12_fails_65 rfl (sd_icmp_ge hX dX12_fails_66 (by decide) sd_at (sd_aload_n hX dX12_fails_69 rfl (sd_aload_n hX dX12_fails_70 rfl (sd_getr hX fl_740 (fun _ => rfl) (fun _ _ _ => by decide +kernel) dX12_fails_71 (sd_iload hX dX12_fails_74 (sd_iload hX dX12_fails_76 (sd_callS hX (ct_X12_has l) mk_X12_has w_1005 ⟨⟨by decide, by decide⟩, by decide, by decide⟩ dX12_fails_78 (sd_callV hX (kd := 12) rfl (by decide) (ct_X12_slotOn l) mk_X12_slotOn w_882 ⟨⟨by decide, by decide⟩, by decide, by decide⟩ dX12_fails_81 (sd_pop hX dX12_fails_84 (sd_iinc hX (by decide) dX12_fails_85 rfl (sd_goto hX dX12_fails_88 (by decide) sd_at)))))))))))))
def BX12_fails_91 (G : Nat → KT) (Q : Option mV → mM → Prop) : KT := (s_iload 5 (s_aload 0 (s_getr 12 13 (fun _ => 166) (s_iload 1 (s_callS 2 pre_X12_hasAny fn_X12_hasAny (s_if (fun x => x = 0) (s_at G 108 [true, true, true, true, true, false, true, false]) (s_iconst (0) (s_at G 132 [true, true, true, true, true, false, true, false]))))))))
set_option maxRecDepth 4000 in
theorem bsX12_fails_91 {p : Program} {l : Launch} {e : Env} {s : State} {m : MethodId} {args : Array Value} {below : List Frame} {meth : Method} {c : Code} {D : va_G} {ca : Nat → ClassId} {ad : Nat → Nat} {A : Nat → Prop} {Q : Option mV → mM → Prop} (hX : CX p s m args meth c 8 cX12_fails "FairBlocksModel" D ca ad A) (hr : meth.sig.returnType = (Option.some FieldType.int)) : ∀ lv st M, BX12_fails_91 (Gd p l e (rmD 4) s m args below meth c 8 D ca ad A 0 0 (MQ below (QC D ca ad A Q) args s 0 0 A)) Q lv st M → Gd p l e (rmD 4) s m args below meth c 8 D ca ad A 0 0 (MQ below (QC D ca ad A Q) args s 0 0 A) 91 lv st M :=
  (sd_iload hX dX12_fails_91 (sd_aload_n hX dX12_fails_93 rfl (sd_getr hX fl_740 (fun _ => rfl) (fun _ _ _ => by decide +kernel) dX12_fails_94 (sd_iload_n hX dX12_fails_97 rfl (sd_callS hX (ct_X12_hasAny l) mk_X12_hasAny w_894 ⟨⟨by decide, by decide⟩, by decide, by decide⟩ dX12_fails_98 (sd_if_eq hX dX12_fails_101 (by decide) sd_at (sd_iconst hX dX12_fails_104 rfl (sd_goto hX dX12_fails_105 (by decide) sd_at))))))))
def BX12_fails_108 (G : Nat → KT) (Q : Option mV → mM → Prop) : KT := (s_iload 3 (s_iload 6 (s_callS 1 pre_X12_ones fn_X12_ones (s_callS 2 pre_X12_power fn_X12_power (s_iconst (10) (s_iload 3 (s_bin (fun x y => x - y) (s_iload 2 (s_iload 6 (s_callS 1 pre_X12_ones fn_X12_ones (s_bin (fun x y => x - y) (s_callS 2 pre_X12_power fn_X12_power (s_bin (fun x y => x * y) (s_at G 132 [true, true, true, true, true, false, true, false]))))))))))))))
set_option maxRecDepth 4000 in
theorem bsX12_fails_108 {p : Program} {l : Launch} {e : Env} {s : State} {m : MethodId} {args : Array Value} {below : List Frame} {meth : Method} {c : Code} {D : va_G} {ca : Nat → ClassId} {ad : Nat → Nat} {A : Nat → Prop} {Q : Option mV → mM → Prop} (hX : CX p s m args meth c 8 cX12_fails "FairBlocksModel" D ca ad A) (hr : meth.sig.returnType = (Option.some FieldType.int)) : ∀ lv st M, BX12_fails_108 (Gd p l e (rmD 4) s m args below meth c 8 D ca ad A 0 0 (MQ below (QC D ca ad A Q) args s 0 0 A)) Q lv st M → Gd p l e (rmD 4) s m args below meth c 8 D ca ad A 0 0 (MQ below (QC D ca ad A Q) args s 0 0 A) 108 lv st M :=
  (sd_iload_n hX dX12_fails_108 rfl (sd_iload hX dX12_fails_109 (sd_callS hX (ct_X12_ones l) mk_X12_ones w_1008 ⟨⟨by decide, by decide⟩, by decide, by decide⟩ dX12_fails_111 (sd_callS hX (ct_X12_power l) mk_X12_power w_1029 ⟨⟨by decide, by decide⟩, by decide, by decide⟩ dX12_fails_114 (sd_bipush hX dX12_fails_117 rfl (sd_iload_n hX dX12_fails_119 rfl (sd_isub hX dX12_fails_120 (sd_iload_n hX dX12_fails_121 rfl (sd_iload hX dX12_fails_122 (sd_callS hX (ct_X12_ones l) mk_X12_ones w_1008 ⟨⟨by decide, by decide⟩, by decide, by decide⟩ dX12_fails_124 (sd_isub hX dX12_fails_127 (sd_callS hX (ct_X12_power l) mk_X12_power w_1029 ⟨⟨by decide, by decide⟩, by decide, by decide⟩ dX12_fails_128 (sd_imul hX dX12_fails_131 sd_at)))))))))))))
def BX12_fails_132 (G : Nat → KT) (Q : Option mV → mM → Prop) : KT := (s_bin (fun x y => x + y) (s_istore 5 (s_iinc 6 (1) (s_at G 48 [true, true, true, true, true, true, true, false]))))
set_option maxRecDepth 4000 in
theorem bsX12_fails_132 {p : Program} {l : Launch} {e : Env} {s : State} {m : MethodId} {args : Array Value} {below : List Frame} {meth : Method} {c : Code} {D : va_G} {ca : Nat → ClassId} {ad : Nat → Nat} {A : Nat → Prop} {Q : Option mV → mM → Prop} (hX : CX p s m args meth c 8 cX12_fails "FairBlocksModel" D ca ad A) (hr : meth.sig.returnType = (Option.some FieldType.int)) : ∀ lv st M, BX12_fails_132 (Gd p l e (rmD 4) s m args below meth c 8 D ca ad A 0 0 (MQ below (QC D ca ad A Q) args s 0 0 A)) Q lv st M → Gd p l e (rmD 4) s m args below meth c 8 D ca ad A 0 0 (MQ below (QC D ca ad A Q) args s 0 0 A) 132 lv st M :=
  (sd_iadd hX dX12_fails_132 (sd_istore hX (by decide) dX12_fails_133 (sd_iinc hX (by decide) dX12_fails_135 rfl (sd_goto hX dX12_fails_138 (by decide) sd_at))))
def BX12_fails_141 (G : Nat → KT) (Q : Option mV → mM → Prop) : KT := (s_iload 5 (s_iconst (10) (s_iload 2 (s_callS 2 pre_X12_power fn_X12_power (s_iload 4 (s_callS 3 pre_X12_fraction fn_X12_fraction (s_iret Q)))))))
set_option maxRecDepth 4000 in
theorem bsX12_fails_141 {p : Program} {l : Launch} {e : Env} {s : State} {m : MethodId} {args : Array Value} {below : List Frame} {meth : Method} {c : Code} {D : va_G} {ca : Nat → ClassId} {ad : Nat → Nat} {A : Nat → Prop} {Q : Option mV → mM → Prop} (hX : CX p s m args meth c 8 cX12_fails "FairBlocksModel" D ca ad A) (hr : meth.sig.returnType = (Option.some FieldType.int)) : ∀ lv st M, BX12_fails_141 (Gd p l e (rmD 4) s m args below meth c 8 D ca ad A 0 0 (MQ below (QC D ca ad A Q) args s 0 0 A)) Q lv st M → Gd p l e (rmD 4) s m args below meth c 8 D ca ad A 0 0 (MQ below (QC D ca ad A Q) args s 0 0 A) 141 lv st M :=
  (sd_iload hX dX12_fails_141 (sd_bipush hX dX12_fails_143 rfl (sd_iload_n hX dX12_fails_145 rfl (sd_callS hX (ct_X12_power l) mk_X12_power w_1029 ⟨⟨by decide, by decide⟩, by decide, by decide⟩ dX12_fails_146 (sd_iload hX dX12_fails_149 (sd_callS hX (ct_X12_fraction l) mk_X12_fraction w_1018 ⟨⟨by decide, by decide⟩, by decide, by decide⟩ dX12_fails_151 (sd_iret hX hr dX12_fails_154)))))))
set_option maxHeartbeats 400000 in
theorem pf_X12_fails (G : Nat → KT) (Q : Option mV → mM → Prop) (h0 : ∀ lv st M, BX12_fails_0 G Q lv st M → G 0 lv st M) (h15 : ∀ lv st M, BX12_fails_15 G Q lv st M → G 15 lv st M) (h39 : ∀ lv st M, BX12_fails_39 G Q lv st M → G 39 lv st M) (h42 : ∀ lv st M, BX12_fails_42 G Q lv st M → G 42 lv st M) (h48 : ∀ lv st M, BX12_fails_48 G Q lv st M → G 48 lv st M) (h63 : ∀ lv st M, BX12_fails_63 G Q lv st M → G 63 lv st M) (h91 : ∀ lv st M, BX12_fails_91 G Q lv st M → G 91 lv st M) (h108 : ∀ lv st M, BX12_fails_108 G Q lv st M → G 108 lv st M) (h132 : ∀ lv st M, BX12_fails_132 G Q lv st M → G 132 lv st M) (h141 : ∀ lv st M, BX12_fails_141 G Q lv st M → G 141 lv st M) (as : List mV) (M : mM) (ho : ∀ v ∈ as, okV v) (hp : pre_X12_fails as M) (hQ : Q (fn_X12_fails as M).1 (fn_X12_fails as M).2) : G 0 (inL as ++ List.replicate (8 - (inL as).length) none) [] M := by
  obtain ⟨c, u, n, x, w, rfl, hM⟩ := hp
  obtain rfl : c = 158 := k12 (ho (.inr (.inr (12, c))) (by simp))
  have hI := MI_0 hM
  have e1 : iL n.toInt64 1 6 = wi n 1 6 := iLw n 1 6
  have e2 : iL x.toInt64 0 10 = wi x 0 10 := iLw x 0 10
  simp only [fn_X12_fails, m_fails] at hQ
  have F : ∀ M, Q (some (.inl (-2))) M → G 39 [none, none, none, none, none, none, none, none] [] M := by
    intro M hQ
    (apply h39; simp only [BX12_fails_39, s_mth, s_mab, s_at, s_iconst, s_lconst, s_iload, s_lload, s_aload, s_istore, s_lstore, s_astore, s_iinc, s_bin, s_binG, s_un, s_lbin, s_lbinG, s_lsh, s_lcmp, s_i2l, s_l2i, s_dup, s_dup2, s_pop, s_if, s_icmp, s_geti, s_getl, s_getr, s_puti, s_putz, s_putl, s_iald, s_zald, s_iast, s_zast, s_aaldS, s_aaldU, s_gets, s_tald, s_tsw, tsw, s_iret, s_zret, s_lret, s_aret, s_vret, s_callV, s_callS, c1, nl1, keepL, csum, pushR, inL, List.getD_cons_zero, List.getD_cons_succ, List.set_cons_zero, List.set_cons_succ, List.cons_append, List.nil_append, List.append_nil, List.replicate, List.length_cons, List.length_nil, List.take_succ_cons, List.take_zero, List.drop_succ_cons, List.drop_zero, List.reverse_cons, List.reverse_nil, true_and, and_true, forall_const, not_true_eq_false, not_false_eq_true, false_implies, true_implies, implies_true, one0, m10, Nat.reduceAdd, Nat.reduceSub, Nat.reduceLeDiff, Nat.zero_add, Nat.add_zero, fn_X12_fraction, fn_X12_has, fn_X12_hasAny, fn_X12_in, fn_X12_layTrial, fn_X12_noUser, fn_X12_ones, fn_X12_power, fn_X12_slotOn])
    exact hQ
  (apply h0; simp only [BX12_fails_0, s_mth, s_mab, s_at, s_iconst, s_lconst, s_iload, s_lload, s_aload, s_istore, s_lstore, s_astore, s_iinc, s_bin, s_binG, s_un, s_lbin, s_lbinG, s_lsh, s_lcmp, s_i2l, s_l2i, s_dup, s_dup2, s_pop, s_if, s_icmp, s_geti, s_getl, s_getr, s_puti, s_putz, s_putl, s_iald, s_zald, s_iast, s_zast, s_aaldS, s_aaldU, s_gets, s_tald, s_tsw, tsw, s_iret, s_zret, s_lret, s_aret, s_vret, s_callV, s_callS, c1, nl1, keepL, csum, pushR, inL, List.getD_cons_zero, List.getD_cons_succ, List.set_cons_zero, List.set_cons_succ, List.cons_append, List.nil_append, List.append_nil, List.replicate, List.length_cons, List.length_nil, List.take_succ_cons, List.take_zero, List.drop_succ_cons, List.drop_zero, List.reverse_cons, List.reverse_nil, true_and, and_true, forall_const, not_true_eq_false, not_false_eq_true, false_implies, true_implies, implies_true, one0, m10, Nat.reduceAdd, Nat.reduceSub, Nat.reduceLeDiff, Nat.zero_add, Nat.add_zero, fn_X12_fraction, fn_X12_has, fn_X12_hasAny, fn_X12_in, fn_X12_layTrial, fn_X12_noUser, fn_X12_ones, fn_X12_power, fn_X12_slotOn])
  rw [show mset M 158 0 0 = m0 M from rfl]
  generalize m0 M = M0 at *
  refine ⟨⟨_, _, rfl⟩, fun h => ?_, fun h => ?_⟩
  · rw [if_pos h] at hQ
    obtain ⟨j, hj, rfl⟩ := nu_u hI.1.1 h
    obtain ⟨hn, en, -⟩ := nM_e hI.1.1
    have hj5 : j < 5 := by omega
    rw [nI_clamp (by omega : j < 2 ^ 31)] at hQ
    (apply h15; simp only [BX12_fails_15, s_mth, s_mab, s_at, s_iconst, s_lconst, s_iload, s_lload, s_aload, s_istore, s_lstore, s_astore, s_iinc, s_bin, s_binG, s_un, s_lbin, s_lbinG, s_lsh, s_lcmp, s_i2l, s_l2i, s_dup, s_dup2, s_pop, s_if, s_icmp, s_geti, s_getl, s_getr, s_puti, s_putz, s_putl, s_iald, s_zald, s_iast, s_zast, s_aaldS, s_aaldU, s_gets, s_tald, s_tsw, tsw, s_iret, s_zret, s_lret, s_aret, s_vret, s_callV, s_callS, c1, nl1, keepL, csum, pushR, inL, List.getD_cons_zero, List.getD_cons_succ, List.set_cons_zero, List.set_cons_succ, List.cons_append, List.nil_append, List.append_nil, List.replicate, List.length_cons, List.length_nil, List.take_succ_cons, List.take_zero, List.drop_succ_cons, List.drop_zero, List.reverse_cons, List.reverse_nil, true_and, and_true, forall_const, not_true_eq_false, not_false_eq_true, false_implies, true_implies, implies_true, one0, m10, Nat.reduceAdd, Nat.reduceSub, Nat.reduceLeDiff, Nat.zero_add, Nat.add_zero, fn_X12_fraction, fn_X12_has, fn_X12_hasAny, fn_X12_in, fn_X12_layTrial, fn_X12_noUser, fn_X12_ones, fn_X12_power, fn_X12_slotOn])
    rw [e1, e2]
    refine ⟨⟨_, _, _, rfl⟩, fun g1 => ?_, fun g1 => ⟨⟨_, _, _, rfl⟩, fun g2 => ?_, fun g2 => ?_⟩⟩
    · rw [if_pos g1] at hQ; exact F _ hQ
    · rw [if_neg g1, if_pos g2] at hQ; exact F _ hQ
    · rw [if_neg g1, if_neg g2] at hQ
      obtain ⟨N, hN1, hN, rfl⟩ := wi_g (d := 1) (c := 6) rfl rfl (by decide) (by decide) g1
      rw [nI_clamp (by omega : N < 2 ^ 31)] at hQ
      have h64 : 2 ^ N ≤ 64 := by
        have : 2 ^ N ≤ 2 ^ 6 := Nat.pow_le_pow_right (by decide) hN
        omega
      have loop : ∀ (m s : Nat) (up : Int32) (M' : mM), s + m = 2 ^ N → TR M0 M' → Q (some (.inl (frM (itr (flS j N x) s m (up, M')).1 (pw 10 N) w))) (itr (flS j N x) s m (up, M')).2 → G 48 [some (.inr (.inr (12, 158))), some (.inl (nI j)), some (.inl (nI N)), some (.inl x), some (.inl w), some (.inl up), some (.inl (nI s)), none] [] M' := by
        intro m
        induction m with
        | zero =>
          intro s up M' hs hT hq
          (apply h48; simp only [BX12_fails_48, s_mth, s_mab, s_at, s_iconst, s_lconst, s_iload, s_lload, s_aload, s_istore, s_lstore, s_astore, s_iinc, s_bin, s_binG, s_un, s_lbin, s_lbinG, s_lsh, s_lcmp, s_i2l, s_l2i, s_dup, s_dup2, s_pop, s_if, s_icmp, s_geti, s_getl, s_getr, s_puti, s_putz, s_putl, s_iald, s_zald, s_iast, s_zast, s_aaldS, s_aaldU, s_gets, s_tald, s_tsw, tsw, s_iret, s_zret, s_lret, s_aret, s_vret, s_callV, s_callS, c1, nl1, keepL, csum, pushR, inL, List.getD_cons_zero, List.getD_cons_succ, List.set_cons_zero, List.set_cons_succ, List.cons_append, List.nil_append, List.append_nil, List.replicate, List.length_cons, List.length_nil, List.take_succ_cons, List.take_zero, List.drop_succ_cons, List.drop_zero, List.reverse_cons, List.reverse_nil, true_and, and_true, forall_const, not_true_eq_false, not_false_eq_true, false_implies, true_implies, implies_true, one0, m10, Nat.reduceAdd, Nat.reduceSub, Nat.reduceLeDiff, Nat.zero_add, Nat.add_zero, fn_X12_fraction, fn_X12_has, fn_X12_hasAny, fn_X12_in, fn_X12_layTrial, fn_X12_noUser, fn_X12_ones, fn_X12_power, fn_X12_slotOn])
          rw [shl1 _ hN]
          refine ⟨fun _ => ?_, fun h => absurd (nI_le (by omega) (by omega)) h⟩
          have hz := dv_pre (a := up) (p10_k _ hN)
          (apply h141; simp only [BX12_fails_141, s_mth, s_mab, s_at, s_iconst, s_lconst, s_iload, s_lload, s_aload, s_istore, s_lstore, s_astore, s_iinc, s_bin, s_binG, s_un, s_lbin, s_lbinG, s_lsh, s_lcmp, s_i2l, s_l2i, s_dup, s_dup2, s_pop, s_if, s_icmp, s_geti, s_getl, s_getr, s_puti, s_putz, s_putl, s_iald, s_zald, s_iast, s_zast, s_aaldS, s_aaldU, s_gets, s_tald, s_tsw, tsw, s_iret, s_zret, s_lret, s_aret, s_vret, s_callV, s_callS, c1, nl1, keepL, csum, pushR, inL, List.getD_cons_zero, List.getD_cons_succ, List.set_cons_zero, List.set_cons_succ, List.cons_append, List.nil_append, List.append_nil, List.replicate, List.length_cons, List.length_nil, List.take_succ_cons, List.take_zero, List.drop_succ_cons, List.drop_zero, List.reverse_cons, List.reverse_nil, true_and, and_true, forall_const, not_true_eq_false, not_false_eq_true, false_implies, true_implies, implies_true, one0, m10, Nat.reduceAdd, Nat.reduceSub, Nat.reduceLeDiff, Nat.zero_add, Nat.add_zero, fn_X12_fraction, fn_X12_has, fn_X12_hasAny, fn_X12_in, fn_X12_layTrial, fn_X12_noUser, fn_X12_ones, fn_X12_power, fn_X12_slotOn])
          rw [nI_clamp (by omega : N < 2 ^ 31)]
          exact ⟨⟨_, _, rfl⟩, ⟨_, _, _, rfl, hz⟩, hq⟩
        | succ m ih =>
          intro s up M' hs hT hq
          have hq2 : Q (some (.inl (frM (itr (flS j N x) (s + 1) m (flS j N x s (up, M'))).1 (pw 10 N) w))) (itr (flS j N x) (s + 1) m (flS j N x s (up, M'))).2 := hq
          unfold flS at hq2
          simp only at hq2
          have hP' := TR_PM hT hI.1.1
          have hG' := TR_PG hT hI.1.2
          have hfl : TR M' (flM M' N s) ∧ PM (flM M' N s) ∧ PG (flM M' N s) 166 1 := flI_f N 0 s M' (lay M') TR_lay (PM_lay hP') (PG_le (PG_lay hG') (by omega))
          have L132 : ∀ b, b = (if ha (flM M' N s) 166 j = 0 then flT N x s else 0) → G 132 [some (.inr (.inr (12, 158))), some (.inl (nI j)), some (.inl (nI N)), some (.inl x), some (.inl w), none, some (.inl (nI s)), none] [.inl b, .inl up] (flM M' N s) := by
            intro b eb
            rw [← eb] at hq2
            (apply h132; simp only [BX12_fails_132, s_mth, s_mab, s_at, s_iconst, s_lconst, s_iload, s_lload, s_aload, s_istore, s_lstore, s_astore, s_iinc, s_bin, s_binG, s_un, s_lbin, s_lbinG, s_lsh, s_lcmp, s_i2l, s_l2i, s_dup, s_dup2, s_pop, s_if, s_icmp, s_geti, s_getl, s_getr, s_puti, s_putz, s_putl, s_iald, s_zald, s_iast, s_zast, s_aaldS, s_aaldU, s_gets, s_tald, s_tsw, tsw, s_iret, s_zret, s_lret, s_aret, s_vret, s_callV, s_callS, c1, nl1, keepL, csum, pushR, inL, List.getD_cons_zero, List.getD_cons_succ, List.set_cons_zero, List.set_cons_succ, List.cons_append, List.nil_append, List.append_nil, List.replicate, List.length_cons, List.length_nil, List.take_succ_cons, List.take_zero, List.drop_succ_cons, List.drop_zero, List.reverse_cons, List.reverse_nil, true_and, and_true, forall_const, not_true_eq_false, not_false_eq_true, false_implies, true_implies, implies_true, one0, m10, Nat.reduceAdd, Nat.reduceSub, Nat.reduceLeDiff, Nat.zero_add, Nat.add_zero, fn_X12_fraction, fn_X12_has, fn_X12_hasAny, fn_X12_in, fn_X12_layTrial, fn_X12_noUser, fn_X12_ones, fn_X12_power, fn_X12_slotOn])
            rw [nI_1]
            exact ih (s + 1) _ _ (by omega) (TR_t hT hfl.1) hq2
          have inner : ∀ (k t : Nat) (M2 : mM), t + k = N → TR M' M2 → PM M2 → PG M2 166 (k + 1) → itr (flI s) t k M2 = flM M' N s → G 63 [some (.inr (.inr (12, 158))), some (.inl (nI j)), some (.inl (nI N)), some (.inl x), some (.inl w), some (.inl up), some (.inl (nI s)), some (.inl (nI t))] [] M2 := by
            intro k
            induction k with
            | zero =>
              intro t M2 ht hT2 hP2 hG2 e
              (apply h63; simp only [BX12_fails_63, s_mth, s_mab, s_at, s_iconst, s_lconst, s_iload, s_lload, s_aload, s_istore, s_lstore, s_astore, s_iinc, s_bin, s_binG, s_un, s_lbin, s_lbinG, s_lsh, s_lcmp, s_i2l, s_l2i, s_dup, s_dup2, s_pop, s_if, s_icmp, s_geti, s_getl, s_getr, s_puti, s_putz, s_putl, s_iald, s_zald, s_iast, s_zast, s_aaldS, s_aaldU, s_gets, s_tald, s_tsw, tsw, s_iret, s_zret, s_lret, s_aret, s_vret, s_callV, s_callS, c1, nl1, keepL, csum, pushR, inL, List.getD_cons_zero, List.getD_cons_succ, List.set_cons_zero, List.set_cons_succ, List.cons_append, List.nil_append, List.append_nil, List.replicate, List.length_cons, List.length_nil, List.take_succ_cons, List.take_zero, List.drop_succ_cons, List.drop_zero, List.reverse_cons, List.reverse_nil, true_and, and_true, forall_const, not_true_eq_false, not_false_eq_true, false_implies, true_implies, implies_true, one0, m10, Nat.reduceAdd, Nat.reduceSub, Nat.reduceLeDiff, Nat.zero_add, Nat.add_zero, fn_X12_fraction, fn_X12_has, fn_X12_hasAny, fn_X12_in, fn_X12_layTrial, fn_X12_noUser, fn_X12_ones, fn_X12_power, fn_X12_slotOn])
              refine ⟨fun _ => ?_, fun h => absurd (nI_le (by omega) (by omega)) h⟩
              have e' : M2 = flM M' N s := e
              rw [e'] at hG2 ⊢
              (apply h91; simp only [BX12_fails_91, s_mth, s_mab, s_at, s_iconst, s_lconst, s_iload, s_lload, s_aload, s_istore, s_lstore, s_astore, s_iinc, s_bin, s_binG, s_un, s_lbin, s_lbinG, s_lsh, s_lcmp, s_i2l, s_l2i, s_dup, s_dup2, s_pop, s_if, s_icmp, s_geti, s_getl, s_getr, s_puti, s_putz, s_putl, s_iald, s_zald, s_iast, s_zast, s_aaldS, s_aaldU, s_gets, s_tald, s_tsw, tsw, s_iret, s_zret, s_lret, s_aret, s_vret, s_callV, s_callS, c1, nl1, keepL, csum, pushR, inL, List.getD_cons_zero, List.getD_cons_succ, List.set_cons_zero, List.set_cons_succ, List.cons_append, List.nil_append, List.append_nil, List.replicate, List.length_cons, List.length_nil, List.take_succ_cons, List.take_zero, List.drop_succ_cons, List.drop_zero, List.reverse_cons, List.reverse_nil, true_and, and_true, forall_const, not_true_eq_false, not_false_eq_true, false_implies, true_implies, implies_true, one0, m10, Nat.reduceAdd, Nat.reduceSub, Nat.reduceLeDiff, Nat.zero_add, Nat.add_zero, fn_X12_fraction, fn_X12_has, fn_X12_hasAny, fn_X12_in, fn_X12_layTrial, fn_X12_noUser, fn_X12_ones, fn_X12_power, fn_X12_slotOn])
              rw [nI_clamp (by omega : j < 2 ^ 31)]
              refine ⟨⟨_, _, rfl, PG_l hG2, j, hj5, rfl⟩, fun g => ?_, fun g => ?_⟩
              · (apply h108; simp only [BX12_fails_108, s_mth, s_mab, s_at, s_iconst, s_lconst, s_iload, s_lload, s_aload, s_istore, s_lstore, s_astore, s_iinc, s_bin, s_binG, s_un, s_lbin, s_lbinG, s_lsh, s_lcmp, s_i2l, s_l2i, s_dup, s_dup2, s_pop, s_if, s_icmp, s_geti, s_getl, s_getr, s_puti, s_putz, s_putl, s_iald, s_zald, s_iast, s_zast, s_aaldS, s_aaldU, s_gets, s_tald, s_tsw, tsw, s_iret, s_zret, s_lret, s_aret, s_vret, s_callV, s_callS, c1, nl1, keepL, csum, pushR, inL, List.getD_cons_zero, List.getD_cons_succ, List.set_cons_zero, List.set_cons_succ, List.cons_append, List.nil_append, List.append_nil, List.replicate, List.length_cons, List.length_nil, List.take_succ_cons, List.take_zero, List.drop_succ_cons, List.drop_zero, List.reverse_cons, List.reverse_nil, true_and, and_true, forall_const, not_true_eq_false, not_false_eq_true, false_implies, true_implies, implies_true, one0, m10, Nat.reduceAdd, Nat.reduceSub, Nat.reduceLeDiff, Nat.zero_add, Nat.add_zero, fn_X12_fraction, fn_X12_has, fn_X12_hasAny, fn_X12_in, fn_X12_layTrial, fn_X12_noUser, fn_X12_ones, fn_X12_power, fn_X12_slotOn])
                exact ⟨⟨_, rfl⟩, ⟨_, _, rfl⟩, ⟨_, rfl⟩, ⟨_, _, rfl⟩, L132 _ (by rw [if_pos g]; rfl)⟩
              · exact L132 0 (by rw [if_neg g])
            | succ k ik =>
              intro t M2 ht hT2 hP2 hG2 e
              have hs := PG_so (f := hs1 (nI s) (nI t)) hP2 hG2
              (apply h63; simp only [BX12_fails_63, s_mth, s_mab, s_at, s_iconst, s_lconst, s_iload, s_lload, s_aload, s_istore, s_lstore, s_astore, s_iinc, s_bin, s_binG, s_un, s_lbin, s_lbinG, s_lsh, s_lcmp, s_i2l, s_l2i, s_dup, s_dup2, s_pop, s_if, s_icmp, s_geti, s_getl, s_getr, s_puti, s_putz, s_putl, s_iald, s_zald, s_iast, s_zast, s_aaldS, s_aaldU, s_gets, s_tald, s_tsw, tsw, s_iret, s_zret, s_lret, s_aret, s_vret, s_callV, s_callS, c1, nl1, keepL, csum, pushR, inL, List.getD_cons_zero, List.getD_cons_succ, List.set_cons_zero, List.set_cons_succ, List.cons_append, List.nil_append, List.append_nil, List.replicate, List.length_cons, List.length_nil, List.take_succ_cons, List.take_zero, List.drop_succ_cons, List.drop_zero, List.reverse_cons, List.reverse_nil, true_and, and_true, forall_const, not_true_eq_false, not_false_eq_true, false_implies, true_implies, implies_true, one0, m10, Nat.reduceAdd, Nat.reduceSub, Nat.reduceLeDiff, Nat.zero_add, Nat.add_zero, fn_X12_fraction, fn_X12_has, fn_X12_hasAny, fn_X12_in, fn_X12_layTrial, fn_X12_noUser, fn_X12_ones, fn_X12_power, fn_X12_slotOn])
              refine ⟨fun h => absurd h (nI_ge (by omega) (by omega)), fun _ => ⟨⟨_, _, rfl⟩, ⟨_, _, _, rfl, hP2, PG_0 hG2⟩, ?_⟩⟩
              rw [nI_1]
              exact ik (t + 1) _ (by omega) (TR_so hT2 hP2 (PG_0 hG2)) hs.1 hs.2 e
          (apply h48; simp only [BX12_fails_48, s_mth, s_mab, s_at, s_iconst, s_lconst, s_iload, s_lload, s_aload, s_istore, s_lstore, s_astore, s_iinc, s_bin, s_binG, s_un, s_lbin, s_lbinG, s_lsh, s_lcmp, s_i2l, s_l2i, s_dup, s_dup2, s_pop, s_if, s_icmp, s_geti, s_getl, s_getr, s_puti, s_putz, s_putl, s_iald, s_zald, s_iast, s_zast, s_aaldS, s_aaldU, s_gets, s_tald, s_tsw, tsw, s_iret, s_zret, s_lret, s_aret, s_vret, s_callV, s_callS, c1, nl1, keepL, csum, pushR, inL, List.getD_cons_zero, List.getD_cons_succ, List.set_cons_zero, List.set_cons_succ, List.cons_append, List.nil_append, List.append_nil, List.replicate, List.length_cons, List.length_nil, List.take_succ_cons, List.take_zero, List.drop_succ_cons, List.drop_zero, List.reverse_cons, List.reverse_nil, true_and, and_true, forall_const, not_true_eq_false, not_false_eq_true, false_implies, true_implies, implies_true, one0, m10, Nat.reduceAdd, Nat.reduceSub, Nat.reduceLeDiff, Nat.zero_add, Nat.add_zero, fn_X12_fraction, fn_X12_has, fn_X12_hasAny, fn_X12_in, fn_X12_layTrial, fn_X12_noUser, fn_X12_ones, fn_X12_power, fn_X12_slotOn])
          rw [shl1 _ hN]
          refine ⟨fun h => absurd h (nI_ge (by omega) (by omega)), fun _ => ⟨⟨_, rfl⟩, ?_⟩⟩
          exact inner N 0 _ (by omega) TR_lay (PM_lay hP') (PG_le (PG_lay hG') (by omega)) rfl
      unfold fl at hQ
      (apply h42; simp only [BX12_fails_42, s_mth, s_mab, s_at, s_iconst, s_lconst, s_iload, s_lload, s_aload, s_istore, s_lstore, s_astore, s_iinc, s_bin, s_binG, s_un, s_lbin, s_lbinG, s_lsh, s_lcmp, s_i2l, s_l2i, s_dup, s_dup2, s_pop, s_if, s_icmp, s_geti, s_getl, s_getr, s_puti, s_putz, s_putl, s_iald, s_zald, s_iast, s_zast, s_aaldS, s_aaldU, s_gets, s_tald, s_tsw, tsw, s_iret, s_zret, s_lret, s_aret, s_vret, s_callV, s_callS, c1, nl1, keepL, csum, pushR, inL, List.getD_cons_zero, List.getD_cons_succ, List.set_cons_zero, List.set_cons_succ, List.cons_append, List.nil_append, List.append_nil, List.replicate, List.length_cons, List.length_nil, List.take_succ_cons, List.take_zero, List.drop_succ_cons, List.drop_zero, List.reverse_cons, List.reverse_nil, true_and, and_true, forall_const, not_true_eq_false, not_false_eq_true, false_implies, true_implies, implies_true, one0, m10, Nat.reduceAdd, Nat.reduceSub, Nat.reduceLeDiff, Nat.zero_add, Nat.add_zero, fn_X12_fraction, fn_X12_has, fn_X12_hasAny, fn_X12_in, fn_X12_layTrial, fn_X12_noUser, fn_X12_ones, fn_X12_power, fn_X12_slotOn])
      exact loop (2 ^ N) 0 0 M0 (by omega) TR_r hQ
  · rw [if_neg h] at hQ; exact hQ
theorem ct_X12_fails (l : Launch) : Con l yX12_fails cX12_fails 8 (Option.some FieldType.int) 4 pre_X12_fails fn_X12_fails := con_of (by decide +kernel) ok_X12_fails len_X12_fails (fun p e s m args below meth c D ca ad A as M hX hr hp ho => pf_X12_fails _ _ (bsX12_fails_0 hX hr) (bsX12_fails_15 hX hr) (bsX12_fails_39 hX hr) (bsX12_fails_42 hX hr) (bsX12_fails_48 hX hr) (bsX12_fails_63 hX hr) (bsX12_fails_91 hX hr) (bsX12_fails_108 hX hr) (bsX12_fails_132 hX hr) (bsX12_fails_141 hX hr) as M ho hp ⟨rfl, rfl⟩)
def drX (M : mM) (s : Int64) : Nat := 10 * (rm (dw2 s / 16) (M.1 158 6)).toNatClampNeg + 4
def drT (M : mM) (s : Int64) : mM := if M.1 158 6 ≤ 0 then M else mset M 166 (drX M s) (if M.1 166 (drX M s) + rm (dw2 s) 10 ≤ 999 then M.1 166 (drX M s) + rm (dw2 s) 10 else 999)
def drM (M : mM) : mM := drT (lset M 158 (dw1 (M.2 158))) (dw1 (M.2 158))
def drS (_ : Nat) (q : Int32 × mM) : Int32 × mM := (q.1 + (so (drM q.2) 166 0).1, (so (drM q.2) 166 0).2)
def m_drawn (M : mM) (m : Int32) : Int32 × mM := if wi m 1 20 = 0 then (-2, M) else itr drS 0 m.toNatClampNeg (0, lay M)
theorem dr_ix {M : mM} (hP : PM M) (s : Int64) (h : ¬ M.1 158 6 ≤ 0) : ¬ M.1 158 6 = 0 ∧ ∃ j, j < nM M ∧ rm (dw2 s / 16) (M.1 158 6) = nI j := by
  obtain ⟨hn, en, -⟩ := nM_e hP
  obtain ⟨w, hw, e⟩ := dw2_v s
  have h0 : 0 < nM M := by
    rcases Nat.eq_zero_or_pos (nM M) with g | g
    · rw [en, g] at h
      exact absurd (by decide) h
    · exact g
  rw [en, e, show (16 : Int32) = nI 16 from rfl, pk_div hw (by decide) (by decide)]
  have hd : w / 16 < 2 ^ 31 := by omega
  refine ⟨nI_ne0 (by omega) (by omega), w / 16 % nM M, Nat.mod_lt _ h0, ?_⟩
  exact pk_rem hd h0 (by omega)
theorem drM_f {M : mM} {b : Nat} (hP : PM M) (hG : PG M 166 b) : PM (drM M) ∧ PG (drM M) 166 b := by
  have hn := (nM_e hP).1
  unfold drM drT
  split
  · exact ⟨hP, hG⟩
  · next h =>
    obtain ⟨-, j, hj, e⟩ := dr_ix (M := lset M 158 (dw1 (M.2 158))) hP (dw1 (M.2 158)) h
    have hj' : j < nM M := hj
    have ex : drX (lset M 158 (dw1 (M.2 158))) (dw1 (M.2 158)) = 10 * j + 4 := by unfold drX; rw [e, nI_clamp (by omega)]
    rw [ex]
    exact ⟨PM_mset (M := lset M 158 (dw1 (M.2 158))) hP (by decide) (by decide), PG_mset (M := lset M 158 (dw1 (M.2 158))) hG (by omega)⟩
def pre_X12_drawn (as : List mV) (M : mM) : Prop := ∃ c m, as = [.inr (.inr (12, c)), .inl m] ∧ MI M
def fn_X12_drawn : List mV → mM → Option mV × mM
  | [.inr (.inr (_, c)), .inl m], M => (some (.inl (m_drawn (m0 M) m).1), (m_drawn (m0 M) m).2)
  | _, M => (none, M)
theorem ok_X12_drawn (as : List mV) (M : mM) (h : pre_X12_drawn as M) (_ : ∀ v ∈ as, okV v) : okR (fn_X12_drawn as M).1 := by
  obtain ⟨c, m, rfl, -⟩ := h
  first | trivial | exact (by decide +kernel : kof 14 = 8)
theorem len_X12_drawn (as : List mV) (M : mM) (h : pre_X12_drawn as M) : (inL as).length ≤ 6 := by
  obtain ⟨c, m, rfl, -⟩ := h
  exact Nat.le_of_ble_eq_true rfl


theorem dX12_drawn_0 : decode cX12_drawn 0 = .ok (.aload_n 0, 1) := by decide +kernel
theorem dX12_drawn_1 : decode cX12_drawn 1 = .ok (.iconst 0, 1) := by decide +kernel
theorem dX12_drawn_2 : decode cX12_drawn 2 = .ok (.putfield 1, 3) := by decide +kernel
theorem dX12_drawn_5 : decode cX12_drawn 5 = .ok (.iload_n 1, 1) := by decide +kernel
theorem dX12_drawn_6 : decode cX12_drawn 6 = .ok (.i2l, 1) := by decide +kernel
theorem dX12_drawn_7 : decode cX12_drawn 7 = .ok (.lconst 1, 1) := by decide +kernel
theorem dX12_drawn_8 : decode cX12_drawn 8 = .ok (.ldc2_w 235, 3) := by decide +kernel
theorem dX12_drawn_11 : decode cX12_drawn 11 = .ok (.invokestatic 17, 3) := by decide +kernel
theorem dX12_drawn_14 : decode cX12_drawn 14 = .ok (.ifCond .ne 6, 3) := by decide +kernel
theorem dX12_drawn_17 : decode cX12_drawn 17 = .ok (.bipush (-2), 2) := by decide +kernel
theorem dX12_drawn_19 : decode cX12_drawn 19 = .ok (.ireturn, 1) := by decide +kernel
theorem dX12_drawn_20 : decode cX12_drawn 20 = .ok (.aload_n 0, 1) := by decide +kernel
theorem dX12_drawn_21 : decode cX12_drawn 21 = .ok (.invokevirtual 176, 3) := by decide +kernel
theorem dX12_drawn_24 : decode cX12_drawn 24 = .ok (.iconst 0, 1) := by decide +kernel
theorem dX12_drawn_25 : decode cX12_drawn 25 = .ok (.istore_n 2, 1) := by decide +kernel
theorem dX12_drawn_26 : decode cX12_drawn 26 = .ok (.iconst 0, 1) := by decide +kernel
theorem dX12_drawn_27 : decode cX12_drawn 27 = .ok (.istore_n 3, 1) := by decide +kernel
theorem dX12_drawn_28 : decode cX12_drawn 28 = .ok (.iload_n 3, 1) := by decide +kernel
theorem dX12_drawn_29 : decode cX12_drawn 29 = .ok (.iload_n 1, 1) := by decide +kernel
theorem dX12_drawn_30 : decode cX12_drawn 30 = .ok (.if_icmp .ge 116, 3) := by decide +kernel
theorem dX12_drawn_33 : decode cX12_drawn 33 = .ok (.aload_n 0, 1) := by decide +kernel
theorem dX12_drawn_34 : decode cX12_drawn 34 = .ok (.aload_n 0, 1) := by decide +kernel
theorem dX12_drawn_35 : decode cX12_drawn 35 = .ok (.getfield 231, 3) := by decide +kernel
theorem dX12_drawn_38 : decode cX12_drawn 38 = .ok (.ldc2_w 237, 3) := by decide +kernel
theorem dX12_drawn_41 : decode cX12_drawn 41 = .ok (.lmul, 1) := by decide +kernel
theorem dX12_drawn_42 : decode cX12_drawn 42 = .ok (.ldc2_w 239, 3) := by decide +kernel
theorem dX12_drawn_45 : decode cX12_drawn 45 = .ok (.ladd, 1) := by decide +kernel
theorem dX12_drawn_46 : decode cX12_drawn 46 = .ok (.putfield 231, 3) := by decide +kernel
theorem dX12_drawn_49 : decode cX12_drawn 49 = .ok (.aload_n 0, 1) := by decide +kernel
theorem dX12_drawn_50 : decode cX12_drawn 50 = .ok (.getfield 231, 3) := by decide +kernel
theorem dX12_drawn_53 : decode cX12_drawn 53 = .ok (.bipush 33, 2) := by decide +kernel
theorem dX12_drawn_55 : decode cX12_drawn 55 = .ok (.lushr, 1) := by decide +kernel
theorem dX12_drawn_56 : decode cX12_drawn 56 = .ok (.l2i, 1) := by decide +kernel
theorem dX12_drawn_57 : decode cX12_drawn 57 = .ok (.istore 4, 2) := by decide +kernel
theorem dX12_drawn_59 : decode cX12_drawn 59 = .ok (.aload_n 0, 1) := by decide +kernel
theorem dX12_drawn_60 : decode cX12_drawn 60 = .ok (.getfield 14, 3) := by decide +kernel
theorem dX12_drawn_63 : decode cX12_drawn 63 = .ok (.ifCond .le 65, 3) := by decide +kernel
theorem dX12_drawn_66 : decode cX12_drawn 66 = .ok (.bipush 10, 2) := by decide +kernel
theorem dX12_drawn_68 : decode cX12_drawn 68 = .ok (.iload 4, 2) := by decide +kernel
theorem dX12_drawn_70 : decode cX12_drawn 70 = .ok (.bipush 16, 2) := by decide +kernel
theorem dX12_drawn_72 : decode cX12_drawn 72 = .ok (.idiv, 1) := by decide +kernel
theorem dX12_drawn_73 : decode cX12_drawn 73 = .ok (.aload_n 0, 1) := by decide +kernel
theorem dX12_drawn_74 : decode cX12_drawn 74 = .ok (.getfield 14, 3) := by decide +kernel
theorem dX12_drawn_77 : decode cX12_drawn 77 = .ok (.irem, 1) := by decide +kernel
theorem dX12_drawn_78 : decode cX12_drawn 78 = .ok (.imul, 1) := by decide +kernel
theorem dX12_drawn_79 : decode cX12_drawn 79 = .ok (.iconst 4, 1) := by decide +kernel
theorem dX12_drawn_80 : decode cX12_drawn 80 = .ok (.iadd, 1) := by decide +kernel
theorem dX12_drawn_81 : decode cX12_drawn 81 = .ok (.istore 5, 2) := by decide +kernel
theorem dX12_drawn_83 : decode cX12_drawn 83 = .ok (.aload_n 0, 1) := by decide +kernel
theorem dX12_drawn_84 : decode cX12_drawn 84 = .ok (.getfield 7, 3) := by decide +kernel
theorem dX12_drawn_87 : decode cX12_drawn 87 = .ok (.iload 5, 2) := by decide +kernel
theorem dX12_drawn_89 : decode cX12_drawn 89 = .ok (.aload_n 0, 1) := by decide +kernel
theorem dX12_drawn_90 : decode cX12_drawn 90 = .ok (.getfield 7, 3) := by decide +kernel
theorem dX12_drawn_93 : decode cX12_drawn 93 = .ok (.iload 5, 2) := by decide +kernel
theorem dX12_drawn_95 : decode cX12_drawn 95 = .ok (.iaload, 1) := by decide +kernel
theorem dX12_drawn_96 : decode cX12_drawn 96 = .ok (.iload 4, 2) := by decide +kernel
theorem dX12_drawn_98 : decode cX12_drawn 98 = .ok (.bipush 10, 2) := by decide +kernel
theorem dX12_drawn_100 : decode cX12_drawn 100 = .ok (.irem, 1) := by decide +kernel
theorem dX12_drawn_101 : decode cX12_drawn 101 = .ok (.iadd, 1) := by decide +kernel
theorem dX12_drawn_102 : decode cX12_drawn 102 = .ok (.sipush 999, 3) := by decide +kernel
theorem dX12_drawn_105 : decode cX12_drawn 105 = .ok (.if_icmp .le 9, 3) := by decide +kernel
theorem dX12_drawn_108 : decode cX12_drawn 108 = .ok (.sipush 999, 3) := by decide +kernel
theorem dX12_drawn_111 : decode cX12_drawn 111 = .ok (.goto 16, 3) := by decide +kernel
theorem dX12_drawn_114 : decode cX12_drawn 114 = .ok (.aload_n 0, 1) := by decide +kernel
theorem dX12_drawn_115 : decode cX12_drawn 115 = .ok (.getfield 7, 3) := by decide +kernel
theorem dX12_drawn_118 : decode cX12_drawn 118 = .ok (.iload 5, 2) := by decide +kernel
theorem dX12_drawn_120 : decode cX12_drawn 120 = .ok (.iaload, 1) := by decide +kernel
theorem dX12_drawn_121 : decode cX12_drawn 121 = .ok (.iload 4, 2) := by decide +kernel
theorem dX12_drawn_123 : decode cX12_drawn 123 = .ok (.bipush 10, 2) := by decide +kernel
theorem dX12_drawn_125 : decode cX12_drawn 125 = .ok (.irem, 1) := by decide +kernel
theorem dX12_drawn_126 : decode cX12_drawn 126 = .ok (.iadd, 1) := by decide +kernel
theorem dX12_drawn_127 : decode cX12_drawn 127 = .ok (.iastore, 1) := by decide +kernel
theorem dX12_drawn_128 : decode cX12_drawn 128 = .ok (.iload_n 2, 1) := by decide +kernel
theorem dX12_drawn_129 : decode cX12_drawn 129 = .ok (.aload_n 0, 1) := by decide +kernel
theorem dX12_drawn_130 : decode cX12_drawn 130 = .ok (.aload_n 0, 1) := by decide +kernel
theorem dX12_drawn_131 : decode cX12_drawn 131 = .ok (.getfield 7, 3) := by decide +kernel
theorem dX12_drawn_134 : decode cX12_drawn 134 = .ok (.iconst 0, 1) := by decide +kernel
theorem dX12_drawn_135 : decode cX12_drawn 135 = .ok (.invokevirtual 152, 3) := by decide +kernel
theorem dX12_drawn_138 : decode cX12_drawn 138 = .ok (.iadd, 1) := by decide +kernel
theorem dX12_drawn_139 : decode cX12_drawn 139 = .ok (.istore_n 2, 1) := by decide +kernel
theorem dX12_drawn_140 : decode cX12_drawn 140 = .ok (.iinc 3 1, 3) := by decide +kernel
theorem dX12_drawn_143 : decode cX12_drawn 143 = .ok (.goto (-115), 3) := by decide +kernel
theorem dX12_drawn_146 : decode cX12_drawn 146 = .ok (.iload_n 2, 1) := by decide +kernel
theorem dX12_drawn_147 : decode cX12_drawn 147 = .ok (.ireturn, 1) := by decide +kernel
theorem mk_X12_drawn : MVk yX12_drawn "FairBlocksModel" cX12_drawn 6 (Option.some FieldType.int) 1 := ⟨w_1039, w_1037, w_1038, w_13, rfl, by decide +kernel, by decide +kernel, by decide +kernel⟩
def BX12_drawn_0 (G : Nat → KT) (Q : Option mV → mM → Prop) : KT := (s_aload 0 (s_iconst (0) (s_puti 12 0 (s_iload 1 (s_i2l (s_lconst 1 (s_lconst (20) (s_callS 3 pre_X12_in fn_X12_in (s_if (fun x => x = 0) ((s_iconst (-2) (s_iret Q))) (s_at G 20 [true, true, false, false, false, false]))))))))))
set_option maxRecDepth 4000 in
theorem bsX12_drawn_0 {p : Program} {l : Launch} {e : Env} {s : State} {m : MethodId} {args : Array Value} {below : List Frame} {meth : Method} {c : Code} {D : va_G} {ca : Nat → ClassId} {ad : Nat → Nat} {A : Nat → Prop} {Q : Option mV → mM → Prop} (hX : CX p s m args meth c 6 cX12_drawn "FairBlocksModel" D ca ad A) (hr : meth.sig.returnType = (Option.some FieldType.int)) : ∀ lv st M, BX12_drawn_0 (Gd p l e (rmD 4) s m args below meth c 6 D ca ad A 0 0 (MQ below (QC D ca ad A Q) args s 0 0 A)) Q lv st M → Gd p l e (rmD 4) s m args below meth c 6 D ca ad A 0 0 (MQ below (QC D ca ad A Q) args s 0 0 A) 0 lv st M :=
  (sd_aload_n hX dX12_drawn_0 rfl (sd_iconst hX dX12_drawn_1 rfl (sd_puti hX fp_723 dX12_drawn_2 (sd_iload_n hX dX12_drawn_5 rfl (sd_i2l hX dX12_drawn_6 (sd_lconst hX dX12_drawn_7 rfl (sd_ldc2 hX w_1040 dX12_drawn_8 (sd_callS hX (ct_X12_in l) mk_X12_in w_825 ⟨⟨by decide, by decide⟩, by decide, by decide⟩ dX12_drawn_11 (sd_if_ne hX dX12_drawn_14 (by decide) sd_at (sd_bipush hX dX12_drawn_17 rfl (sd_iret hX hr dX12_drawn_19)))))))))))
def BX12_drawn_20 (G : Nat → KT) (Q : Option mV → mM → Prop) : KT := (s_aload 0 (s_callV 12 0 pre_X12_layTrial fn_X12_layTrial (s_iconst (0) (s_istore 2 (s_iconst (0) (s_istore 3 (s_at G 28 [true, true, true, true, false, false])))))))
set_option maxRecDepth 4000 in
theorem bsX12_drawn_20 {p : Program} {l : Launch} {e : Env} {s : State} {m : MethodId} {args : Array Value} {below : List Frame} {meth : Method} {c : Code} {D : va_G} {ca : Nat → ClassId} {ad : Nat → Nat} {A : Nat → Prop} {Q : Option mV → mM → Prop} (hX : CX p s m args meth c 6 cX12_drawn "FairBlocksModel" D ca ad A) (hr : meth.sig.returnType = (Option.some FieldType.int)) : ∀ lv st M, BX12_drawn_20 (Gd p l e (rmD 4) s m args below meth c 6 D ca ad A 0 0 (MQ below (QC D ca ad A Q) args s 0 0 A)) Q lv st M → Gd p l e (rmD 4) s m args below meth c 6 D ca ad A 0 0 (MQ below (QC D ca ad A Q) args s 0 0 A) 20 lv st M :=
  (sd_aload_n hX dX12_drawn_20 rfl (sd_callV hX (kd := 12) rfl (by decide) (ct_X12_layTrial l) mk_X12_layTrial w_940 ⟨⟨by decide, by decide⟩, by decide, by decide⟩ dX12_drawn_21 (sd_iconst hX dX12_drawn_24 rfl (sd_istore_n hX (by decide) dX12_drawn_25 rfl (sd_iconst hX dX12_drawn_26 rfl (sd_istore_n hX (by decide) dX12_drawn_27 rfl sd_at))))))
def BX12_drawn_28 (G : Nat → KT) (Q : Option mV → mM → Prop) : KT := (s_iload 3 (s_iload 1 (s_icmp (fun x y => y ≤ x) (s_at G 146 [false, false, true, false, false, false]) (s_aload 0 (s_aload 0 (s_getl 12 (s_lconst (6364136223846793005) (s_lbin (fun x y => x * y) (s_lconst (1442695040888963407) (s_lbin (fun x y => x + y) (s_putl 12 (s_aload 0 (s_getl 12 (s_iconst (33) (s_lsh (fun x y => (x.toUInt64 >>> (y.toInt64.toUInt64 &&& Int64.toUInt64 63)).toInt64) (s_l2i (s_istore 4 (s_aload 0 (s_geti 12 6 (s_if (fun x => x ≤ 0) (s_at G 128 [true, true, true, true, false, false]) (s_iconst (10) (s_iload 4 (s_iconst (16) (s_binG (fun x y => x / y) (s_aload 0 (s_geti 12 6 (s_binG (fun x y => x - x / y * y) (s_bin (fun x y => x * y) (s_iconst (4) (s_bin (fun x y => x + y) (s_istore 5 (s_aload 0 (s_getr 12 13 (fun _ => 166) (s_iload 5 (s_aload 0 (s_getr 12 13 (fun _ => 166) (s_iload 5 (s_iald (s_iload 4 (s_iconst (10) (s_binG (fun x y => x - x / y * y) (s_bin (fun x y => x + y) (s_iconst (999) (s_icmp (fun x y => x ≤ y) (s_at G 114 [true, true, true, true, true, true]) (s_iconst (999) (s_at G 127 [true, true, true, true, false, false]))))))))))))))))))))))))))))))))))))))))))))))
set_option maxRecDepth 4000 in
theorem bsX12_drawn_28 {p : Program} {l : Launch} {e : Env} {s : State} {m : MethodId} {args : Array Value} {below : List Frame} {meth : Method} {c : Code} {D : va_G} {ca : Nat → ClassId} {ad : Nat → Nat} {A : Nat → Prop} {Q : Option mV → mM → Prop} (hX : CX p s m args meth c 6 cX12_drawn "FairBlocksModel" D ca ad A) (hr : meth.sig.returnType = (Option.some FieldType.int)) : ∀ lv st M, BX12_drawn_28 (Gd p l e (rmD 4) s m args below meth c 6 D ca ad A 0 0 (MQ below (QC D ca ad A Q) args s 0 0 A)) Q lv st M → Gd p l e (rmD 4) s m args below meth c 6 D ca ad A 0 0 (MQ below (QC D ca ad A Q) args s 0 0 A) 28 lv st M :=
  (sd_iload_n hX dX12_drawn_28 rfl (sd_iload_n hX dX12_drawn_29 rfl (sd_icmp_ge hX dX12_drawn_30 (by decide) sd_at (sd_aload_n hX dX12_drawn_33 rfl (sd_aload_n hX dX12_drawn_34 rfl (sd_getl hX fl_752 dX12_drawn_35 (sd_ldc2 hX w_1041 dX12_drawn_38 (sd_lmul hX dX12_drawn_41 (sd_ldc2 hX w_1042 dX12_drawn_42 (sd_ladd hX dX12_drawn_45 (sd_putl hX fp_752 l1_12 dX12_drawn_46 (sd_aload_n hX dX12_drawn_49 rfl (sd_getl hX fl_752 dX12_drawn_50 (sd_bipush hX dX12_drawn_53 rfl (sd_lushr hX dX12_drawn_55 (sd_l2i hX dX12_drawn_56 (sd_istore hX (by decide) dX12_drawn_57 (sd_aload_n hX dX12_drawn_59 rfl (sd_geti hX fl_729 (by decide) dX12_drawn_60 (sd_if_le hX dX12_drawn_63 (by decide) sd_at (sd_bipush hX dX12_drawn_66 rfl (sd_iload hX dX12_drawn_68 (sd_bipush hX dX12_drawn_70 rfl (sd_idiv hX dX12_drawn_72 (sd_aload_n hX dX12_drawn_73 rfl (sd_geti hX fl_729 (by decide) dX12_drawn_74 (sd_irem hX dX12_drawn_77 (sd_imul hX dX12_drawn_78 (sd_iconst hX dX12_drawn_79 rfl (sd_iadd hX dX12_drawn_80 (sd_istore hX (by decide) dX12_drawn_81 (sd_aload_n hX dX12_drawn_83 rfl (sd_getr hX fl_740 (fun _ => rfl) (fun _ _ _ => by decide +kernel) dX12_drawn_84 (sd_iload hX dX12_drawn_87 (sd_aload_n hX dX12_drawn_89 rfl (sd_getr hX fl_740 (fun _ => rfl) (fun _ _ _ => by decide +kernel) dX12_drawn_90 (sd_iload hX dX12_drawn_93 (sd_iald hX dX12_drawn_95 (sd_iload hX dX12_drawn_96 (sd_bipush hX dX12_drawn_98 rfl (sd_irem hX dX12_drawn_100 (sd_iadd hX dX12_drawn_101 (sd_sipush hX dX12_drawn_102 rfl (sd_icmp_le hX dX12_drawn_105 (by decide) sd_at (sd_sipush hX dX12_drawn_108 rfl (sd_goto hX dX12_drawn_111 (by decide) sd_at))))))))))))))))))))))))))))))))))))))))))))))
def BX12_drawn_114 (G : Nat → KT) (Q : Option mV → mM → Prop) : KT := (s_aload 0 (s_getr 12 13 (fun _ => 166) (s_iload 5 (s_iald (s_iload 4 (s_iconst (10) (s_binG (fun x y => x - x / y * y) (s_bin (fun x y => x + y) (s_at G 127 [true, true, true, true, false, false])))))))))
set_option maxRecDepth 4000 in
theorem bsX12_drawn_114 {p : Program} {l : Launch} {e : Env} {s : State} {m : MethodId} {args : Array Value} {below : List Frame} {meth : Method} {c : Code} {D : va_G} {ca : Nat → ClassId} {ad : Nat → Nat} {A : Nat → Prop} {Q : Option mV → mM → Prop} (hX : CX p s m args meth c 6 cX12_drawn "FairBlocksModel" D ca ad A) (hr : meth.sig.returnType = (Option.some FieldType.int)) : ∀ lv st M, BX12_drawn_114 (Gd p l e (rmD 4) s m args below meth c 6 D ca ad A 0 0 (MQ below (QC D ca ad A Q) args s 0 0 A)) Q lv st M → Gd p l e (rmD 4) s m args below meth c 6 D ca ad A 0 0 (MQ below (QC D ca ad A Q) args s 0 0 A) 114 lv st M :=
  (sd_aload_n hX dX12_drawn_114 rfl (sd_getr hX fl_740 (fun _ => rfl) (fun _ _ _ => by decide +kernel) dX12_drawn_115 (sd_iload hX dX12_drawn_118 (sd_iald hX dX12_drawn_120 (sd_iload hX dX12_drawn_121 (sd_bipush hX dX12_drawn_123 rfl (sd_irem hX dX12_drawn_125 (sd_iadd hX dX12_drawn_126 sd_at))))))))
def BX12_drawn_127 (G : Nat → KT) (Q : Option mV → mM → Prop) : KT := (s_iast (s_at G 128 [true, true, true, true, false, false]))
set_option maxRecDepth 4000 in
theorem bsX12_drawn_127 {p : Program} {l : Launch} {e : Env} {s : State} {m : MethodId} {args : Array Value} {below : List Frame} {meth : Method} {c : Code} {D : va_G} {ca : Nat → ClassId} {ad : Nat → Nat} {A : Nat → Prop} {Q : Option mV → mM → Prop} (hX : CX p s m args meth c 6 cX12_drawn "FairBlocksModel" D ca ad A) (hr : meth.sig.returnType = (Option.some FieldType.int)) : ∀ lv st M, BX12_drawn_127 (Gd p l e (rmD 4) s m args below meth c 6 D ca ad A 0 0 (MQ below (QC D ca ad A Q) args s 0 0 A)) Q lv st M → Gd p l e (rmD 4) s m args below meth c 6 D ca ad A 0 0 (MQ below (QC D ca ad A Q) args s 0 0 A) 127 lv st M :=
  (sd_iast hX dX12_drawn_127 sd_at)
def BX12_drawn_128 (G : Nat → KT) (Q : Option mV → mM → Prop) : KT := (s_iload 2 (s_aload 0 (s_aload 0 (s_getr 12 13 (fun _ => 166) (s_iconst (0) (s_callV 12 2 pre_X12_slotOn fn_X12_slotOn (s_bin (fun x y => x + y) (s_istore 2 (s_iinc 3 (1) (s_at G 28 [true, true, true, true, false, false]))))))))))
set_option maxRecDepth 4000 in
theorem bsX12_drawn_128 {p : Program} {l : Launch} {e : Env} {s : State} {m : MethodId} {args : Array Value} {below : List Frame} {meth : Method} {c : Code} {D : va_G} {ca : Nat → ClassId} {ad : Nat → Nat} {A : Nat → Prop} {Q : Option mV → mM → Prop} (hX : CX p s m args meth c 6 cX12_drawn "FairBlocksModel" D ca ad A) (hr : meth.sig.returnType = (Option.some FieldType.int)) : ∀ lv st M, BX12_drawn_128 (Gd p l e (rmD 4) s m args below meth c 6 D ca ad A 0 0 (MQ below (QC D ca ad A Q) args s 0 0 A)) Q lv st M → Gd p l e (rmD 4) s m args below meth c 6 D ca ad A 0 0 (MQ below (QC D ca ad A Q) args s 0 0 A) 128 lv st M :=
  (sd_iload_n hX dX12_drawn_128 rfl (sd_aload_n hX dX12_drawn_129 rfl (sd_aload_n hX dX12_drawn_130 rfl (sd_getr hX fl_740 (fun _ => rfl) (fun _ _ _ => by decide +kernel) dX12_drawn_131 (sd_iconst hX dX12_drawn_134 rfl (sd_callV hX (kd := 12) rfl (by decide) (ct_X12_slotOn l) mk_X12_slotOn w_882 ⟨⟨by decide, by decide⟩, by decide, by decide⟩ dX12_drawn_135 (sd_iadd hX dX12_drawn_138 (sd_istore_n hX (by decide) dX12_drawn_139 rfl (sd_iinc hX (by decide) dX12_drawn_140 rfl (sd_goto hX dX12_drawn_143 (by decide) sd_at))))))))))
def BX12_drawn_146 (G : Nat → KT) (Q : Option mV → mM → Prop) : KT := (s_iload 2 (s_iret Q))
set_option maxRecDepth 4000 in
theorem bsX12_drawn_146 {p : Program} {l : Launch} {e : Env} {s : State} {m : MethodId} {args : Array Value} {below : List Frame} {meth : Method} {c : Code} {D : va_G} {ca : Nat → ClassId} {ad : Nat → Nat} {A : Nat → Prop} {Q : Option mV → mM → Prop} (hX : CX p s m args meth c 6 cX12_drawn "FairBlocksModel" D ca ad A) (hr : meth.sig.returnType = (Option.some FieldType.int)) : ∀ lv st M, BX12_drawn_146 (Gd p l e (rmD 4) s m args below meth c 6 D ca ad A 0 0 (MQ below (QC D ca ad A Q) args s 0 0 A)) Q lv st M → Gd p l e (rmD 4) s m args below meth c 6 D ca ad A 0 0 (MQ below (QC D ca ad A Q) args s 0 0 A) 146 lv st M :=
  (sd_iload_n hX dX12_drawn_146 rfl (sd_iret hX hr dX12_drawn_147))
set_option maxHeartbeats 400000 in
theorem pf_X12_drawn (G : Nat → KT) (Q : Option mV → mM → Prop) (h0 : ∀ lv st M, BX12_drawn_0 G Q lv st M → G 0 lv st M) (h20 : ∀ lv st M, BX12_drawn_20 G Q lv st M → G 20 lv st M) (h28 : ∀ lv st M, BX12_drawn_28 G Q lv st M → G 28 lv st M) (h114 : ∀ lv st M, BX12_drawn_114 G Q lv st M → G 114 lv st M) (h127 : ∀ lv st M, BX12_drawn_127 G Q lv st M → G 127 lv st M) (h128 : ∀ lv st M, BX12_drawn_128 G Q lv st M → G 128 lv st M) (h146 : ∀ lv st M, BX12_drawn_146 G Q lv st M → G 146 lv st M) (as : List mV) (M : mM) (ho : ∀ v ∈ as, okV v) (hp : pre_X12_drawn as M) (hQ : Q (fn_X12_drawn as M).1 (fn_X12_drawn as M).2) : G 0 (inL as ++ List.replicate (6 - (inL as).length) none) [] M := by
  obtain ⟨c, m, rfl, hM⟩ := hp
  obtain rfl : c = 158 := k12 (ho (.inr (.inr (12, c))) (by simp))
  have hI := MI_0 hM
  have e : iL m.toInt64 1 20 = wi m 1 20 := iLw m 1 20
  simp only [fn_X12_drawn, m_drawn] at hQ
  (apply h0; simp only [BX12_drawn_0, s_mth, s_mab, s_at, s_iconst, s_lconst, s_iload, s_lload, s_aload, s_istore, s_lstore, s_astore, s_iinc, s_bin, s_binG, s_un, s_lbin, s_lbinG, s_lsh, s_lcmp, s_i2l, s_l2i, s_dup, s_dup2, s_pop, s_if, s_icmp, s_geti, s_getl, s_getr, s_puti, s_putz, s_putl, s_iald, s_zald, s_iast, s_zast, s_aaldS, s_aaldU, s_gets, s_tald, s_tsw, tsw, s_iret, s_zret, s_lret, s_aret, s_vret, s_callV, s_callS, c1, nl1, keepL, csum, pushR, inL, List.getD_cons_zero, List.getD_cons_succ, List.set_cons_zero, List.set_cons_succ, List.cons_append, List.nil_append, List.append_nil, List.replicate, List.length_cons, List.length_nil, List.take_succ_cons, List.take_zero, List.drop_succ_cons, List.drop_zero, List.reverse_cons, List.reverse_nil, true_and, and_true, forall_const, not_true_eq_false, not_false_eq_true, false_implies, true_implies, implies_true, one0, m10, Nat.reduceAdd, Nat.reduceSub, Nat.reduceLeDiff, Nat.zero_add, Nat.add_zero, fn_X12_in, fn_X12_layTrial, fn_X12_slotOn])
  rw [show mset M 158 0 0 = m0 M from rfl, e]
  generalize m0 M = M0 at *
  refine ⟨⟨_, _, _, rfl⟩, fun h => ?_, fun h => ?_⟩
  · rw [if_pos h] at hQ; exact hQ
  · rw [if_neg h] at hQ
    obtain ⟨N, -, hN, rfl⟩ := wi_g (d := 1) (c := 20) rfl rfl (by decide) (by decide) h
    rw [nI_clamp (by omega : N < 2 ^ 31)] at hQ
    have loop : ∀ (n i : Nat) (t : Int32) (M' : mM), i + n = N → PM M' → PG M' 166 n → Q (some (.inl (itr drS i n (t, M')).1)) (itr drS i n (t, M')).2 → G 28 [some (.inr (.inr (12, 158))), some (.inl (nI N)), some (.inl t), some (.inl (nI i)), none, none] [] M' := by
      intro n
      induction n with
      | zero =>
        intro i t M' hi hP hG hq
        (apply h28; simp only [BX12_drawn_28, s_mth, s_mab, s_at, s_iconst, s_lconst, s_iload, s_lload, s_aload, s_istore, s_lstore, s_astore, s_iinc, s_bin, s_binG, s_un, s_lbin, s_lbinG, s_lsh, s_lcmp, s_i2l, s_l2i, s_dup, s_dup2, s_pop, s_if, s_icmp, s_geti, s_getl, s_getr, s_puti, s_putz, s_putl, s_iald, s_zald, s_iast, s_zast, s_aaldS, s_aaldU, s_gets, s_tald, s_tsw, tsw, s_iret, s_zret, s_lret, s_aret, s_vret, s_callV, s_callS, c1, nl1, keepL, csum, pushR, inL, List.getD_cons_zero, List.getD_cons_succ, List.set_cons_zero, List.set_cons_succ, List.cons_append, List.nil_append, List.append_nil, List.replicate, List.length_cons, List.length_nil, List.take_succ_cons, List.take_zero, List.drop_succ_cons, List.drop_zero, List.reverse_cons, List.reverse_nil, true_and, and_true, forall_const, not_true_eq_false, not_false_eq_true, false_implies, true_implies, implies_true, one0, m10, Nat.reduceAdd, Nat.reduceSub, Nat.reduceLeDiff, Nat.zero_add, Nat.add_zero, fn_X12_in, fn_X12_layTrial, fn_X12_slotOn])
        refine ⟨fun _ => ?_, fun h => absurd (nI_le (by omega) (by omega)) h⟩
        (apply h146; simp only [BX12_drawn_146, s_mth, s_mab, s_at, s_iconst, s_lconst, s_iload, s_lload, s_aload, s_istore, s_lstore, s_astore, s_iinc, s_bin, s_binG, s_un, s_lbin, s_lbinG, s_lsh, s_lcmp, s_i2l, s_l2i, s_dup, s_dup2, s_pop, s_if, s_icmp, s_geti, s_getl, s_getr, s_puti, s_putz, s_putl, s_iald, s_zald, s_iast, s_zast, s_aaldS, s_aaldU, s_gets, s_tald, s_tsw, tsw, s_iret, s_zret, s_lret, s_aret, s_vret, s_callV, s_callS, c1, nl1, keepL, csum, pushR, inL, List.getD_cons_zero, List.getD_cons_succ, List.set_cons_zero, List.set_cons_succ, List.cons_append, List.nil_append, List.append_nil, List.replicate, List.length_cons, List.length_nil, List.take_succ_cons, List.take_zero, List.drop_succ_cons, List.drop_zero, List.reverse_cons, List.reverse_nil, true_and, and_true, forall_const, not_true_eq_false, not_false_eq_true, false_implies, true_implies, implies_true, one0, m10, Nat.reduceAdd, Nat.reduceSub, Nat.reduceLeDiff, Nat.zero_add, Nat.add_zero, fn_X12_in, fn_X12_layTrial, fn_X12_slotOn])
        exact hq
      | succ n ih =>
        intro i t M' hi hP hG hq
        have hd := drM_f hP hG
        have hs := PG_so (f := 0) hd.1 hd.2
        have hn := (nM_e hP).1
        have L128 : ∀ M2, M2 = drM M' → G 128 [some (.inr (.inr (12, 158))), some (.inl (nI N)), some (.inl t), some (.inl (nI i)), none, none] [] M2 := by
          rintro _ rfl
          (apply h128; simp only [BX12_drawn_128, s_mth, s_mab, s_at, s_iconst, s_lconst, s_iload, s_lload, s_aload, s_istore, s_lstore, s_astore, s_iinc, s_bin, s_binG, s_un, s_lbin, s_lbinG, s_lsh, s_lcmp, s_i2l, s_l2i, s_dup, s_dup2, s_pop, s_if, s_icmp, s_geti, s_getl, s_getr, s_puti, s_putz, s_putl, s_iald, s_zald, s_iast, s_zast, s_aaldS, s_aaldU, s_gets, s_tald, s_tsw, tsw, s_iret, s_zret, s_lret, s_aret, s_vret, s_callV, s_callS, c1, nl1, keepL, csum, pushR, inL, List.getD_cons_zero, List.getD_cons_succ, List.set_cons_zero, List.set_cons_succ, List.cons_append, List.nil_append, List.append_nil, List.replicate, List.length_cons, List.length_nil, List.take_succ_cons, List.take_zero, List.drop_succ_cons, List.drop_zero, List.reverse_cons, List.reverse_nil, true_and, and_true, forall_const, not_true_eq_false, not_false_eq_true, false_implies, true_implies, implies_true, one0, m10, Nat.reduceAdd, Nat.reduceSub, Nat.reduceLeDiff, Nat.zero_add, Nat.add_zero, fn_X12_in, fn_X12_layTrial, fn_X12_slotOn])
          refine ⟨⟨_, _, _, rfl, hd.1, PG_0 hd.2⟩, ?_⟩
          rw [nI_1]
          exact ih (i + 1) _ _ (by omega) hs.1 hs.2 hq
        unfold drM at L128
        have L128' : ∀ M2 s, s = dw1 (M'.2 158) → M2 = drT (lset M' 158 s) s → G 128 [some (.inr (.inr (12, 158))), some (.inl (nI N)), some (.inl t), some (.inl (nI i)), none, none] [] M2 := by
          rintro M2 s rfl e
          exact L128 M2 e
        (apply h28; simp only [BX12_drawn_28, s_mth, s_mab, s_at, s_iconst, s_lconst, s_iload, s_lload, s_aload, s_istore, s_lstore, s_astore, s_iinc, s_bin, s_binG, s_un, s_lbin, s_lbinG, s_lsh, s_lcmp, s_i2l, s_l2i, s_dup, s_dup2, s_pop, s_if, s_icmp, s_geti, s_getl, s_getr, s_puti, s_putz, s_putl, s_iald, s_zald, s_iast, s_zast, s_aaldS, s_aaldU, s_gets, s_tald, s_tsw, tsw, s_iret, s_zret, s_lret, s_aret, s_vret, s_callV, s_callS, c1, nl1, keepL, csum, pushR, inL, List.getD_cons_zero, List.getD_cons_succ, List.set_cons_zero, List.set_cons_succ, List.cons_append, List.nil_append, List.append_nil, List.replicate, List.length_cons, List.length_nil, List.take_succ_cons, List.take_zero, List.drop_succ_cons, List.drop_zero, List.reverse_cons, List.reverse_nil, true_and, and_true, forall_const, not_true_eq_false, not_false_eq_true, false_implies, true_implies, implies_true, one0, m10, Nat.reduceAdd, Nat.reduceSub, Nat.reduceLeDiff, Nat.zero_add, Nat.add_zero, fn_X12_in, fn_X12_layTrial, fn_X12_slotOn])
        rw [lset_2, if_pos rfl]
        rw [show M'.2 158 * 6364136223846793005 + 1442695040888963407 = dw1 (M'.2 158) from rfl]
        generalize hs1e : dw1 (M'.2 158) = s at *
        rw [show (s.toUInt64 >>> ((33 : Int32).toInt64.toUInt64 &&& Int64.toUInt64 63)).toInt64.toInt32 = dw2 s from rfl]
        rw [show (lset M' 158 s).1 158 6 = M'.1 158 6 from rfl]
        rw [show dw2 s / 16 - dw2 s / 16 / M'.1 158 6 * M'.1 158 6 = rm (dw2 s / 16) (M'.1 158 6) from rfl]
        rw [show dw2 s - dw2 s / 10 * 10 = rm (dw2 s) 10 from rfl]
        refine ⟨fun h => absurd h (nI_ge (by omega) (by omega)), fun _ => ⟨fun h2 => ?_, fun h2 => ?_⟩⟩
        · exact L128' _ s rfl (by unfold drT; exact (if_pos h2).symm)
        · obtain ⟨hne, j, hj, ej⟩ := dr_ix hP s h2
          have hj5 : j < 5 := by omega
          rw [ej]
          have x0 : ((10 : Int32) * nI j + 0).toNatClampNeg = 10 * j + 0 := cx hj5 0 (by decide)
          have v0 : vp_in ((10 : Int32) * nI j + 0) 52 := vx hj5 0 (by decide)
          have x1 : ((10 : Int32) * nI j + 1).toNatClampNeg = 10 * j + 1 := cx hj5 1 (by decide)
          have v1 : vp_in ((10 : Int32) * nI j + 1) 52 := vx hj5 1 (by decide)
          have x2 : ((10 : Int32) * nI j + 2).toNatClampNeg = 10 * j + 2 := cx hj5 2 (by decide)
          have v2 : vp_in ((10 : Int32) * nI j + 2) 52 := vx hj5 2 (by decide)
          have x3 : ((10 : Int32) * nI j + 3).toNatClampNeg = 10 * j + 3 := cx hj5 3 (by decide)
          have v3 : vp_in ((10 : Int32) * nI j + 3) 52 := vx hj5 3 (by decide)
          have x4 : ((10 : Int32) * nI j + 4).toNatClampNeg = 10 * j + 4 := cx hj5 4 (by decide)
          have v4 : vp_in ((10 : Int32) * nI j + 4) 52 := vx hj5 4 (by decide)
          have x5 : ((10 : Int32) * nI j + 5).toNatClampNeg = 10 * j + 5 := cx hj5 5 (by decide)
          have v5 : vp_in ((10 : Int32) * nI j + 5) 52 := vx hj5 5 (by decide)
          have x6 : ((10 : Int32) * nI j + 6).toNatClampNeg = 10 * j + 6 := cx hj5 6 (by decide)
          have v6 : vp_in ((10 : Int32) * nI j + 6) 52 := vx hj5 6 (by decide)
          have x7 : ((10 : Int32) * nI j + 7).toNatClampNeg = 10 * j + 7 := cx hj5 7 (by decide)
          have v7 : vp_in ((10 : Int32) * nI j + 7) 52 := vx hj5 7 (by decide)
          have x8 : ((10 : Int32) * nI j + 8).toNatClampNeg = 10 * j + 8 := cx hj5 8 (by decide)
          have v8 : vp_in ((10 : Int32) * nI j + 8) 52 := vx hj5 8 (by decide)
          have x9 : ((10 : Int32) * nI j + 9).toNatClampNeg = 10 * j + 9 := cx hj5 9 (by decide)
          have v9 : vp_in ((10 : Int32) * nI j + 9) 52 := vx hj5 9 (by decide)
          have ex : drX (lset M' 158 s) s = 10 * j + 4 := by
            unfold drX
            rw [show (lset M' 158 s).1 158 6 = M'.1 158 6 from rfl, ej, nI_clamp (by omega)]
          have L127 : ∀ v, v = (if M'.1 166 (10 * j + 4) + rm (dw2 s) 10 ≤ 999 then M'.1 166 (10 * j + 4) + rm (dw2 s) 10 else 999) → G 127 [some (.inr (.inr (12, 158))), some (.inl (nI N)), some (.inl t), some (.inl (nI i)), none, none] [.inl v, .inl (10 * nI j + 4), .inr (.inr (13, 166))] (lset M' 158 s) := by
            intro v ev
            (apply h127; simp only [BX12_drawn_127, s_mth, s_mab, s_at, s_iconst, s_lconst, s_iload, s_lload, s_aload, s_istore, s_lstore, s_astore, s_iinc, s_bin, s_binG, s_un, s_lbin, s_lbinG, s_lsh, s_lcmp, s_i2l, s_l2i, s_dup, s_dup2, s_pop, s_if, s_icmp, s_geti, s_getl, s_getr, s_puti, s_putz, s_putl, s_iald, s_zald, s_iast, s_zast, s_aaldS, s_aaldU, s_gets, s_tald, s_tsw, tsw, s_iret, s_zret, s_lret, s_aret, s_vret, s_callV, s_callS, c1, nl1, keepL, csum, pushR, inL, List.getD_cons_zero, List.getD_cons_succ, List.set_cons_zero, List.set_cons_succ, List.cons_append, List.nil_append, List.append_nil, List.replicate, List.length_cons, List.length_nil, List.take_succ_cons, List.take_zero, List.drop_succ_cons, List.drop_zero, List.reverse_cons, List.reverse_nil, true_and, and_true, forall_const, not_true_eq_false, not_false_eq_true, false_implies, true_implies, implies_true, one0, m10, Nat.reduceAdd, Nat.reduceSub, Nat.reduceLeDiff, Nat.zero_add, Nat.add_zero, fn_X12_in, fn_X12_layTrial, fn_X12_slotOn])
            simp only [lM, x4]
            refine ⟨v4, L128' _ s rfl ?_⟩
            unfold drT
            refine Eq.trans ?_ (if_neg h2).symm
            rw [ex, ev]
            rfl
          simp only [lM, x4, lset_1]
          refine ⟨by decide, hne, v4, by decide, fun h3 => ?_, fun h3 => ?_⟩
          · (apply h114; simp only [BX12_drawn_114, s_mth, s_mab, s_at, s_iconst, s_lconst, s_iload, s_lload, s_aload, s_istore, s_lstore, s_astore, s_iinc, s_bin, s_binG, s_un, s_lbin, s_lbinG, s_lsh, s_lcmp, s_i2l, s_l2i, s_dup, s_dup2, s_pop, s_if, s_icmp, s_geti, s_getl, s_getr, s_puti, s_putz, s_putl, s_iald, s_zald, s_iast, s_zast, s_aaldS, s_aaldU, s_gets, s_tald, s_tsw, tsw, s_iret, s_zret, s_lret, s_aret, s_vret, s_callV, s_callS, c1, nl1, keepL, csum, pushR, inL, List.getD_cons_zero, List.getD_cons_succ, List.set_cons_zero, List.set_cons_succ, List.cons_append, List.nil_append, List.append_nil, List.replicate, List.length_cons, List.length_nil, List.take_succ_cons, List.take_zero, List.drop_succ_cons, List.drop_zero, List.reverse_cons, List.reverse_nil, true_and, and_true, forall_const, not_true_eq_false, not_false_eq_true, false_implies, true_implies, implies_true, one0, m10, Nat.reduceAdd, Nat.reduceSub, Nat.reduceLeDiff, Nat.zero_add, Nat.add_zero, fn_X12_in, fn_X12_layTrial, fn_X12_slotOn])
            simp only [lM, x4, lset_1]
            exact ⟨v4, by decide, L127 _ (by rw [if_pos h3]; rfl)⟩
          · exact L127 _ (by rw [if_neg h3])
    (apply h20; simp only [BX12_drawn_20, s_mth, s_mab, s_at, s_iconst, s_lconst, s_iload, s_lload, s_aload, s_istore, s_lstore, s_astore, s_iinc, s_bin, s_binG, s_un, s_lbin, s_lbinG, s_lsh, s_lcmp, s_i2l, s_l2i, s_dup, s_dup2, s_pop, s_if, s_icmp, s_geti, s_getl, s_getr, s_puti, s_putz, s_putl, s_iald, s_zald, s_iast, s_zast, s_aaldS, s_aaldU, s_gets, s_tald, s_tsw, tsw, s_iret, s_zret, s_lret, s_aret, s_vret, s_callV, s_callS, c1, nl1, keepL, csum, pushR, inL, List.getD_cons_zero, List.getD_cons_succ, List.set_cons_zero, List.set_cons_succ, List.cons_append, List.nil_append, List.append_nil, List.replicate, List.length_cons, List.length_nil, List.take_succ_cons, List.take_zero, List.drop_succ_cons, List.drop_zero, List.reverse_cons, List.reverse_nil, true_and, and_true, forall_const, not_true_eq_false, not_false_eq_true, false_implies, true_implies, implies_true, one0, m10, Nat.reduceAdd, Nat.reduceSub, Nat.reduceLeDiff, Nat.zero_add, Nat.add_zero, fn_X12_in, fn_X12_layTrial, fn_X12_slotOn])
    exact ⟨⟨_, rfl⟩, loop N 0 0 _ (by omega) (PM_lay hI.1.1) (PG_le (PG_lay hI.1.2) (by omega)) hQ⟩
theorem ct_X12_drawn (l : Launch) : Con l yX12_drawn cX12_drawn 6 (Option.some FieldType.int) 4 pre_X12_drawn fn_X12_drawn := con_of (by decide +kernel) ok_X12_drawn len_X12_drawn (fun p e s m args below meth c D ca ad A as M hX hr hp ho => pf_X12_drawn _ _ (bsX12_drawn_0 hX hr) (bsX12_drawn_20 hX hr) (bsX12_drawn_28 hX hr) (bsX12_drawn_114 hX hr) (bsX12_drawn_127 hX hr) (bsX12_drawn_128 hX hr) (bsX12_drawn_146 hX hr) as M ho hp ⟨rfl, rfl⟩)
