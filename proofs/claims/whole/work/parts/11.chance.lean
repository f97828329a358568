/-! Court's row; Sightings; Chances -/
theorem GD_u {M : mM} {k j s : Nat} {v : Int32} (hk : kof k = 8) (hj : j < 5) (h : GD M) (hv : s ≠ 3 ∨ v = 0 ∨ v = 1) : GD (mset M (k + 1 + 1 + j) s v) := by
  have hu := kU hk hj
  refine ⟨fun a ha => ?_, PL_mset h.2 (kne (by rw [hu]; decide +kernel)) (kne (by rw [hu]; decide +kernel))⟩
  rw [mset_get]
  split
  · next g =>
    rcases hv with hv | hv
    · exact absurd g.2.symm hv
    · exact hv
  · exact h.1 a ha
theorem GD_hd {M : mM} {k : Nat} {a b d : Int32} (hk : kof k = 8) (h : GD M) : GD (hd M k a b d).2 := by
  have hn := n5 h.2
  unfold hd hd1 hd2 hd4 hd5 hd6 hd7 tod hb
  split
  · exact GD_ru hk h
  · split
    · split
      · split
        · exact h
        · next h1 =>
          obtain ⟨j, hj, rfl⟩ := hasI_1 h.2 h1
          simp only [nI_clamp (by omega : j < 2 ^ 31)]
          split
          · exact GD_u hk (by omega) h (Or.inr (by split <;> simp))
          · exact GD_u hk (by omega) (GD_u hk (by omega) h (Or.inl (by decide))) (Or.inl (by decide))
      · exact h
    · split
      · split
        · exact h
        · next h1 =>
          split
          · exact h
          · obtain ⟨j, hj, rfl⟩ := hasI_1 h.2 h1
            simp only [nI_clamp (by omega : j < 2 ^ 31)]
            exact GD_u hk (by omega) h (Or.inl (by decide))
      · split
        · split
          · exact h
          · split <;> exact h
        · split
          · split
            · exact h
            · split
              · exact h
              · exact GD_ro k144 (GD_stc k144 hk h)
          · split
            · split
              · exact h
              · split <;> exact h
            · exact h
def da (row : Int64) (n : Nat) : Int32 := (row / uo n - row / uo n / 1000 * 1000).toInt32
def dgt (row : Int64) (N p : Nat) : Int32 := da row (N - 1 - p)
def fwL (row : Int64) (N : Nat) : Nat → Nat → mM → Int32 × mM
  | 0, _, M => (-9, M)
  | m + 1, p, M => if (hd M 14 (dgt row N p / 100) (rm (dgt row N p / 10) 10) (rm (dgt row N p) 10)).1 = 0 then (nI p, (hd M 14 (dgt row N p / 100) (rm (dgt row N p / 10) 10) (rm (dgt row N p) 10)).2) else fwL row N m (p + 1) (hd M 14 (dgt row N p / 100) (rm (dgt row N p / 10) 10) (rm (dgt row N p) 10)).2
theorem uo_v : ∀ N, N ≤ 4 → uo N = lN (1000 ^ N) ∧ 0 < 1000 ^ N ∧ 1000 ^ N < 2 ^ 63 ∧ ¬ uo N = 0 := by decide +kernel
theorem dgt_v {r N p : Nat} (hr : r < 10 ^ 12) (hp : N - 1 - p ≤ 4) : dgt (lN r) N p = nI (r / 1000 ^ (N - 1 - p) % 1000) := by
  obtain ⟨h1, h2, h3, -⟩ := uo_v _ hp
  unfold dgt da
  rw [h1, pk_lDiv (by omega) h2 h3]
  have : r / 1000 ^ (N - 1 - p) ≤ r := Nat.div_le_self _ _
  rw [show (1000 : Int64) = lN 1000 from rfl, pk_lRem (by omega) (by decide) (by decide), lN_i]
theorem da_v {r n : Nat} (hr : r < 10 ^ 12) (hn : n ≤ 4) : da (lN r) n = nI (r / 1000 ^ n % 1000) := by
  have h := dgt_v (r := r) (N := n + 1) (p := 0) hr (by omega)
  rw [show n + 1 - 1 - 0 = n by omega] at h
  exact h
def pre_X3_doingAt (as : List mV) (M : mM) : Prop := ∃ row x, as = [.inr (.inl row), .inl x] ∧ ∃ r n, r < 10 ^ 12 ∧ n ≤ 4 ∧ row = lN r ∧ x = nI n
def fn_X3_doingAt : List mV → mM → Option mV × mM
  | [.inr (.inl row), .inl x], M => (some (.inl (da row x.toNatClampNeg)), M)
  | _, M => (none, M)
theorem ok_X3_doingAt (as : List mV) (M : mM) (h : pre_X3_doingAt as M) (_ : ∀ v ∈ as, okV v) : okR (fn_X3_doingAt as M).1 := by
  obtain ⟨row, x, rfl, -⟩ := h
  first | trivial | exact (by decide +kernel : kof 14 = 8)
theorem len_X3_doingAt (as : List mV) (M : mM) (h : pre_X3_doingAt as M) : (inL as).length ≤ 6 := by
  obtain ⟨row, x, rfl, -⟩ := h
  exact Nat.le_of_ble_eq_true rfl


theorem dX3_doingAt_0 : decode cX3_doingAt 0 = .ok (.lload_n 0, 1) := by decide +kernel
theorem dX3_doingAt_1 : decode cX3_doingAt 1 = .ok (.lstore_n 3, 1) := by decide +kernel
theorem dX3_doingAt_2 : decode cX3_doingAt 2 = .ok (.iconst 0, 1) := by decide +kernel
theorem dX3_doingAt_3 : decode cX3_doingAt 3 = .ok (.istore 5, 2) := by decide +kernel
theorem dX3_doingAt_5 : decode cX3_doingAt 5 = .ok (.iload 5, 2) := by decide +kernel
theorem dX3_doingAt_7 : decode cX3_doingAt 7 = .ok (.iload_n 2, 1) := by decide +kernel
theorem dX3_doingAt_8 : decode cX3_doingAt 8 = .ok (.if_icmp .ge 15, 3) := by decide +kernel
theorem dX3_doingAt_11 : decode cX3_doingAt 11 = .ok (.lload_n 3, 1) := by decide +kernel
theorem dX3_doingAt_12 : decode cX3_doingAt 12 = .ok (.ldc2_w 22, 3) := by decide +kernel
theorem dX3_doingAt_15 : decode cX3_doingAt 15 = .ok (.ldiv, 1) := by decide +kernel
theorem dX3_doingAt_16 : decode cX3_doingAt 16 = .ok (.lstore_n 3, 1) := by decide +kernel
theorem dX3_doingAt_17 : decode cX3_doingAt 17 = .ok (.iinc 5 1, 3) := by decide +kernel
theorem dX3_doingAt_20 : decode cX3_doingAt 20 = .ok (.goto (-15), 3) := by decide +kernel
theorem dX3_doingAt_23 : decode cX3_doingAt 23 = .ok (.lload_n 3, 1) := by decide +kernel
theorem dX3_doingAt_24 : decode cX3_doingAt 24 = .ok (.ldc2_w 22, 3) := by decide +kernel
theorem dX3_doingAt_27 : decode cX3_doingAt 27 = .ok (.lrem, 1) := by decide +kernel
theorem dX3_doingAt_28 : decode cX3_doingAt 28 = .ok (.l2i, 1) := by decide +kernel
theorem dX3_doingAt_29 : decode cX3_doingAt 29 = .ok (.ireturn, 1) := by decide +kernel
theorem mk_X3_doingAt : MSk yX3_doingAt cX3_doingAt 6 (Option.some FieldType.int) 2 := ⟨w_572, w_571, w_10, by decide +kernel, by decide +kernel, by decide +kernel⟩
def BX3_doingAt_0 (G : Nat → KT) (Q : Option mV → mM → Prop) : KT := (s_lload 0 (s_lstore 3 (s_iconst (0) (s_istore 5 (s_at G 5 [false, false, true, true, false, true])))))
set_option maxRecDepth 4000 in
theorem bsX3_doingAt_0 {p : Program} {l : Launch} {e : Env} {s : State} {m : MethodId} {args : Array Value} {below : List Frame} {meth : Method} {c : Code} {D : va_G} {ca : Nat → ClassId} {ad : Nat → Nat} {A : Nat → Prop} {Q : Option mV → mM → Prop} (hX : CX p s m args meth c 6 cX3_doingAt "FairBlocks$Court" D ca ad A) (hr : meth.sig.returnType = (Option.some FieldType.int)) : ∀ lv st M, BX3_doingAt_0 (Gd p l e (rmD 0) s m args below meth c 6 D ca ad A 0 0 (MQ below (QC D ca ad A Q) args s 0 0 A)) Q lv st M → Gd p l e (rmD 0) s m args below meth c 6 D ca ad A 0 0 (MQ below (QC D ca ad A Q) args s 0 0 A) 0 lv st M :=
  (sd_lload_n hX dX3_doingAt_0 rfl (sd_lstore_n hX (by decide) dX3_doingAt_1 rfl (sd_iconst hX dX3_doingAt_2 rfl (sd_istore hX (by decide) dX3_doingAt_3 sd_at))))
def BX3_doingAt_5 (G : Nat → KT) (Q : Option mV → mM → Prop) : KT := (s_iload 5 (s_iload 2 (s_icmp (fun x y => y ≤ x) (s_at G 23 [false, false, false, true, false, false]) (s_lload 3 (s_lconst (1000) (s_lbinG (fun x y => x / y) (s_lstore 3 (s_iinc 5 (1) (s_at G 5 [false, false, true, true, false, true])))))))))
set_option maxRecDepth 4000 in
theorem bsX3_doingAt_5 {p : Program} {l : Launch} {e : Env} {s : State} {m : MethodId} {args : Array Value} {below : List Frame} {meth : Method} {c : Code} {D : va_G} {ca : Nat → ClassId} {ad : Nat → Nat} {A : Nat → Prop} {Q : Option mV → mM → Prop} (hX : CX p s m args meth c 6 cX3_doingAt "FairBlocks$Court" D ca ad A) (hr : meth.sig.returnType = (Option.some FieldType.int)) : ∀ lv st M, BX3_doingAt_5 (Gd p l e (rmD 0) s m args below meth c 6 D ca ad A 0 0 (MQ below (QC D ca ad A Q) args s 0 0 A)) Q lv st M → Gd p l e (rmD 0) s m args below meth c 6 D ca ad A 0 0 (MQ below (QC D ca ad A Q) args s 0 0 A) 5 lv st M :=
  (sd_iload hX dX3_doingAt_5 (sd_iload_n hX dX3_doingAt_7 rfl (sd_icmp_ge hX dX3_doingAt_8 (by decide) sd_at (sd_lload_n hX dX3_doingAt_11 rfl (sd_ldc2 hX w_564 dX3_doingAt_12 (sd_ldiv hX dX3_doingAt_15 (sd_lstore_n hX (by decide) dX3_doingAt_16 rfl (sd_iinc hX (by decide) dX3_doingAt_17 rfl (sd_goto hX dX3_doingAt_20 (by decide) sd_at)))))))))
def BX3_doingAt_23 (G : Nat → KT) (Q : Option mV → mM → Prop) : KT := (s_lload 3 (s_lconst (1000) (s_lbinG (fun x y => x - x / y * y) (s_l2i (s_iret Q)))))
set_option maxRecDepth 4000 in
theorem bsX3_doingAt_23 {p : Program} {l : Launch} {e : Env} {s : State} {m : MethodId} {args : Array Value} {below : List Frame} {meth : Method} {c : Code} {D : va_G} {ca : Nat → ClassId} {ad : Nat → Nat} {A : Nat → Prop} {Q : Option mV → mM → Prop} (hX : CX p s m args meth c 6 cX3_doingAt "FairBlocks$Court" D ca ad A) (hr : meth.sig.returnType = (Option.some FieldType.int)) : ∀ lv st M, BX3_doingAt_23 (Gd p l e (rmD 0) s m args below meth c 6 D ca ad A 0 0 (MQ below (QC D ca ad A Q) args s 0 0 A)) Q lv st M → Gd p l e (rmD 0) s m args below meth c 6 D ca ad A 0 0 (MQ below (QC D ca ad A Q) args s 0 0 A) 23 lv st M :=
  (sd_lload_n hX dX3_doingAt_23 rfl (sd_ldc2 hX w_564 dX3_doingAt_24 (sd_lrem hX dX3_doingAt_27 (sd_l2i hX dX3_doingAt_28 (sd_iret hX hr dX3_doingAt_29)))))
set_option maxHeartbeats 400000 in
theorem pf_X3_doingAt (G : Nat → KT) (Q : Option mV → mM → Prop) (h0 : ∀ lv st M, BX3_doingAt_0 G Q lv st M → G 0 lv st M) (h5 : ∀ lv st M, BX3_doingAt_5 G Q lv st M → G 5 lv st M) (h23 : ∀ lv st M, BX3_doingAt_23 G Q lv st M → G 23 lv st M) (as : List mV) (M : mM) (ho : ∀ v ∈ as, okV v) (hp : pre_X3_doingAt as M) (hQ : Q (fn_X3_doingAt as M).1 (fn_X3_doingAt as M).2) : G 0 (inL as ++ List.replicate (6 - (inL as).length) none) [] M := by
  obtain ⟨row, x, rfl, r, N, hr, hN, rfl, rfl⟩ := hp
  simp only [fn_X3_doingAt, nI_clamp (by omega : N < 2 ^ 31), da_v hr hN] at hQ
  have hle : ∀ i, r / 1000 ^ i ≤ r := fun i => Nat.div_le_self _ _
  have loop : ∀ (m i : Nat), i + m = N → G 5 [none, none, some (.inl (nI N)), some (.inr (.inl (lN (r / 1000 ^ i)))), none, some (.inl (nI i))] [] M := by
    intro m
    induction m with
    | zero =>
      intro i hi
      obtain rfl : i = N := by omega
      have := hle i
      have e : (lN (r / 1000 ^ i) - lN (r / 1000 ^ i) / 1000 * 1000).toInt32 = nI (r / 1000 ^ i % 1000) := by
        rw [show (1000 : Int64) = lN 1000 from rfl, pk_lRem (by omega) (by decide) (by decide), lN_i]
      (apply h5; simp only [BX3_doingAt_5, s_mth, s_mab, s_at, s_iconst, s_lconst, s_iload, s_lload, s_aload, s_istore, s_lstore, s_astore, s_iinc, s_bin, s_binG, s_un, s_lbin, s_lbinG, s_lsh, s_lcmp, s_i2l, s_l2i, s_dup, s_dup2, s_pop, s_if, s_icmp, s_geti, s_getl, s_getr, s_puti, s_putz, s_putl, s_iald, s_zald, s_iast, s_zast, s_aaldS, s_aaldU, s_gets, s_tald, s_tsw, tsw, s_iret, s_zret, s_lret, s_aret, s_vret, s_callV, s_callS, c1, nl1, keepL, csum, pushR, inL, List.getD_cons_zero, List.getD_cons_succ, List.set_cons_zero, List.set_cons_succ, List.cons_append, List.nil_append, List.append_nil, List.replicate, List.length_cons, List.length_nil, List.take_succ_cons, List.take_zero, List.drop_succ_cons, List.drop_zero, List.reverse_cons, List.reverse_nil, true_and, and_true, forall_const, not_true_eq_false, not_false_eq_true, false_implies, true_implies, implies_true, one0, m10, Nat.reduceAdd, Nat.reduceSub, Nat.reduceLeDiff, Nat.zero_add, Nat.add_zero])
      refine ⟨fun _ => ?_, fun h => absurd (nI_le (Nat.le_refl i) (by omega)) h⟩
      (apply h23; simp only [BX3_doingAt_23, s_mth, s_mab, s_at, s_iconst, s_lconst, s_iload, s_lload, s_aload, s_istore, s_lstore, s_astore, s_iinc, s_bin, s_binG, s_un, s_lbin, s_lbinG, s_lsh, s_lcmp, s_i2l, s_l2i, s_dup, s_dup2, s_pop, s_if, s_icmp, s_geti, s_getl, s_getr, s_puti, s_putz, s_putl, s_iald, s_zald, s_iast, s_zast, s_aaldS, s_aaldU, s_gets, s_tald, s_tsw, tsw, s_iret, s_zret, s_lret, s_aret, s_vret, s_callV, s_callS, c1, nl1, keepL, csum, pushR, inL, List.getD_cons_zero, List.getD_cons_succ, List.set_cons_zero, List.set_cons_succ, List.cons_append, List.nil_append, List.append_nil, List.replicate, List.length_cons, List.length_nil, List.take_succ_cons, List.take_zero, List.drop_succ_cons, List.drop_zero, List.reverse_cons, List.reverse_nil, true_and, and_true, forall_const, not_true_eq_false, not_false_eq_true, false_implies, true_implies, implies_true, one0, m10, Nat.reduceAdd, Nat.reduceSub, Nat.reduceLeDiff, Nat.zero_add, Nat.add_zero])
      rw [e]
      exact ⟨by decide, hQ⟩
    | succ m ih =>
      intro i hi
      have := hle i
      have e : lN (r / 1000 ^ i) / 1000 = lN (r / 1000 ^ (i + 1)) := by
        rw [show (1000 : Int64) = lN 1000 from rfl, pk_lDiv (by omega) (by decide) (by decide), Nat.div_div_eq_div_mul, ← Nat.pow_succ]
      (apply h5; simp only [BX3_doingAt_5, s_mth, s_mab, s_at, s_iconst, s_lconst, s_iload, s_lload, s_aload, s_istore, s_lstore, s_astore, s_iinc, s_bin, s_binG, s_un, s_lbin, s_lbinG, s_lsh, s_lcmp, s_i2l, s_l2i, s_dup, s_dup2, s_pop, s_if, s_icmp, s_geti, s_getl, s_getr, s_puti, s_putz, s_putl, s_iald, s_zald, s_iast, s_zast, s_aaldS, s_aaldU, s_gets, s_tald, s_tsw, tsw, s_iret, s_zret, s_lret, s_aret, s_vret, s_callV, s_callS, c1, nl1, keepL, csum, pushR, inL, List.getD_cons_zero, List.getD_cons_succ, List.set_cons_zero, List.set_cons_succ, List.cons_append, List.nil_append, List.append_nil, List.replicate, List.length_cons, List.length_nil, List.take_succ_cons, List.take_zero, List.drop_succ_cons, List.drop_zero, List.reverse_cons, List.reverse_nil, true_and, and_true, forall_const, not_true_eq_false, not_false_eq_true, false_implies, true_implies, implies_true, one0, m10, Nat.reduceAdd, Nat.reduceSub, Nat.reduceLeDiff, Nat.zero_add, Nat.add_zero])
      refine ⟨fun h => absurd h (nI_ge (by omega) (by omega)), fun _ => ⟨by decide, ?_⟩⟩
      rw [e, nI_1]
      exact ih (i + 1) (by omega)
  (apply h0; simp only [BX3_doingAt_0, s_mth, s_mab, s_at, s_iconst, s_lconst, s_iload, s_lload, s_aload, s_istore, s_lstore, s_astore, s_iinc, s_bin, s_binG, s_un, s_lbin, s_lbinG, s_lsh, s_lcmp, s_i2l, s_l2i, s_dup, s_dup2, s_pop, s_if, s_icmp, s_geti, s_getl, s_getr, s_puti, s_putz, s_putl, s_iald, s_zald, s_iast, s_zast, s_aaldS, s_aaldU, s_gets, s_tald, s_tsw, tsw, s_iret, s_zret, s_lret, s_aret, s_vret, s_callV, s_callS, c1, nl1, keepL, csum, pushR, inL, List.getD_cons_zero, List.getD_cons_succ, List.set_cons_zero, List.set_cons_succ, List.cons_append, List.nil_append, List.append_nil, List.replicate, List.length_cons, List.length_nil, List.take_succ_cons, List.take_zero, List.drop_succ_cons, List.drop_zero, List.reverse_cons, List.reverse_nil, true_and, and_true, forall_const, not_true_eq_false, not_false_eq_true, false_implies, true_implies, implies_true, one0, m10, Nat.reduceAdd, Nat.reduceSub, Nat.reduceLeDiff, Nat.zero_add, Nat.add_zero])
  have h := loop N 0 (by omega)
  rw [Nat.pow_zero, Nat.div_one] at h
  exact h
theorem ct_X3_doingAt (l : Launch) : Con l yX3_doingAt cX3_doingAt 6 (Option.some FieldType.int) 0 pre_X3_doingAt fn_X3_doingAt := con_of (by decide +kernel) ok_X3_doingAt len_X3_doingAt (fun p e s m args below meth c D ca ad A as M hX hr hp ho => pf_X3_doingAt _ _ (bsX3_doingAt_0 hX hr) (bsX3_doingAt_5 hX hr) (bsX3_doingAt_23 hX hr) as M ho hp ⟨rfl, rfl⟩)
def pre_X3_firstWrong (as : List mV) (M : mM) : Prop := ∃ c n row, as = [.inr (.inr (3, c)), .inl n, .inr (.inl row)] ∧ GD M ∧ (∃ N, N ≤ 4 ∧ n = nI N) ∧ ∃ r, r < 10 ^ 12 ∧ row = lN r
def fn_X3_firstWrong : List mV → mM → Option mV × mM
  | [.inr (.inr (_, c)), .inl n, .inr (.inl row)], M => (some (.inl (fwL row n.toNatClampNeg n.toNatClampNeg 0 (stc M 14 7)).1), (fwL row n.toNatClampNeg n.toNatClampNeg 0 (stc M 14 7)).2)
  | _, M => (none, M)
theorem ok_X3_firstWrong (as : List mV) (M : mM) (h : pre_X3_firstWrong as M) (_ : ∀ v ∈ as, okV v) : okR (fn_X3_firstWrong as M).1 := by
  obtain ⟨c, n, row, rfl, -⟩ := h
  first | trivial | exact (by decide +kernel : kof 14 = 8)
theorem len_X3_firstWrong (as : List mV) (M : mM) (h : pre_X3_firstWrong as M) : (inL as).length ≤ 7 := by
  obtain ⟨c, n, row, rfl, -⟩ := h
  exact Nat.le_of_ble_eq_true rfl


theorem dX3_firstWrong_0 : decode cX3_firstWrong 0 = .ok (.aload_n 0, 1) := by decide +kernel
theorem dX3_firstWrong_1 : decode cX3_firstWrong 1 = .ok (.getfield 9, 3) := by decide +kernel
theorem dX3_firstWrong_4 : decode cX3_firstWrong 4 = .ok (.invokevirtual 24, 3) := by decide +kernel
theorem dX3_firstWrong_7 : decode cX3_firstWrong 7 = .ok (.astore 4, 2) := by decide +kernel
theorem dX3_firstWrong_9 : decode cX3_firstWrong 9 = .ok (.iconst 0, 1) := by decide +kernel
theorem dX3_firstWrong_10 : decode cX3_firstWrong 10 = .ok (.istore 5, 2) := by decide +kernel
theorem dX3_firstWrong_12 : decode cX3_firstWrong 12 = .ok (.iload 5, 2) := by decide +kernel
theorem dX3_firstWrong_14 : decode cX3_firstWrong 14 = .ok (.iload_n 1, 1) := by decide +kernel
theorem dX3_firstWrong_15 : decode cX3_firstWrong 15 = .ok (.if_icmp .ge 51, 3) := by decide +kernel
theorem dX3_firstWrong_18 : decode cX3_firstWrong 18 = .ok (.lload_n 2, 1) := by decide +kernel
theorem dX3_firstWrong_19 : decode cX3_firstWrong 19 = .ok (.iload_n 1, 1) := by decide +kernel
theorem dX3_firstWrong_20 : decode cX3_firstWrong 20 = .ok (.iconst 1, 1) := by decide +kernel
theorem dX3_firstWrong_21 : decode cX3_firstWrong 21 = .ok (.isub, 1) := by decide +kernel
theorem dX3_firstWrong_22 : decode cX3_firstWrong 22 = .ok (.iload 5, 2) := by decide +kernel
theorem dX3_firstWrong_24 : decode cX3_firstWrong 24 = .ok (.isub, 1) := by decide +kernel
theorem dX3_firstWrong_25 : decode cX3_firstWrong 25 = .ok (.invokestatic 30, 3) := by decide +kernel
theorem dX3_firstWrong_28 : decode cX3_firstWrong 28 = .ok (.istore 6, 2) := by decide +kernel
theorem dX3_firstWrong_30 : decode cX3_firstWrong 30 = .ok (.aload_n 0, 1) := by decide +kernel
theorem dX3_firstWrong_31 : decode cX3_firstWrong 31 = .ok (.aload 4, 2) := by decide +kernel
theorem dX3_firstWrong_33 : decode cX3_firstWrong 33 = .ok (.iload 6, 2) := by decide +kernel
theorem dX3_firstWrong_35 : decode cX3_firstWrong 35 = .ok (.bipush 100, 2) := by decide +kernel
theorem dX3_firstWrong_37 : decode cX3_firstWrong 37 = .ok (.idiv, 1) := by decide +kernel
theorem dX3_firstWrong_38 : decode cX3_firstWrong 38 = .ok (.iload 6, 2) := by decide +kernel
theorem dX3_firstWrong_40 : decode cX3_firstWrong 40 = .ok (.bipush 10, 2) := by decide +kernel
theorem dX3_firstWrong_42 : decode cX3_firstWrong 42 = .ok (.idiv, 1) := by decide +kernel
theorem dX3_firstWrong_43 : decode cX3_firstWrong 43 = .ok (.bipush 10, 2) := by decide +kernel
theorem dX3_firstWrong_45 : decode cX3_firstWrong 45 = .ok (.irem, 1) := by decide +kernel
theorem dX3_firstWrong_46 : decode cX3_firstWrong 46 = .ok (.iload 6, 2) := by decide +kernel
theorem dX3_firstWrong_48 : decode cX3_firstWrong 48 = .ok (.bipush 10, 2) := by decide +kernel
theorem dX3_firstWrong_50 : decode cX3_firstWrong 50 = .ok (.irem, 1) := by decide +kernel
theorem dX3_firstWrong_51 : decode cX3_firstWrong 51 = .ok (.invokevirtual 34, 3) := by decide +kernel
theorem dX3_firstWrong_54 : decode cX3_firstWrong 54 = .ok (.ifCond .ne 6, 3) := by decide +kernel
theorem dX3_firstWrong_57 : decode cX3_firstWrong 57 = .ok (.iload 5, 2) := by decide +kernel
theorem dX3_firstWrong_59 : decode cX3_firstWrong 59 = .ok (.ireturn, 1) := by decide +kernel
theorem dX3_firstWrong_60 : decode cX3_firstWrong 60 = .ok (.iinc 5 1, 3) := by decide +kernel
theorem dX3_firstWrong_63 : decode cX3_firstWrong 63 = .ok (.goto (-51), 3) := by decide +kernel
theorem dX3_firstWrong_66 : decode cX3_firstWrong 66 = .ok (.bipush (-9), 2) := by decide +kernel
theorem dX3_firstWrong_68 : decode cX3_firstWrong 68 = .ok (.ireturn, 1) := by decide +kernel
theorem mk_X3_firstWrong : MVk yX3_firstWrong "FairBlocks$Court" cX3_firstWrong 7 (Option.some FieldType.int) 2 := ⟨w_568, w_566, w_567, w_10, rfl, by decide +kernel, by decide +kernel, by decide +kernel⟩
def BX3_firstWrong_0 (G : Nat → KT) (Q : Option mV → mM → Prop) : KT := (s_aload 0 (s_getr 3 1 (fun _ => 3) (s_callV 1 0 pre_X1_freshTrial fn_X1_freshTrial (s_astore 4 (s_iconst (0) (s_istore 5 (s_at G 12 [true, true, true, false, true, true, false])))))))
set_option maxRecDepth 4000 in
theorem bsX3_firstWrong_0 {p : Program} {l : Launch} {e : Env} {s : State} {m : MethodId} {args : Array Value} {below : List Frame} {meth : Method} {c : Code} {D : va_G} {ca : Nat → ClassId} {ad : Nat → Nat} {A : Nat → Prop} {Q : Option mV → mM → Prop} (hX : CX p s m args meth c 7 cX3_firstWrong "FairBlocks$Court" D ca ad A) (hr : meth.sig.returnType = (Option.some FieldType.int)) : ∀ lv st M, BX3_firstWrong_0 (Gd p l e (rmD 5) s m args below meth c 7 D ca ad A 0 0 (MQ below (QC D ca ad A Q) args s 0 0 A)) Q lv st M → Gd p l e (rmD 5) s m args below meth c 7 D ca ad A 0 0 (MQ below (QC D ca ad A Q) args s 0 0 A) 0 lv st M :=
  (sd_aload_n hX dX3_firstWrong_0 rfl (sd_getr hX fl_255 (fun _ => rfl) (fun _ _ _ => by decide +kernel) dX3_firstWrong_1 (sd_callV hX (kd := 1) rfl (by decide) (ct_X1_freshTrial l) mk_X1_freshTrial w_569 ⟨⟨by decide, by decide⟩, by decide, by decide⟩ dX3_firstWrong_4 (sd_astore hX (by decide) dX3_firstWrong_7 (sd_iconst hX dX3_firstWrong_9 rfl (sd_istore hX (by decide) dX3_firstWrong_10 sd_at))))))
def BX3_firstWrong_12 (G : Nat → KT) (Q : Option mV → mM → Prop) : KT := (s_iload 5 (s_iload 1 (s_icmp (fun x y => y ≤ x) (s_at G 66 [false, false, false, false, false, false, false]) (s_lload 2 (s_iload 1 (s_iconst (1) (s_bin (fun x y => x - y) (s_iload 5 (s_bin (fun x y => x - y) (s_callS 2 pre_X3_doingAt fn_X3_doingAt (s_istore 6 (s_aload 0 (s_aload 4 (s_iload 6 (s_iconst (100) (s_binG (fun x y => x / y) (s_iload 6 (s_iconst (10) (s_binG (fun x y => x / y) (s_iconst (10) (s_binG (fun x y => x - x / y * y) (s_iload 6 (s_iconst (10) (s_binG (fun x y => x - x / y * y) (s_callV 3 4 pre_X3_holds fn_X3_holds (s_if (fun x => x = 0) ((s_iload 5 (s_iret Q))) (s_at G 60 [true, true, true, false, true, true, false])))))))))))))))))))))))))))
set_option maxRecDepth 4000 in
theorem bsX3_firstWrong_12 {p : Program} {l : Launch} {e : Env} {s : State} {m : MethodId} {args : Array Value} {below : List Frame} {meth : Method} {c : Code} {D : va_G} {ca : Nat → ClassId} {ad : Nat → Nat} {A : Nat → Prop} {Q : Option mV → mM → Prop} (hX : CX p s m args meth c 7 cX3_firstWrong "FairBlocks$Court" D ca ad A) (hr : meth.sig.returnType = (Option.some FieldType.int)) : ∀ lv st M, BX3_firstWrong_12 (Gd p l e (rmD 5) s m args below meth c 7 D ca ad A 0 0 (MQ below (QC D ca ad A Q) args s 0 0 A)) Q lv st M → Gd p l e (rmD 5) s m args below meth c 7 D ca ad A 0 0 (MQ below (QC D ca ad A Q) args s 0 0 A) 12 lv st M :=
  (sd_iload hX dX3_firstWrong_12 (sd_iload_n hX dX3_firstWrong_14 rfl (sd_icmp_ge hX dX3_firstWrong_15 (by decide) sd_at (sd_lload_n hX dX3_firstWrong_18 rfl (sd_iload_n hX dX3_firstWrong_19 rfl (sd_iconst hX dX3_firstWrong_20 rfl (sd_isub hX dX3_firstWrong_21 (sd_iload hX dX3_firstWrong_22 (sd_isub hX dX3_firstWrong_24 (sd_callS hX (ct_X3_doingAt l) mk_X3_doingAt w_570 ⟨⟨by decide, by decide⟩, by decide, by decide⟩ dX3_firstWrong_25 (sd_istore hX (by decide) dX3_firstWrong_28 (sd_aload_n hX dX3_firstWrong_30 rfl (sd_aload hX dX3_firstWrong_31 (sd_iload hX dX3_firstWrong_33 (sd_bipush hX dX3_firstWrong_35 rfl (sd_idiv hX dX3_firstWrong_37 (sd_iload hX dX3_firstWrong_38 (sd_bipush hX dX3_firstWrong_40 rfl (sd_idiv hX dX3_firstWrong_42 (sd_bipush hX dX3_firstWrong_43 rfl (sd_irem hX dX3_firstWrong_45 (sd_iload hX dX3_firstWrong_46 (sd_bipush hX dX3_firstWrong_48 rfl (sd_irem hX dX3_firstWrong_50 (sd_callV hX (kd := 3) rfl (by decide) (ct_X3_holds l) mk_X3_holds w_573 ⟨⟨by decide, by decide⟩, by decide, by decide⟩ dX3_firstWrong_51 (sd_if_ne hX dX3_firstWrong_54 (by decide) sd_at (sd_iload hX dX3_firstWrong_57 (sd_iret hX hr dX3_firstWrong_59))))))))))))))))))))))))))))
def BX3_firstWrong_60 (G : Nat → KT) (Q : Option mV → mM → Prop) : KT := (s_iinc 5 (1) (s_at G 12 [true, true, true, false, true, true, false]))
set_option maxRecDepth 4000 in
theorem bsX3_firstWrong_60 {p : Program} {l : Launch} {e : Env} {s : State} {m : MethodId} {args : Array Value} {below : List Frame} {meth : Method} {c : Code} {D : va_G} {ca : Nat → ClassId} {ad : Nat → Nat} {A : Nat → Prop} {Q : Option mV → mM → Prop} (hX : CX p s m args meth c 7 cX3_firstWrong "FairBlocks$Court" D ca ad A) (hr : meth.sig.returnType = (Option.some FieldType.int)) : ∀ lv st M, BX3_firstWrong_60 (Gd p l e (rmD 5) s m args below meth c 7 D ca ad A 0 0 (MQ below (QC D ca ad A Q) args s 0 0 A)) Q lv st M → Gd p l e (rmD 5) s m args below meth c 7 D ca ad A 0 0 (MQ below (QC D ca ad A Q) args s 0 0 A) 60 lv st M :=
  (sd_iinc hX (by decide) dX3_firstWrong_60 rfl (sd_goto hX dX3_firstWrong_63 (by decide) sd_at))
def BX3_firstWrong_66 (G : Nat → KT) (Q : Option mV → mM → Prop) : KT := (s_iconst (-9) (s_iret Q))
set_option maxRecDepth 4000 in
theorem bsX3_firstWrong_66 {p : Program} {l : Launch} {e : Env} {s : State} {m : MethodId} {args : Array Value} {below : List Frame} {meth : Method} {c : Code} {D : va_G} {ca : Nat → ClassId} {ad : Nat → Nat} {A : Nat → Prop} {Q : Option mV → mM → Prop} (hX : CX p s m args meth c 7 cX3_firstWrong "FairBlocks$Court" D ca ad A) (hr : meth.sig.returnType = (Option.some FieldType.int)) : ∀ lv st M, BX3_firstWrong_66 (Gd p l e (rmD 5) s m args below meth c 7 D ca ad A 0 0 (MQ below (QC D ca ad A Q) args s 0 0 A)) Q lv st M → Gd p l e (rmD 5) s m args below meth c 7 D ca ad A 0 0 (MQ below (QC D ca ad A Q) args s 0 0 A) 66 lv st M :=
  (sd_bipush hX dX3_firstWrong_66 rfl (sd_iret hX hr dX3_firstWrong_68))
set_option maxHeartbeats 400000 in
theorem pf_X3_firstWrong (G : Nat → KT) (Q : Option mV → mM → Prop) (h0 : ∀ lv st M, BX3_firstWrong_0 G Q lv st M → G 0 lv st M) (h12 : ∀ lv st M, BX3_firstWrong_12 G Q lv st M → G 12 lv st M) (h60 : ∀ lv st M, BX3_firstWrong_60 G Q lv st M → G 60 lv st M) (h66 : ∀ lv st M, BX3_firstWrong_66 G Q lv st M → G 66 lv st M) (as : List mV) (M : mM) (ho : ∀ v ∈ as, okV v) (hp : pre_X3_firstWrong as M) (hQ : Q (fn_X3_firstWrong as M).1 (fn_X3_firstWrong as M).2) : G 0 (inL as ++ List.replicate (7 - (inL as).length) none) [] M := by
  obtain ⟨c, n, row, rfl, hG, ⟨N, hN, rfl⟩, r, hr, rfl⟩ := hp
  simp only [fn_X3_firstWrong, nI_clamp (by omega : N < 2 ^ 31)] at hQ
  have loop : ∀ (m p : Nat) (M : mM), p + m = N → GD M → Q (some (.inl (fwL (lN r) N m p M).1)) (fwL (lN r) N m p M).2 → G 12 [some (.inr (.inr (3, c))), some (.inl (nI N)), some (.inr (.inl (lN r))), none, some (.inr (.inr (8, 14))), some (.inl (nI p)), none] [] M := by
    intro m
    induction m with
    | zero =>
      intro p M hi hG hq
      obtain rfl : p = N := by omega
      (apply h12; simp only [BX3_firstWrong_12, s_mth, s_mab, s_at, s_iconst, s_lconst, s_iload, s_lload, s_aload, s_istore, s_lstore, s_astore, s_iinc, s_bin, s_binG, s_un, s_lbin, s_lbinG, s_lsh, s_lcmp, s_i2l, s_l2i, s_dup, s_dup2, s_pop, s_if, s_icmp, s_geti, s_getl, s_getr, s_puti, s_putz, s_putl, s_iald, s_zald, s_iast, s_zast, s_aaldS, s_aaldU, s_gets, s_tald, s_tsw, tsw, s_iret, s_zret, s_lret, s_aret, s_vret, s_callV, s_callS, c1, nl1, keepL, csum, pushR, inL, List.getD_cons_zero, List.getD_cons_succ, List.set_cons_zero, List.set_cons_succ, List.cons_append, List.nil_append, List.append_nil, List.replicate, List.length_cons, List.length_nil, List.take_succ_cons, List.take_zero, List.drop_succ_cons, List.drop_zero, List.reverse_cons, List.reverse_nil, true_and, and_true, forall_const, not_true_eq_false, not_false_eq_true, false_implies, true_implies, implies_true, one0, m10, Nat.reduceAdd, Nat.reduceSub, Nat.reduceLeDiff, Nat.zero_add, Nat.add_zero, fn_X1_freshTrial, fn_X3_doingAt, fn_X3_holds])
      refine ⟨fun _ => ?_, fun h => absurd (nI_le (Nat.le_refl p) (by omega)) h⟩
      (apply h66; simp only [BX3_firstWrong_66, s_mth, s_mab, s_at, s_iconst, s_lconst, s_iload, s_lload, s_aload, s_istore, s_lstore, s_astore, s_iinc, s_bin, s_binG, s_un, s_lbin, s_lbinG, s_lsh, s_lcmp, s_i2l, s_l2i, s_dup, s_dup2, s_pop, s_if, s_icmp, s_geti, s_getl, s_getr, s_puti, s_putz, s_putl, s_iald, s_zald, s_iast, s_zast, s_aaldS, s_aaldU, s_gets, s_tald, s_tsw, tsw, s_iret, s_zret, s_lret, s_aret, s_vret, s_callV, s_callS, c1, nl1, keepL, csum, pushR, inL, List.getD_cons_zero, List.getD_cons_succ, List.set_cons_zero, List.set_cons_succ, List.cons_append, List.nil_append, List.append_nil, List.replicate, List.length_cons, List.length_nil, List.take_succ_cons, List.take_zero, List.drop_succ_cons, List.drop_zero, List.reverse_cons, List.reverse_nil, true_and, and_true, forall_const, not_true_eq_false, not_false_eq_true, false_implies, true_implies, implies_true, one0, m10, Nat.reduceAdd, Nat.reduceSub, Nat.reduceLeDiff, Nat.zero_add, Nat.add_zero, fn_X1_freshTrial, fn_X3_doingAt, fn_X3_holds])
      exact hq
    | succ m ih =>
      intro p M hi hG hq
      have e1 : nI N - 1 - nI p = nI (N - 1 - p) := by rw [show (1 : Int32) = nI 1 from rfl, pk_sub (by omega), pk_sub (by omega)]
      have ed := dgt_v (r := r) (N := N) (p := p) hr (by omega)
      have hlt : r / 1000 ^ (N - 1 - p) % 1000 < 1000 := Nat.mod_lt _ (by decide)
      (apply h12; simp only [BX3_firstWrong_12, s_mth, s_mab, s_at, s_iconst, s_lconst, s_iload, s_lload, s_aload, s_istore, s_lstore, s_astore, s_iinc, s_bin, s_binG, s_un, s_lbin, s_lbinG, s_lsh, s_lcmp, s_i2l, s_l2i, s_dup, s_dup2, s_pop, s_if, s_icmp, s_geti, s_getl, s_getr, s_puti, s_putz, s_putl, s_iald, s_zald, s_iast, s_zast, s_aaldS, s_aaldU, s_gets, s_tald, s_tsw, tsw, s_iret, s_zret, s_lret, s_aret, s_vret, s_callV, s_callS, c1, nl1, keepL, csum, pushR, inL, List.getD_cons_zero, List.getD_cons_succ, List.set_cons_zero, List.set_cons_succ, List.cons_append, List.nil_append, List.append_nil, List.replicate, List.length_cons, List.length_nil, List.take_succ_cons, List.take_zero, List.drop_succ_cons, List.drop_zero, List.reverse_cons, List.reverse_nil, true_and, and_true, forall_const, not_true_eq_false, not_false_eq_true, false_implies, true_implies, implies_true, one0, m10, Nat.reduceAdd, Nat.reduceSub, Nat.reduceLeDiff, Nat.zero_add, Nat.add_zero, fn_X1_freshTrial, fn_X3_doingAt, fn_X3_holds])
      simp only [e1, nI_clamp (show N - 1 - p < 2 ^ 31 by omega)]
      refine ⟨fun h => absurd h (nI_ge (by omega) (by omega)), fun _ => ⟨⟨_, _, rfl, r, N - 1 - p, hr, by omega, rfl, rfl⟩, by decide, by decide, by decide, by decide, ⟨_, _, _, _, _, rfl, hG, ?_, ?_⟩, fun h => ?_, fun h => ?_⟩⟩
      · refine ⟨r / 1000 ^ (N - 1 - p) % 1000 / 10 % 10, by omega, ?_⟩
        show rm (dgt (lN r) N p / 10) 10 = _
        rw [ed, show (10 : Int32) = nI 10 from rfl, pk_div (by omega) (by decide) (by decide)]
        exact pk_rem (by omega) (by decide) (by decide)
      · refine ⟨r / 1000 ^ (N - 1 - p) % 1000 % 10, by omega, ?_⟩
        show rm (dgt (lN r) N p) 10 = _
        rw [ed]
        exact pk_rem (by omega) (by decide) (by decide)
      · have h' : (hd M 14 (dgt (lN r) N p / 100) (rm (dgt (lN r) N p / 10) 10) (rm (dgt (lN r) N p) 10)).1 = 0 := h
        rw [fwL, if_pos h'] at hq
        exact hq
      · have h' : ¬ (hd M 14 (dgt (lN r) N p / 100) (rm (dgt (lN r) N p / 10) 10) (rm (dgt (lN r) N p) 10)).1 = 0 := h
        rw [fwL, if_neg h'] at hq
        (apply h60; simp only [BX3_firstWrong_60, s_mth, s_mab, s_at, s_iconst, s_lconst, s_iload, s_lload, s_aload, s_istore, s_lstore, s_astore, s_iinc, s_bin, s_binG, s_un, s_lbin, s_lbinG, s_lsh, s_lcmp, s_i2l, s_l2i, s_dup, s_dup2, s_pop, s_if, s_icmp, s_geti, s_getl, s_getr, s_puti, s_putz, s_putl, s_iald, s_zald, s_iast, s_zast, s_aaldS, s_aaldU, s_gets, s_tald, s_tsw, tsw, s_iret, s_zret, s_lret, s_aret, s_vret, s_callV, s_callS, c1, nl1, keepL, csum, pushR, inL, List.getD_cons_zero, List.getD_cons_succ, List.set_cons_zero, List.set_cons_succ, List.cons_append, List.nil_append, List.append_nil, List.replicate, List.length_cons, List.length_nil, List.take_succ_cons, List.take_zero, List.drop_succ_cons, List.drop_zero, List.reverse_cons, List.reverse_nil, true_and, and_true, forall_const, not_true_eq_false, not_false_eq_true, false_implies, true_implies, implies_true, one0, m10, Nat.reduceAdd, Nat.reduceSub, Nat.reduceLeDiff, Nat.zero_add, Nat.add_zero, fn_X1_freshTrial, fn_X3_doingAt, fn_X3_holds])
        rw [nI_1]
        exact ih (p + 1) _ (by omega) (GD_hd k14 hG) hq
  (apply h0; simp only [BX3_firstWrong_0, s_mth, s_mab, s_at, s_iconst, s_lconst, s_iload, s_lload, s_aload, s_istore, s_lstore, s_astore, s_iinc, s_bin, s_binG, s_un, s_lbin, s_lbinG, s_lsh, s_lcmp, s_i2l, s_l2i, s_dup, s_dup2, s_pop, s_if, s_icmp, s_geti, s_getl, s_getr, s_puti, s_putz, s_putl, s_iald, s_zald, s_iast, s_zast, s_aaldS, s_aaldU, s_gets, s_tald, s_tsw, tsw, s_iret, s_zret, s_lret, s_aret, s_vret, s_callV, s_callS, c1, nl1, keepL, csum, pushR, inL, List.getD_cons_zero, List.getD_cons_succ, List.set_cons_zero, List.set_cons_succ, List.cons_append, List.nil_append, List.append_nil, List.replicate, List.length_cons, List.length_nil, List.take_succ_cons, List.take_zero, List.drop_succ_cons, List.drop_zero, List.reverse_cons, List.reverse_nil, true_and, and_true, forall_const, not_true_eq_false, not_false_eq_true, false_implies, true_implies, implies_true, one0, m10, Nat.reduceAdd, Nat.reduceSub, Nat.reduceLeDiff, Nat.zero_add, Nat.add_zero, fn_X1_freshTrial, fn_X3_doingAt, fn_X3_holds])
  exact ⟨⟨_, rfl, hG.1⟩, loop N 0 _ (by omega) (GD_stc k14 k7 hG) hQ⟩
theorem ct_X3_firstWrong (l : Launch) : Con l yX3_firstWrong cX3_firstWrong 7 (Option.some FieldType.int) 5 pre_X3_firstWrong fn_X3_firstWrong := con_of (by decide +kernel) ok_X3_firstWrong len_X3_firstWrong (fun p e s m args below meth c D ca ad A as M hX hr hp ho => pf_X3_firstWrong _ _ (bsX3_firstWrong_0 hX hr) (bsX3_firstWrong_12 hX hr) (bsX3_firstWrong_60 hX hr) (bsX3_firstWrong_66 hX hr) as M ho hp ⟨rfl, rfl⟩)
/-! Sightings -/
def SEE (M : mM) : Prop := ∃ z, z ≤ 6 ∧ M.1 151 6 = nI z ∧ ∀ i, i < z → ∃ a, a ≤ 9 ∧ M.1 152 i = nI a
theorem l152 : ln 152 = 6 ∧ ln 153 = 6 ∧ ln 154 = 6 ∧ ln 155 = 6 ∧ ln 156 = 6 := by decide +kernel
theorem k7s {k : Nat} (h : kof k = 7) : k = 151 := by
  have g : ∀ k, k < 178 → kof k = 7 → k = 151 := by decide +kernel
  exact g k (kof_lt (by omega)) h
def nZ (M : mM) : Nat := (M.1 151 6).toNatClampNeg
theorem nZ_e {M : mM} (h : SEE M) : nZ M ≤ 6 ∧ M.1 151 6 = nI (nZ M) ∧ ∀ i, i < nZ M → ∃ a, a ≤ 9 ∧ M.1 152 i = nI a := by
  obtain ⟨z, hz, e, h⟩ := h
  have : nZ M = z := by unfold nZ; rw [e, nI_clamp (by omega)]
  rw [this]
  exact ⟨hz, e, h⟩
def adS (M : mM) (n u w v s : Int32) : mM := if 6 ≤ M.1 151 6 then M else mset (mset (mset (mset (mset (mset M 152 (nZ M) n) 153 (nZ M) u) 154 (nZ M) w) 155 (nZ M) v) 156 (nZ M) s) 151 6 (M.1 151 6 + 1)
def pre_X7_add (as : List mV) (M : mM) : Prop := ∃ c n u w v s, as = [.inr (.inr (7, c)), .inl n, .inl u, .inl w, .inl v, .inl s] ∧ SEE M
def fn_X7_add : List mV → mM → Option mV × mM
  | [.inr (.inr (_, c)), .inl n, .inl u, .inl w, .inl v, .inl s], M => (none, adS M n u w v s)
  | _, M => (none, M)
theorem ok_X7_add (as : List mV) (M : mM) (h : pre_X7_add as M) (_ : ∀ v ∈ as, okV v) : okR (fn_X7_add as M).1 := by
  obtain ⟨c, n, u, w, v, s, rfl, -⟩ := h
  first | trivial | exact (by decide +kernel : kof 14 = 8)
theorem len_X7_add (as : List mV) (M : mM) (h : pre_X7_add as M) : (inL as).length ≤ 6 := by
  obtain ⟨c, n, u, w, v, s, rfl, -⟩ := h
  exact Nat.le_of_ble_eq_true rfl

theorem fl_269 : FLk "FairBlocks$Sightings" 9 7 1 16 := ⟨RX7, TX7, 7, rfl, inX7, by decide, w_269, by decide, rfl⟩
theorem fl_270 : FLk "FairBlocks$Sightings" 15 7 2 16 := ⟨RX7, TX7, 7, rfl, inX7, by decide, w_270, by decide, rfl⟩
theorem fl_271 : FLk "FairBlocks$Sightings" 18 7 3 16 := ⟨RX7, TX7, 7, rfl, inX7, by decide, w_271, by decide, rfl⟩
theorem fl_272 : FLk "FairBlocks$Sightings" 21 7 4 16 := ⟨RX7, TX7, 7, rfl, inX7, by decide, w_272, by decide, rfl⟩
theorem fl_273 : FLk "FairBlocks$Sightings" 24 7 5 16 := ⟨RX7, TX7, 7, rfl, inX7, by decide, w_273, by decide, rfl⟩
theorem fl_274 : FLk "FairBlocks$Sightings" 27 7 6 0 := ⟨RX7, TX7, 7, rfl, inX7, by decide, w_274, by decide, rfl⟩
theorem fp_274 : FPk "FairBlocks$Sightings" 27 7 6 0 .int := ⟨RX7, TX7, 7, tyX7, rfl, inX7, by decide, w_274, by decide, rfl, tyX7_ok, nmX7, rfl, rfl⟩
theorem dX7_add_0 : decode cX7_add 0 = .ok (.aload_n 0, 1) := by decide +kernel
theorem dX7_add_1 : decode cX7_add 1 = .ok (.getfield 27, 3) := by decide +kernel
theorem dX7_add_4 : decode cX7_add 4 = .ok (.bipush 6, 2) := by decide +kernel
theorem dX7_add_6 : decode cX7_add 6 = .ok (.if_icmp .ge 65, 3) := by decide +kernel
theorem dX7_add_9 : decode cX7_add 9 = .ok (.aload_n 0, 1) := by decide +kernel
theorem dX7_add_10 : decode cX7_add 10 = .ok (.getfield 9, 3) := by decide +kernel
theorem dX7_add_13 : decode cX7_add 13 = .ok (.aload_n 0, 1) := by decide +kernel
theorem dX7_add_14 : decode cX7_add 14 = .ok (.getfield 27, 3) := by decide +kernel
theorem dX7_add_17 : decode cX7_add 17 = .ok (.iload_n 1, 1) := by decide +kernel
theorem dX7_add_18 : decode cX7_add 18 = .ok (.iastore, 1) := by decide +kernel
theorem dX7_add_19 : decode cX7_add 19 = .ok (.aload_n 0, 1) := by decide +kernel
theorem dX7_add_20 : decode cX7_add 20 = .ok (.getfield 15, 3) := by decide +kernel
theorem dX7_add_23 : decode cX7_add 23 = .ok (.aload_n 0, 1) := by decide +kernel
theorem dX7_add_24 : decode cX7_add 24 = .ok (.getfield 27, 3) := by decide +kernel
theorem dX7_add_27 : decode cX7_add 27 = .ok (.iload_n 2, 1) := by decide +kernel
theorem dX7_add_28 : decode cX7_add 28 = .ok (.iastore, 1) := by decide +kernel
theorem dX7_add_29 : decode cX7_add 29 = .ok (.aload_n 0, 1) := by decide +kernel
theorem dX7_add_30 : decode cX7_add 30 = .ok (.getfield 18, 3) := by decide +kernel
theorem dX7_add_33 : decode cX7_add 33 = .ok (.aload_n 0, 1) := by decide +kernel
theorem dX7_add_34 : decode cX7_add 34 = .ok (.getfield 27, 3) := by decide +kernel
theorem dX7_add_37 : decode cX7_add 37 = .ok (.iload_n 3, 1) := by decide +kernel
theorem dX7_add_38 : decode cX7_add 38 = .ok (.iastore, 1) := by decide +kernel
theorem dX7_add_39 : decode cX7_add 39 = .ok (.aload_n 0, 1) := by decide +kernel
theorem dX7_add_40 : decode cX7_add 40 = .ok (.getfield 21, 3) := by decide +kernel
theorem dX7_add_43 : decode cX7_add 43 = .ok (.aload_n 0, 1) := by decide +kernel
theorem dX7_add_44 : decode cX7_add 44 = .ok (.getfield 27, 3) := by decide +kernel
theorem dX7_add_47 : decode cX7_add 47 = .ok (.iload 4, 2) := by decide +kernel
theorem dX7_add_49 : decode cX7_add 49 = .ok (.iastore, 1) := by decide +kernel
theorem dX7_add_50 : decode cX7_add 50 = .ok (.aload_n 0, 1) := by decide +kernel
theorem dX7_add_51 : decode cX7_add 51 = .ok (.getfield 24, 3) := by decide +kernel
theorem dX7_add_54 : decode cX7_add 54 = .ok (.aload_n 0, 1) := by decide +kernel
theorem dX7_add_55 : decode cX7_add 55 = .ok (.getfield 27, 3) := by decide +kernel
theorem dX7_add_58 : decode cX7_add 58 = .ok (.iload 5, 2) := by decide +kernel
theorem dX7_add_60 : decode cX7_add 60 = .ok (.iastore, 1) := by decide +kernel
theorem dX7_add_61 : decode cX7_add 61 = .ok (.aload_n 0, 1) := by decide +kernel
theorem dX7_add_62 : decode cX7_add 62 = .ok (.dup, 1) := by decide +kernel
theorem dX7_add_63 : decode cX7_add 63 = .ok (.getfield 27, 3) := by decide +kernel
theorem dX7_add_66 : decode cX7_add 66 = .ok (.iconst 1, 1) := by decide +kernel
theorem dX7_add_67 : decode cX7_add 67 = .ok (.iadd, 1) := by decide +kernel
theorem dX7_add_68 : decode cX7_add 68 = .ok (.putfield 27, 3) := by decide +kernel
theorem dX7_add_71 : decode cX7_add 71 = .ok (.return_, 1) := by decide +kernel
theorem mk_X7_add : MVk yX7_add "FairBlocks$Sightings" cX7_add 6 (Option.none : Option FieldType) 5 := ⟨w_601, w_599, w_600, w_11, rfl, by decide +kernel, by decide +kernel, by decide +kernel⟩
def BX7_add_0 (G : Nat → KT) (Q : Option mV → mM → Prop) : KT := (s_aload 0 (s_geti 7 6 (s_iconst (6) (s_icmp (fun x y => y ≤ x) (s_at G 71 [false, false, false, false, false, false]) (s_aload 0 (s_getr 7 13 (fun _ => 152) (s_aload 0 (s_geti 7 6 (s_iload 1 (s_iast (s_aload 0 (s_getr 7 13 (fun _ => 153) (s_aload 0 (s_geti 7 6 (s_iload 2 (s_iast (s_aload 0 (s_getr 7 13 (fun _ => 154) (s_aload 0 (s_geti 7 6 (s_iload 3 (s_iast (s_aload 0 (s_getr 7 13 (fun _ => 155) (s_aload 0 (s_geti 7 6 (s_iload 4 (s_iast (s_aload 0 (s_getr 7 13 (fun _ => 156) (s_aload 0 (s_geti 7 6 (s_iload 5 (s_iast (s_aload 0 (s_dup (s_geti 7 6 (s_iconst (1) (s_bin (fun x y => x + y) (s_puti 7 6 (s_at G 71 [false, false, false, false, false, false])))))))))))))))))))))))))))))))))))))))))
set_option maxRecDepth 4000 in
theorem bsX7_add_0 {p : Program} {l : Launch} {e : Env} {s : State} {m : MethodId} {args : Array Value} {below : List Frame} {meth : Method} {c : Code} {D : va_G} {ca : Nat → ClassId} {ad : Nat → Nat} {A : Nat → Prop} {Q : Option mV → mM → Prop} (hX : CX p s m args meth c 6 cX7_add "FairBlocks$Sightings" D ca ad A) (hr : meth.sig.returnType = (Option.none : Option FieldType)) : ∀ lv st M, BX7_add_0 (Gd p l e (rmD 0) s m args below meth c 6 D ca ad A 0 0 (MQ below (QC D ca ad A Q) args s 0 0 A)) Q lv st M → Gd p l e (rmD 0) s m args below meth c 6 D ca ad A 0 0 (MQ below (QC D ca ad A Q) args s 0 0 A) 0 lv st M :=
  (sd_aload_n hX dX7_add_0 rfl (sd_geti hX fl_274 (by decide) dX7_add_1 (sd_bipush hX dX7_add_4 rfl (sd_icmp_ge hX dX7_add_6 (by decide) sd_at (sd_aload_n hX dX7_add_9 rfl (sd_getr hX fl_269 (fun _ => rfl) (fun _ _ _ => by decide +kernel) dX7_add_10 (sd_aload_n hX dX7_add_13 rfl (sd_geti hX fl_274 (by decide) dX7_add_14 (sd_iload_n hX dX7_add_17 rfl (sd_iast hX dX7_add_18 (sd_aload_n hX dX7_add_19 rfl (sd_getr hX fl_270 (fun _ => rfl) (fun _ _ _ => by decide +kernel) dX7_add_20 (sd_aload_n hX dX7_add_23 rfl (sd_geti hX fl_274 (by decide) dX7_add_24 (sd_iload_n hX dX7_add_27 rfl (sd_iast hX dX7_add_28 (sd_aload_n hX dX7_add_29 rfl (sd_getr hX fl_271 (fun _ => rfl) (fun _ _ _ => by decide +kernel) dX7_add_30 (sd_aload_n hX dX7_add_33 rfl (sd_geti hX fl_274 (by decide) dX7_add_34 (sd_iload_n hX dX7_add_37 rfl (sd_iast hX dX7_add_38 (sd_aload_n hX dX7_add_39 rfl (sd_getr hX fl_272 (fun _ => rfl) (fun _ _ _ => by decide +kernel) dX7_add_40 (sd_aload_n hX dX7_add_43 rfl (sd_geti hX fl_274 (by decide) dX7_add_44 (sd_iload hX dX7_add_47 (sd_iast hX dX7_add_49 (sd_aload_n hX dX7_add_50 rfl (sd_getr hX fl_273 (fun _ => rfl) (fun _ _ _ => by decide +kernel) dX7_add_51 (sd_aload_n hX dX7_add_54 rfl (sd_geti hX fl_274 (by decide) dX7_add_55 (sd_iload hX dX7_add_58 (sd_iast hX dX7_add_60 (sd_aload_n hX dX7_add_61 rfl (sd_dup hX dX7_add_62 (sd_geti hX fl_274 (by decide) dX7_add_63 (sd_iconst hX dX7_add_66 rfl (sd_iadd hX dX7_add_67 (sd_puti hX fp_274 dX7_add_68 sd_at))))))))))))))))))))))))))))))))))))))))
def BX7_add_71 (G : Nat → KT) (Q : Option mV → mM → Prop) : KT := (s_vret Q)
set_option maxRecDepth 4000 in
theorem bsX7_add_71 {p : Program} {l : Launch} {e : Env} {s : State} {m : MethodId} {args : Array Value} {below : List Frame} {meth : Method} {c : Code} {D : va_G} {ca : Nat → ClassId} {ad : Nat → Nat} {A : Nat → Prop} {Q : Option mV → mM → Prop} (hX : CX p s m args meth c 6 cX7_add "FairBlocks$Sightings" D ca ad A) (hr : meth.sig.returnType = (Option.none : Option FieldType)) : ∀ lv st M, BX7_add_71 (Gd p l e (rmD 0) s m args below meth c 6 D ca ad A 0 0 (MQ below (QC D ca ad A Q) args s 0 0 A)) Q lv st M → Gd p l e (rmD 0) s m args below meth c 6 D ca ad A 0 0 (MQ below (QC D ca ad A Q) args s 0 0 A) 71 lv st M :=
  sd_vret hX hr dX7_add_71
set_option maxHeartbeats 400000 in
theorem pf_X7_add (G : Nat → KT) (Q : Option mV → mM → Prop) (h0 : ∀ lv st M, BX7_add_0 G Q lv st M → G 0 lv st M) (h71 : ∀ lv st M, BX7_add_71 G Q lv st M → G 71 lv st M) (as : List mV) (M : mM) (ho : ∀ v ∈ as, okV v) (hp : pre_X7_add as M) (hQ : Q (fn_X7_add as M).1 (fn_X7_add as M).2) : G 0 (inL as ++ List.replicate (6 - (inL as).length) none) [] M := by
  obtain ⟨c, n, u, w, v, s, rfl, hS⟩ := hp
  obtain rfl : c = 151 := k7s (ho (.inr (.inr (7, c))) (by simp))
  obtain ⟨hz, ez, -⟩ := nZ_e hS
  simp only [fn_X7_add, adS] at hQ
  have e2 : (nI (nZ M)).toNatClampNeg = nZ M := nI_clamp (by omega)
  (apply h0; simp only [BX7_add_0, s_mth, s_mab, s_at, s_iconst, s_lconst, s_iload, s_lload, s_aload, s_istore, s_lstore, s_astore, s_iinc, s_bin, s_binG, s_un, s_lbin, s_lbinG, s_lsh, s_lcmp, s_i2l, s_l2i, s_dup, s_dup2, s_pop, s_if, s_icmp, s_geti, s_getl, s_getr, s_puti, s_putz, s_putl, s_iald, s_zald, s_iast, s_zast, s_aaldS, s_aaldU, s_gets, s_tald, s_tsw, tsw, s_iret, s_zret, s_lret, s_aret, s_vret, s_callV, s_callS, c1, nl1, keepL, csum, pushR, inL, List.getD_cons_zero, List.getD_cons_succ, List.set_cons_zero, List.set_cons_succ, List.cons_append, List.nil_append, List.append_nil, List.replicate, List.length_cons, List.length_nil, List.take_succ_cons, List.take_zero, List.drop_succ_cons, List.drop_zero, List.reverse_cons, List.reverse_nil, true_and, and_true, forall_const, not_true_eq_false, not_false_eq_true, false_implies, true_implies, implies_true, one0, m10, Nat.reduceAdd, Nat.reduceSub, Nat.reduceLeDiff, Nat.zero_add, Nat.add_zero])
  simp [mset_get, l152]
  refine ⟨fun h => ?_, fun h => ?_⟩
  · (apply h71; simp only [BX7_add_71, s_mth, s_mab, s_at, s_iconst, s_lconst, s_iload, s_lload, s_aload, s_istore, s_lstore, s_astore, s_iinc, s_bin, s_binG, s_un, s_lbin, s_lbinG, s_lsh, s_lcmp, s_i2l, s_l2i, s_dup, s_dup2, s_pop, s_if, s_icmp, s_geti, s_getl, s_getr, s_puti, s_putz, s_putl, s_iald, s_zald, s_iast, s_zast, s_aaldS, s_aaldU, s_gets, s_tald, s_tsw, tsw, s_iret, s_zret, s_lret, s_aret, s_vret, s_callV, s_callS, c1, nl1, keepL, csum, pushR, inL, List.getD_cons_zero, List.getD_cons_succ, List.set_cons_zero, List.set_cons_succ, List.cons_append, List.nil_append, List.append_nil, List.replicate, List.length_cons, List.length_nil, List.take_succ_cons, List.take_zero, List.drop_succ_cons, List.drop_zero, List.reverse_cons, List.reverse_nil, true_and, and_true, forall_const, not_true_eq_false, not_false_eq_true, false_implies, true_implies, implies_true, one0, m10, Nat.reduceAdd, Nat.reduceSub, Nat.reduceLeDiff, Nat.zero_add, Nat.add_zero])
    rw [if_pos h] at hQ
    exact hQ
  · have h : ¬ 6 ≤ M.1 151 6 := by simpa using h
    rw [if_neg h] at hQ
    have hlt : nZ M < 6 := by
      rcases Nat.lt_or_ge (nZ M) 6 with g | g
      · exact g
      · rw [ez] at h
        exact absurd (nI_le (a := 6) g (by omega)) h
    have hv : vp_in (M.1 151 6) 6 := by rw [ez]; exact vp_in_nI hlt (by decide)
    refine ⟨hv, ?_⟩
    (apply h71; simp only [BX7_add_71, s_mth, s_mab, s_at, s_iconst, s_lconst, s_iload, s_lload, s_aload, s_istore, s_lstore, s_astore, s_iinc, s_bin, s_binG, s_un, s_lbin, s_lbinG, s_lsh, s_lcmp, s_i2l, s_l2i, s_dup, s_dup2, s_pop, s_if, s_icmp, s_geti, s_getl, s_getr, s_puti, s_putz, s_putl, s_iald, s_zald, s_iast, s_zast, s_aaldS, s_aaldU, s_gets, s_tald, s_tsw, tsw, s_iret, s_zret, s_lret, s_aret, s_vret, s_callV, s_callS, c1, nl1, keepL, csum, pushR, inL, List.getD_cons_zero, List.getD_cons_succ, List.set_cons_zero, List.set_cons_succ, List.cons_append, List.nil_append, List.append_nil, List.replicate, List.length_cons, List.length_nil, List.take_succ_cons, List.take_zero, List.drop_succ_cons, List.drop_zero, List.reverse_cons, List.reverse_nil, true_and, and_true, forall_const, not_true_eq_false, not_false_eq_true, false_implies, true_implies, implies_true, one0, m10, Nat.reduceAdd, Nat.reduceSub, Nat.reduceLeDiff, Nat.zero_add, Nat.add_zero])
    exact hQ
theorem ct_X7_add (l : Launch) : Con l yX7_add cX7_add 6 (Option.none : Option FieldType) 0 pre_X7_add fn_X7_add := con_of (by decide +kernel) ok_X7_add len_X7_add (fun p e s m args below meth c D ca ad A as M hX hr hp ho => pf_X7_add _ _ (bsX7_add_0 hX hr) (bsX7_add_71 hX hr) as M ho hp ⟨rfl, rfl⟩)
def lsS (M : mM) (i : Nat) (m : Int32) : Int32 := mx m (M.1 152 i)
def lsF (M : mM) : Int32 := itr (lsS M) 0 (nZ M) 0
def pre_X7_lastSlot (as : List mV) (M : mM) : Prop := ∃ c, as = [.inr (.inr (7, c))] ∧ SEE M
def fn_X7_lastSlot : List mV → mM → Option mV × mM
  | [.inr (.inr (_, c))], M => (some (.inl (lsF M)), M)
  | _, M => (none, M)
theorem ok_X7_lastSlot (as : List mV) (M : mM) (h : pre_X7_lastSlot as M) (_ : ∀ v ∈ as, okV v) : okR (fn_X7_lastSlot as M).1 := by
  obtain ⟨c, rfl, -⟩ := h
  first | trivial | exact (by decide +kernel : kof 14 = 8)
theorem len_X7_lastSlot (as : List mV) (M : mM) (h : pre_X7_lastSlot as M) : (inL as).length ≤ 3 := by
  obtain ⟨c, rfl, -⟩ := h
  exact Nat.le_of_ble_eq_true rfl


theorem dX7_lastSlot_0 : decode cX7_lastSlot 0 = .ok (.iconst 0, 1) := by decide +kernel
theorem dX7_lastSlot_1 : decode cX7_lastSlot 1 = .ok (.istore_n 1, 1) := by decide +kernel
theorem dX7_lastSlot_2 : decode cX7_lastSlot 2 = .ok (.iconst 0, 1) := by decide +kernel
theorem dX7_lastSlot_3 : decode cX7_lastSlot 3 = .ok (.istore_n 2, 1) := by decide +kernel
theorem dX7_lastSlot_4 : decode cX7_lastSlot 4 = .ok (.iload_n 2, 1) := by decide +kernel
theorem dX7_lastSlot_5 : decode cX7_lastSlot 5 = .ok (.aload_n 0, 1) := by decide +kernel
theorem dX7_lastSlot_6 : decode cX7_lastSlot 6 = .ok (.getfield 27, 3) := by decide +kernel
theorem dX7_lastSlot_9 : decode cX7_lastSlot 9 = .ok (.if_icmp .ge 20, 3) := by decide +kernel
theorem dX7_lastSlot_12 : decode cX7_lastSlot 12 = .ok (.iload_n 1, 1) := by decide +kernel
theorem dX7_lastSlot_13 : decode cX7_lastSlot 13 = .ok (.aload_n 0, 1) := by decide +kernel
theorem dX7_lastSlot_14 : decode cX7_lastSlot 14 = .ok (.getfield 9, 3) := by decide +kernel
theorem dX7_lastSlot_17 : decode cX7_lastSlot 17 = .ok (.iload_n 2, 1) := by decide +kernel
theorem dX7_lastSlot_18 : decode cX7_lastSlot 18 = .ok (.iaload, 1) := by decide +kernel
theorem dX7_lastSlot_19 : decode cX7_lastSlot 19 = .ok (.invokestatic 86, 3) := by decide +kernel
theorem dX7_lastSlot_22 : decode cX7_lastSlot 22 = .ok (.istore_n 1, 1) := by decide +kernel
theorem dX7_lastSlot_23 : decode cX7_lastSlot 23 = .ok (.iinc 2 1, 3) := by decide +kernel
theorem dX7_lastSlot_26 : decode cX7_lastSlot 26 = .ok (.goto (-22), 3) := by decide +kernel
theorem dX7_lastSlot_29 : decode cX7_lastSlot 29 = .ok (.iload_n 1, 1) := by decide +kernel
theorem dX7_lastSlot_30 : decode cX7_lastSlot 30 = .ok (.ireturn, 1) := by decide +kernel
theorem mk_X7_lastSlot : MVk yX7_lastSlot "FairBlocks$Sightings" cX7_lastSlot 3 (Option.some FieldType.int) 0 := ⟨w_622, w_621, wp_10, w_11, rfl, by decide +kernel, by decide +kernel, by decide +kernel⟩
def BX7_lastSlot_0 (G : Nat → KT) (Q : Option mV → mM → Prop) : KT := (s_iconst (0) (s_istore 1 (s_iconst (0) (s_istore 2 (s_at G 4 [true, true, true])))))
set_option maxRecDepth 4000 in
theorem bsX7_lastSlot_0 {p : Program} {l : Launch} {e : Env} {s : State} {m : MethodId} {args : Array Value} {below : List Frame} {meth : Method} {c : Code} {D : va_G} {ca : Nat → ClassId} {ad : Nat → Nat} {A : Nat → Prop} {Q : Option mV → mM → Prop} (hX : CX p s m args meth c 3 cX7_lastSlot "FairBlocks$Sightings" D ca ad A) (hr : meth.sig.returnType = (Option.some FieldType.int)) : ∀ lv st M, BX7_lastSlot_0 (Gd p l e (rmD 1) s m args below meth c 3 D ca ad A 0 0 (MQ below (QC D ca ad A Q) args s 0 0 A)) Q lv st M → Gd p l e (rmD 1) s m args below meth c 3 D ca ad A 0 0 (MQ below (QC D ca ad A Q) args s 0 0 A) 0 lv st M :=
  (sd_iconst hX dX7_lastSlot_0 rfl (sd_istore_n hX (by decide) dX7_lastSlot_1 rfl (sd_iconst hX dX7_lastSlot_2 rfl (sd_istore_n hX (by decide) dX7_lastSlot_3 rfl sd_at))))
def BX7_lastSlot_4 (G : Nat → KT) (Q : Option mV → mM → Prop) : KT := (s_iload 2 (s_aload 0 (s_geti 7 6 (s_icmp (fun x y => y ≤ x) (s_at G 29 [false, true, false]) (s_iload 1 (s_aload 0 (s_getr 7 13 (fun _ => 152) (s_iload 2 (s_iald (s_mth mx (s_istore 1 (s_iinc 2 (1) (s_at G 4 [true, true, true])))))))))))))
set_option maxRecDepth 4000 in
theorem bsX7_lastSlot_4 {p : Program} {l : Launch} {e : Env} {s : State} {m : MethodId} {args : Array Value} {below : List Frame} {meth : Method} {c : Code} {D : va_G} {ca : Nat → ClassId} {ad : Nat → Nat} {A : Nat → Prop} {Q : Option mV → mM → Prop} (hX : CX p s m args meth c 3 cX7_lastSlot "FairBlocks$Sightings" D ca ad A) (hr : meth.sig.returnType = (Option.some FieldType.int)) : ∀ lv st M, BX7_lastSlot_4 (Gd p l e (rmD 1) s m args below meth c 3 D ca ad A 0 0 (MQ below (QC D ca ad A Q) args s 0 0 A)) Q lv st M → Gd p l e (rmD 1) s m args below meth c 3 D ca ad A 0 0 (MQ below (QC D ca ad A Q) args s 0 0 A) 4 lv st M :=
  (sd_iload_n hX dX7_lastSlot_4 rfl (sd_aload_n hX dX7_lastSlot_5 rfl (sd_geti hX fl_274 (by decide) dX7_lastSlot_6 (sd_icmp_ge hX dX7_lastSlot_9 (by decide) sd_at (sd_iload_n hX dX7_lastSlot_12 rfl (sd_aload_n hX dX7_lastSlot_13 rfl (sd_getr hX fl_269 (fun _ => rfl) (fun _ _ _ => by decide +kernel) dX7_lastSlot_14 (sd_iload_n hX dX7_lastSlot_17 rfl (sd_iald hX dX7_lastSlot_18 (sd_mth hX (Or.inr ⟨rfl, rfl, rfl⟩) w_623 w_532 w_14 wm_max ⟨⟨by decide, by decide⟩, by decide, by decide⟩ dX7_lastSlot_19 (sd_istore_n hX (by decide) dX7_lastSlot_22 rfl (sd_iinc hX (by decide) dX7_lastSlot_23 rfl (sd_goto hX dX7_lastSlot_26 (by decide) sd_at)))))))))))))
def BX7_lastSlot_29 (G : Nat → KT) (Q : Option mV → mM → Prop) : KT := (s_iload 1 (s_iret Q))
set_option maxRecDepth 4000 in
theorem bsX7_lastSlot_29 {p : Program} {l : Launch} {e : Env} {s : State} {m : MethodId} {args : Array Value} {below : List Frame} {meth : Method} {c : Code} {D : va_G} {ca : Nat → ClassId} {ad : Nat → Nat} {A : Nat → Prop} {Q : Option mV → mM → Prop} (hX : CX p s m args meth c 3 cX7_lastSlot "FairBlocks$Sightings" D ca ad A) (hr : meth.sig.returnType = (Option.some FieldType.int)) : ∀ lv st M, BX7_lastSlot_29 (Gd p l e (rmD 1) s m args below meth c 3 D ca ad A 0 0 (MQ below (QC D ca ad A Q) args s 0 0 A)) Q lv st M → Gd p l e (rmD 1) s m args below meth c 3 D ca ad A 0 0 (MQ below (QC D ca ad A Q) args s 0 0 A) 29 lv st M :=
  (sd_iload_n hX dX7_lastSlot_29 rfl (sd_iret hX hr dX7_lastSlot_30))
set_option maxHeartbeats 400000 in
theorem pf_X7_lastSlot (G : Nat → KT) (Q : Option mV → mM → Prop) (h0 : ∀ lv st M, BX7_lastSlot_0 G Q lv st M → G 0 lv st M) (h4 : ∀ lv st M, BX7_lastSlot_4 G Q lv st M → G 4 lv st M) (h29 : ∀ lv st M, BX7_lastSlot_29 G Q lv st M → G 29 lv st M) (as : List mV) (M : mM) (ho : ∀ v ∈ as, okV v) (hp : pre_X7_lastSlot as M) (hQ : Q (fn_X7_lastSlot as M).1 (fn_X7_lastSlot as M).2) : G 0 (inL as ++ List.replicate (3 - (inL as).length) none) [] M := by
  obtain ⟨c, rfl, hS⟩ := hp
  obtain rfl : c = 151 := k7s (ho (.inr (.inr (7, c))) (by simp))
  obtain ⟨hz, ez, -⟩ := nZ_e hS
  simp only [fn_X7_lastSlot, lsF] at hQ
  have loop : ∀ (n i : Nat) (t : Int32), i + n = nZ M → Q (some (.inl (itr (lsS M) i n t))) M → G 4 [some (.inr (.inr (7, 151))), some (.inl t), some (.inl (nI i))] [] M := by
    intro n
    induction n with
    | zero =>
      intro i t hi hq
      obtain rfl : i = nZ M := by omega
      (apply h4; simp only [BX7_lastSlot_4, s_mth, s_mab, s_at, s_iconst, s_lconst, s_iload, s_lload, s_aload, s_istore, s_lstore, s_astore, s_iinc, s_bin, s_binG, s_un, s_lbin, s_lbinG, s_lsh, s_lcmp, s_i2l, s_l2i, s_dup, s_dup2, s_pop, s_if, s_icmp, s_geti, s_getl, s_getr, s_puti, s_putz, s_putl, s_iald, s_zald, s_iast, s_zast, s_aaldS, s_aaldU, s_gets, s_tald, s_tsw, tsw, s_iret, s_zret, s_lret, s_aret, s_vret, s_callV, s_callS, c1, nl1, keepL, csum, pushR, inL, List.getD_cons_zero, List.getD_cons_succ, List.set_cons_zero, List.set_cons_succ, List.cons_append, List.nil_append, List.append_nil, List.replicate, List.length_cons, List.length_nil, List.take_succ_cons, List.take_zero, List.drop_succ_cons, List.drop_zero, List.reverse_cons, List.reverse_nil, true_and, and_true, forall_const, not_true_eq_false, not_false_eq_true, false_implies, true_implies, implies_true, one0, m10, Nat.reduceAdd, Nat.reduceSub, Nat.reduceLeDiff, Nat.zero_add, Nat.add_zero])
      rw [ez]
      refine ⟨fun _ => ?_, fun h => absurd (nI_le (Nat.le_refl _) (by omega)) h⟩
      (apply h29; simp only [BX7_lastSlot_29, s_mth, s_mab, s_at, s_iconst, s_lconst, s_iload, s_lload, s_aload, s_istore, s_lstore, s_astore, s_iinc, s_bin, s_binG, s_un, s_lbin, s_lbinG, s_lsh, s_lcmp, s_i2l, s_l2i, s_dup, s_dup2, s_pop, s_if, s_icmp, s_geti, s_getl, s_getr, s_puti, s_putz, s_putl, s_iald, s_zald, s_iast, s_zast, s_aaldS, s_aaldU, s_gets, s_tald, s_tsw, tsw, s_iret, s_zret, s_lret, s_aret, s_vret, s_callV, s_callS, c1, nl1, keepL, csum, pushR, inL, List.getD_cons_zero, List.getD_cons_succ, List.set_cons_zero, List.set_cons_succ, List.cons_append, List.nil_append, List.append_nil, List.replicate, List.length_cons, List.length_nil, List.take_succ_cons, List.take_zero, List.drop_succ_cons, List.drop_zero, List.reverse_cons, List.reverse_nil, true_and, and_true, forall_const, not_true_eq_false, not_false_eq_true, false_implies, true_implies, implies_true, one0, m10, Nat.reduceAdd, Nat.reduceSub, Nat.reduceLeDiff, Nat.zero_add, Nat.add_zero])
      exact hq
    | succ n ih =>
      intro i t hi hq
      have ei : (nI i).toNatClampNeg = i := nI_clamp (by omega)
      (apply h4; simp only [BX7_lastSlot_4, s_mth, s_mab, s_at, s_iconst, s_lconst, s_iload, s_lload, s_aload, s_istore, s_lstore, s_astore, s_iinc, s_bin, s_binG, s_un, s_lbin, s_lbinG, s_lsh, s_lcmp, s_i2l, s_l2i, s_dup, s_dup2, s_pop, s_if, s_icmp, s_geti, s_getl, s_getr, s_puti, s_putz, s_putl, s_iald, s_zald, s_iast, s_zast, s_aaldS, s_aaldU, s_gets, s_tald, s_tsw, tsw, s_iret, s_zret, s_lret, s_aret, s_vret, s_callV, s_callS, c1, nl1, keepL, csum, pushR, inL, List.getD_cons_zero, List.getD_cons_succ, List.set_cons_zero, List.set_cons_succ, List.cons_append, List.nil_append, List.append_nil, List.replicate, List.length_cons, List.length_nil, List.take_succ_cons, List.take_zero, List.drop_succ_cons, List.drop_zero, List.reverse_cons, List.reverse_nil, true_and, and_true, forall_const, not_true_eq_false, not_false_eq_true, false_implies, true_implies, implies_true, one0, m10, Nat.reduceAdd, Nat.reduceSub, Nat.reduceLeDiff, Nat.zero_add, Nat.add_zero])
      simp only [ez, l152, ei]
      refine ⟨fun h => absurd h (nI_ge (by omega) (by omega)), fun _ => ⟨vp_in_nI (by omega) (by decide), ?_⟩⟩
      rw [nI_1]
      exact ih (i + 1) _ (by omega) hq
  (apply h0; simp only [BX7_lastSlot_0, s_mth, s_mab, s_at, s_iconst, s_lconst, s_iload, s_lload, s_aload, s_istore, s_lstore, s_astore, s_iinc, s_bin, s_binG, s_un, s_lbin, s_lbinG, s_lsh, s_lcmp, s_i2l, s_l2i, s_dup, s_dup2, s_pop, s_if, s_icmp, s_geti, s_getl, s_getr, s_puti, s_putz, s_putl, s_iald, s_zald, s_iast, s_zast, s_aaldS, s_aaldU, s_gets, s_tald, s_tsw, tsw, s_iret, s_zret, s_lret, s_aret, s_vret, s_callV, s_callS, c1, nl1, keepL, csum, pushR, inL, List.getD_cons_zero, List.getD_cons_succ, List.set_cons_zero, List.set_cons_succ, List.cons_append, List.nil_append, List.append_nil, List.replicate, List.length_cons, List.length_nil, List.take_succ_cons, List.take_zero, List.drop_succ_cons, List.drop_zero, List.reverse_cons, List.reverse_nil, true_and, and_true, forall_const, not_true_eq_false, not_false_eq_true, false_implies, true_implies, implies_true, one0, m10, Nat.reduceAdd, Nat.reduceSub, Nat.reduceLeDiff, Nat.zero_add, Nat.add_zero])
  exact loop _ 0 0 (by omega) hQ
theorem ct_X7_lastSlot (l : Launch) : Con l yX7_lastSlot cX7_lastSlot 3 (Option.some FieldType.int) 1 pre_X7_lastSlot fn_X7_lastSlot := con_of (by decide +kernel) ok_X7_lastSlot len_X7_lastSlot (fun p e s m args below meth c D ca ad A as M hX hr hp ho => pf_X7_lastSlot _ _ (bsX7_lastSlot_0 hX hr) (bsX7_lastSlot_4 hX hr) (bsX7_lastSlot_29 hX hr) as M ho hp ⟨rfl, rfl⟩)
def fg (M : mM) (k i : Nat) : Int32 := if M.1 154 i = 0 then M.1 (k + 1 + 1 + (M.1 153 i).toNatClampNeg) 7 else M.1 (k + 1 + 1 + (M.1 153 i).toNatClampNeg) 4 + M.1 (k + 1 + 1 + (M.1 153 i).toNatClampNeg) 5
def fbC (M : mM) (k : Nat) (n : Int32) (i : Nat) : Int32 := if M.1 152 i = n then (if hasI M (M.1 153 i) = 0 then 1 else if (if fg M k i = M.1 155 i then (1 : Int32) else 0) = (if M.1 156 i = 1 then 1 else 0) then 1 else 0) else 1
def fbL (M : mM) (k : Nat) (n : Int32) : Nat → Nat → Int32
  | 0, _ => 1
  | m + 1, i => if fbC M k n i = 0 then 0 else fbL M k n m (i + 1)
def pre_X7_fitsBehind (as : List mV) (M : mM) : Prop := ∃ c k x, as = [.inr (.inr (7, c)), .inr (.inr (8, k)), .inl x] ∧ SEE M ∧ PL M
def fn_X7_fitsBehind : List mV → mM → Option mV × mM
  | [.inr (.inr (_, c)), .inr (.inr (_, k)), .inl x], M => (some (.inl (fbL M k x (nZ M) 0)), M)
  | _, M => (none, M)
theorem ok_X7_fitsBehind (as : List mV) (M : mM) (h : pre_X7_fitsBehind as M) (_ : ∀ v ∈ as, okV v) : okR (fn_X7_fitsBehind as M).1 := by
  obtain ⟨c, k, x, rfl, -⟩ := h
  first | trivial | exact (by decide +kernel : kof 14 = 8)
theorem len_X7_fitsBehind (as : List mV) (M : mM) (h : pre_X7_fitsBehind as M) : (inL as).length ≤ 6 := by
  obtain ⟨c, k, x, rfl, -⟩ := h
  exact Nat.le_of_ble_eq_true rfl

theorem fl_116 : FLk "FairBlocks$Sightings" 95 10 7 0 := ⟨RX10, TX10, 10, rfl, inX10, by decide, w_116, by decide, rfl⟩
theorem fl_144 : FLk "FairBlocks$Sightings" 49 8 0 19 := ⟨RX8, TX8, 3, rfl, inX8, by decide, w_144, by decide, rfl⟩
theorem fl_190 : FLk "FairBlocks$Sightings" 35 1 0 8 := ⟨RX1, TX1, 4, rfl, inX1, by decide, w_190, by decide, rfl⟩
theorem fl_268 : FLk "FairBlocks$Sightings" 31 7 0 4 := ⟨RX7, TX7, 7, rfl, inX7, by decide, w_268, by decide, rfl⟩
theorem dX7_fitsBehind_0 : decode cX7_fitsBehind 0 = .ok (.iconst 0, 1) := by decide +kernel
theorem dX7_fitsBehind_1 : decode cX7_fitsBehind 1 = .ok (.istore_n 3, 1) := by decide +kernel
theorem dX7_fitsBehind_2 : decode cX7_fitsBehind 2 = .ok (.iload_n 3, 1) := by decide +kernel
theorem dX7_fitsBehind_3 : decode cX7_fitsBehind 3 = .ok (.aload_n 0, 1) := by decide +kernel
theorem dX7_fitsBehind_4 : decode cX7_fitsBehind 4 = .ok (.getfield 27, 3) := by decide +kernel
theorem dX7_fitsBehind_7 : decode cX7_fitsBehind 7 = .ok (.if_icmp .ge 111, 3) := by decide +kernel
theorem dX7_fitsBehind_10 : decode cX7_fitsBehind 10 = .ok (.aload_n 0, 1) := by decide +kernel
theorem dX7_fitsBehind_11 : decode cX7_fitsBehind 11 = .ok (.getfield 9, 3) := by decide +kernel
theorem dX7_fitsBehind_14 : decode cX7_fitsBehind 14 = .ok (.iload_n 3, 1) := by decide +kernel
theorem dX7_fitsBehind_15 : decode cX7_fitsBehind 15 = .ok (.iaload, 1) := by decide +kernel
theorem dX7_fitsBehind_16 : decode cX7_fitsBehind 16 = .ok (.iload_n 2, 1) := by decide +kernel
theorem dX7_fitsBehind_17 : decode cX7_fitsBehind 17 = .ok (.if_icmp .ne 95, 3) := by decide +kernel
theorem dX7_fitsBehind_20 : decode cX7_fitsBehind 20 = .ok (.aload_n 0, 1) := by decide +kernel
theorem dX7_fitsBehind_21 : decode cX7_fitsBehind 21 = .ok (.getfield 31, 3) := by decide +kernel
theorem dX7_fitsBehind_24 : decode cX7_fitsBehind 24 = .ok (.getfield 35, 3) := by decide +kernel
theorem dX7_fitsBehind_27 : decode cX7_fitsBehind 27 = .ok (.aload_n 0, 1) := by decide +kernel
theorem dX7_fitsBehind_28 : decode cX7_fitsBehind 28 = .ok (.getfield 15, 3) := by decide +kernel
theorem dX7_fitsBehind_31 : decode cX7_fitsBehind 31 = .ok (.iload_n 3, 1) := by decide +kernel
theorem dX7_fitsBehind_32 : decode cX7_fitsBehind 32 = .ok (.iaload, 1) := by decide +kernel
theorem dX7_fitsBehind_33 : decode cX7_fitsBehind 33 = .ok (.invokevirtual 92, 3) := by decide +kernel
theorem dX7_fitsBehind_36 : decode cX7_fitsBehind 36 = .ok (.ifCond .eq 76, 3) := by decide +kernel
theorem dX7_fitsBehind_39 : decode cX7_fitsBehind 39 = .ok (.aload_n 1, 1) := by decide +kernel
theorem dX7_fitsBehind_40 : decode cX7_fitsBehind 40 = .ok (.getfield 49, 3) := by decide +kernel
theorem dX7_fitsBehind_43 : decode cX7_fitsBehind 43 = .ok (.aload_n 0, 1) := by decide +kernel
theorem dX7_fitsBehind_44 : decode cX7_fitsBehind 44 = .ok (.getfield 15, 3) := by decide +kernel
theorem dX7_fitsBehind_47 : decode cX7_fitsBehind 47 = .ok (.iload_n 3, 1) := by decide +kernel
theorem dX7_fitsBehind_48 : decode cX7_fitsBehind 48 = .ok (.iaload, 1) := by decide +kernel
theorem dX7_fitsBehind_49 : decode cX7_fitsBehind 49 = .ok (.aaload, 1) := by decide +kernel
theorem dX7_fitsBehind_50 : decode cX7_fitsBehind 50 = .ok (.astore 4, 2) := by decide +kernel
theorem dX7_fitsBehind_52 : decode cX7_fitsBehind 52 = .ok (.aload_n 0, 1) := by decide +kernel
theorem dX7_fitsBehind_53 : decode cX7_fitsBehind 53 = .ok (.getfield 18, 3) := by decide +kernel
theorem dX7_fitsBehind_56 : decode cX7_fitsBehind 56 = .ok (.iload_n 3, 1) := by decide +kernel
theorem dX7_fitsBehind_57 : decode cX7_fitsBehind 57 = .ok (.iaload, 1) := by decide +kernel
theorem dX7_fitsBehind_58 : decode cX7_fitsBehind 58 = .ok (.ifCond .ne 11, 3) := by decide +kernel
theorem dX7_fitsBehind_61 : decode cX7_fitsBehind 61 = .ok (.aload 4, 2) := by decide +kernel
theorem dX7_fitsBehind_63 : decode cX7_fitsBehind 63 = .ok (.getfield 95, 3) := by decide +kernel
theorem dX7_fitsBehind_66 : decode cX7_fitsBehind 66 = .ok (.goto 8, 3) := by decide +kernel
theorem dX7_fitsBehind_69 : decode cX7_fitsBehind 69 = .ok (.aload 4, 2) := by decide +kernel
theorem dX7_fitsBehind_71 : decode cX7_fitsBehind 71 = .ok (.invokevirtual 98, 3) := by decide +kernel
theorem dX7_fitsBehind_74 : decode cX7_fitsBehind 74 = .ok (.istore 5, 2) := by decide +kernel
theorem dX7_fitsBehind_76 : decode cX7_fitsBehind 76 = .ok (.iload 5, 2) := by decide +kernel
theorem dX7_fitsBehind_78 : decode cX7_fitsBehind 78 = .ok (.aload_n 0, 1) := by decide +kernel
theorem dX7_fitsBehind_79 : decode cX7_fitsBehind 79 = .ok (.getfield 21, 3) := by decide +kernel
theorem dX7_fitsBehind_82 : decode cX7_fitsBehind 82 = .ok (.iload_n 3, 1) := by decide +kernel
theorem dX7_fitsBehind_83 : decode cX7_fitsBehind 83 = .ok (.iaload, 1) := by decide +kernel
theorem dX7_fitsBehind_84 : decode cX7_fitsBehind 84 = .ok (.if_icmp .ne 7, 3) := by decide +kernel
theorem dX7_fitsBehind_87 : decode cX7_fitsBehind 87 = .ok (.iconst 1, 1) := by decide +kernel
theorem dX7_fitsBehind_88 : decode cX7_fitsBehind 88 = .ok (.goto 4, 3) := by decide +kernel
theorem dX7_fitsBehind_91 : decode cX7_fitsBehind 91 = .ok (.iconst 0, 1) := by decide +kernel
theorem dX7_fitsBehind_92 : decode cX7_fitsBehind 92 = .ok (.aload_n 0, 1) := by decide +kernel
theorem dX7_fitsBehind_93 : decode cX7_fitsBehind 93 = .ok (.getfield 24, 3) := by decide +kernel
theorem dX7_fitsBehind_96 : decode cX7_fitsBehind 96 = .ok (.iload_n 3, 1) := by decide +kernel
theorem dX7_fitsBehind_97 : decode cX7_fitsBehind 97 = .ok (.iaload, 1) := by decide +kernel
theorem dX7_fitsBehind_98 : decode cX7_fitsBehind 98 = .ok (.iconst 1, 1) := by decide +kernel
theorem dX7_fitsBehind_99 : decode cX7_fitsBehind 99 = .ok (.if_icmp .ne 7, 3) := by decide +kernel
theorem dX7_fitsBehind_102 : decode cX7_fitsBehind 102 = .ok (.iconst 1, 1) := by decide +kernel
theorem dX7_fitsBehind_103 : decode cX7_fitsBehind 103 = .ok (.goto 4, 3) := by decide +kernel
theorem dX7_fitsBehind_106 : decode cX7_fitsBehind 106 = .ok (.iconst 0, 1) := by decide +kernel
theorem dX7_fitsBehind_107 : decode cX7_fitsBehind 107 = .ok (.if_icmp .eq 5, 3) := by decide +kernel
theorem dX7_fitsBehind_110 : decode cX7_fitsBehind 110 = .ok (.iconst 0, 1) := by decide +kernel
theorem dX7_fitsBehind_111 : decode cX7_fitsBehind 111 = .ok (.ireturn, 1) := by decide +kernel
theorem dX7_fitsBehind_112 : decode cX7_fitsBehind 112 = .ok (.iinc 3 1, 3) := by decide +kernel
theorem dX7_fitsBehind_115 : decode cX7_fitsBehind 115 = .ok (.goto (-113), 3) := by decide +kernel
theorem dX7_fitsBehind_118 : decode cX7_fitsBehind 118 = .ok (.iconst 1, 1) := by decide +kernel
theorem dX7_fitsBehind_119 : decode cX7_fitsBehind 119 = .ok (.ireturn, 1) := by decide +kernel
theorem mk_X7_fitsBehind : MVk yX7_fitsBehind "FairBlocks$Sightings" cX7_fitsBehind 6 (Option.some FieldType.boolean) 2 := ⟨w_628, w_627, wp_11, w_11, rfl, by decide +kernel, by decide +kernel, by decide +kernel⟩
def BX7_fitsBehind_0 (G : Nat → KT) (Q : Option mV → mM → Prop) : KT := (s_iconst (0) (s_istore 3 (s_at G 2 [true, true, true, true, false, false])))
set_option maxRecDepth 4000 in
theorem bsX7_fitsBehind_0 {p : Program} {l : Launch} {e : Env} {s : State} {m : MethodId} {args : Array Value} {below : List Frame} {meth : Method} {c : Code} {D : va_G} {ca : Nat → ClassId} {ad : Nat → Nat} {A : Nat → Prop} {Q : Option mV → mM → Prop} (hX : CX p s m args meth c 6 cX7_fitsBehind "FairBlocks$Sightings" D ca ad A) (hr : meth.sig.returnType = (Option.some FieldType.boolean)) : ∀ lv st M, BX7_fitsBehind_0 (Gd p l e (rmD 1) s m args below meth c 6 D ca ad A 0 0 (MQ below (QC D ca ad A Q) args s 0 0 A)) Q lv st M → Gd p l e (rmD 1) s m args below meth c 6 D ca ad A 0 0 (MQ below (QC D ca ad A Q) args s 0 0 A) 0 lv st M :=
  (sd_iconst hX dX7_fitsBehind_0 rfl (sd_istore_n hX (by decide) dX7_fitsBehind_1 rfl sd_at))
def BX7_fitsBehind_2 (G : Nat → KT) (Q : Option mV → mM → Prop) : KT := (s_iload 3 (s_aload 0 (s_geti 7 6 (s_icmp (fun x y => y ≤ x) (s_at G 118 [false, false, false, false, false, false]) (s_aload 0 (s_getr 7 13 (fun _ => 152) (s_iload 3 (s_iald (s_iload 2 (s_icmp (fun x y => x = y) ((s_aload 0 (s_getr 7 1 (fun _ => 3) (s_getr 1 5 (fun _ => 4) (s_aload 0 (s_getr 7 13 (fun _ => 153) (s_iload 3 (s_iald (s_callV 5 1 pre_X5_has fn_X5_has (s_if (fun x => x = 0) (s_at G 112 [true, true, true, true, false, false]) (s_aload 1 (s_getr 8 16 (fun k => k + 1) (s_aload 0 (s_getr 7 13 (fun _ => 153) (s_iload 3 (s_iald (s_aaldU (s_astore 4 (s_aload 0 (s_getr 7 13 (fun _ => 154) (s_iload 3 (s_iald (s_if (fun x => x = 0) ((s_aload 4 (s_geti 10 7 (s_at G 74 [true, true, true, true, false, false])))) (s_at G 69 [true, true, true, true, true, false])))))))))))))))))))))))) (s_at G 112 [true, true, true, true, false, false])))))))))))
set_option maxRecDepth 4000 in
theorem bsX7_fitsBehind_2 {p : Program} {l : Launch} {e : Env} {s : State} {m : MethodId} {args : Array Value} {below : List Frame} {meth : Method} {c : Code} {D : va_G} {ca : Nat → ClassId} {ad : Nat → Nat} {A : Nat → Prop} {Q : Option mV → mM → Prop} (hX : CX p s m args meth c 6 cX7_fitsBehind "FairBlocks$Sightings" D ca ad A) (hr : meth.sig.returnType = (Option.some FieldType.boolean)) : ∀ lv st M, BX7_fitsBehind_2 (Gd p l e (rmD 1) s m args below meth c 6 D ca ad A 0 0 (MQ below (QC D ca ad A Q) args s 0 0 A)) Q lv st M → Gd p l e (rmD 1) s m args below meth c 6 D ca ad A 0 0 (MQ below (QC D ca ad A Q) args s 0 0 A) 2 lv st M :=
  (sd_iload_n hX dX7_fitsBehind_2 rfl (sd_aload_n hX dX7_fitsBehind_3 rfl (sd_geti hX fl_274 (by decide) dX7_fitsBehind_4 (sd_icmp_ge hX dX7_fitsBehind_7 (by decide) sd_at (sd_aload_n hX dX7_fitsBehind_10 rfl (sd_getr hX fl_269 (fun _ => rfl) (fun _ _ _ => by decide +kernel) dX7_fitsBehind_11 (sd_iload_n hX dX7_fitsBehind_14 rfl (sd_iald hX dX7_fitsBehind_15 (sd_iload_n hX dX7_fitsBehind_16 rfl (sd_icmp_ne hX dX7_fitsBehind_17 (by decide) sd_at (sd_aload_n hX dX7_fitsBehind_20 rfl (sd_getr hX fl_268 (fun _ => rfl) (fun _ _ _ => by decide +kernel) dX7_fitsBehind_21 (sd_getr hX fl_190 (fun _ => rfl) (fun _ _ _ => by decide +kernel) dX7_fitsBehind_24 (sd_aload_n hX dX7_fitsBehind_27 rfl (sd_getr hX fl_270 (fun _ => rfl) (fun _ _ _ => by decide +kernel) dX7_fitsBehind_28 (sd_iload_n hX dX7_fitsBehind_31 rfl (sd_iald hX dX7_fitsBehind_32 (sd_callV hX (kd := 5) rfl (by decide) (ct_X5_has l) mk_X5_has w_629 ⟨⟨by decide, by decide⟩, by decide, by decide⟩ dX7_fitsBehind_33 (sd_if_eq hX dX7_fitsBehind_36 (by decide) sd_at (sd_aload_n hX dX7_fitsBehind_39 rfl (sd_getr hX fl_144 (fun _ => rfl) okA dX7_fitsBehind_40 (sd_aload_n hX dX7_fitsBehind_43 rfl (sd_getr hX fl_270 (fun _ => rfl) (fun _ _ _ => by decide +kernel) dX7_fitsBehind_44 (sd_iload_n hX dX7_fitsBehind_47 rfl (sd_iald hX dX7_fitsBehind_48 (sd_aaldU hX dX7_fitsBehind_49 (sd_astore hX (by decide) dX7_fitsBehind_50 (sd_aload_n hX dX7_fitsBehind_52 rfl (sd_getr hX fl_271 (fun _ => rfl) (fun _ _ _ => by decide +kernel) dX7_fitsBehind_53 (sd_iload_n hX dX7_fitsBehind_56 rfl (sd_iald hX dX7_fitsBehind_57 (sd_if_ne hX dX7_fitsBehind_58 (by decide) sd_at (sd_aload hX dX7_fitsBehind_61 (sd_geti hX fl_116 (by decide) dX7_fitsBehind_63 (sd_goto hX dX7_fitsBehind_66 (by decide) sd_at)))))))))))))))))))))))))))))))))))
def BX7_fitsBehind_69 (G : Nat → KT) (Q : Option mV → mM → Prop) : KT := (s_aload 4 (s_callV 10 0 pre_X10_waiting fn_X10_waiting (s_at G 74 [true, true, true, true, false, false])))
set_option maxRecDepth 4000 in
theorem bsX7_fitsBehind_69 {p : Program} {l : Launch} {e : Env} {s : State} {m : MethodId} {args : Array Value} {below : List Frame} {meth : Method} {c : Code} {D : va_G} {ca : Nat → ClassId} {ad : Nat → Nat} {A : Nat → Prop} {Q : Option mV → mM → Prop} (hX : CX p s m args meth c 6 cX7_fitsBehind "FairBlocks$Sightings" D ca ad A) (hr : meth.sig.returnType = (Option.some FieldType.boolean)) : ∀ lv st M, BX7_fitsBehind_69 (Gd p l e (rmD 1) s m args below meth c 6 D ca ad A 0 0 (MQ below (QC D ca ad A Q) args s 0 0 A)) Q lv st M → Gd p l e (rmD 1) s m args below meth c 6 D ca ad A 0 0 (MQ below (QC D ca ad A Q) args s 0 0 A) 69 lv st M :=
  (sd_aload hX dX7_fitsBehind_69 (sd_callV hX (kd := 10) rfl (by decide) (ct_X10_waiting l) mk_X10_waiting w_630 ⟨⟨by decide, by decide⟩, by decide, by decide⟩ dX7_fitsBehind_71 sd_at))
def BX7_fitsBehind_74 (G : Nat → KT) (Q : Option mV → mM → Prop) : KT := (s_istore 5 (s_iload 5 (s_aload 0 (s_getr 7 13 (fun _ => 155) (s_iload 3 (s_iald (s_icmp (fun x y => x = y) ((s_iconst (1) (s_at G 92 [true, true, true, true, false, false]))) (s_at G 91 [true, true, true, true, false, false]))))))))
set_option maxRecDepth 4000 in
theorem bsX7_fitsBehind_74 {p : Program} {l : Launch} {e : Env} {s : State} {m : MethodId} {args : Array Value} {below : List Frame} {meth : Method} {c : Code} {D : va_G} {ca : Nat → ClassId} {ad : Nat → Nat} {A : Nat → Prop} {Q : Option mV → mM → Prop} (hX : CX p s m args meth c 6 cX7_fitsBehind "FairBlocks$Sightings" D ca ad A) (hr : meth.sig.returnType = (Option.some FieldType.boolean)) : ∀ lv st M, BX7_fitsBehind_74 (Gd p l e (rmD 1) s m args below meth c 6 D ca ad A 0 0 (MQ below (QC D ca ad A Q) args s 0 0 A)) Q lv st M → Gd p l e (rmD 1) s m args below meth c 6 D ca ad A 0 0 (MQ below (QC D ca ad A Q) args s 0 0 A) 74 lv st M :=
  (sd_istore hX (by decide) dX7_fitsBehind_74 (sd_iload hX dX7_fitsBehind_76 (sd_aload_n hX dX7_fitsBehind_78 rfl (sd_getr hX fl_272 (fun _ => rfl) (fun _ _ _ => by decide +kernel) dX7_fitsBehind_79 (sd_iload_n hX dX7_fitsBehind_82 rfl (sd_iald hX dX7_fitsBehind_83 (sd_icmp_ne hX dX7_fitsBehind_84 (by decide) sd_at (sd_iconst hX dX7_fitsBehind_87 rfl (sd_goto hX dX7_fitsBehind_88 (by decide) sd_at)))))))))
def BX7_fitsBehind_91 (G : Nat → KT) (Q : Option mV → mM → Prop) : KT := (s_iconst (0) (s_at G 92 [true, true, true, true, false, false]))
set_option maxRecDepth 4000 in
theorem bsX7_fitsBehind_91 {p : Program} {l : Launch} {e : Env} {s : State} {m : MethodId} {args : Array Value} {below : List Frame} {meth : Method} {c : Code} {D : va_G} {ca : Nat → ClassId} {ad : Nat → Nat} {A : Nat → Prop} {Q : Option mV → mM → Prop} (hX : CX p s m args meth c 6 cX7_fitsBehind "FairBlocks$Sightings" D ca ad A) (hr : meth.sig.returnType = (Option.some FieldType.boolean)) : ∀ lv st M, BX7_fitsBehind_91 (Gd p l e (rmD 1) s m args below meth c 6 D ca ad A 0 0 (MQ below (QC D ca ad A Q) args s 0 0 A)) Q lv st M → Gd p l e (rmD 1) s m args below meth c 6 D ca ad A 0 0 (MQ below (QC D ca ad A Q) args s 0 0 A) 91 lv st M :=
  (sd_iconst hX dX7_fitsBehind_91 rfl sd_at)
def BX7_fitsBehind_92 (G : Nat → KT) (Q : Option mV → mM → Prop) : KT := (s_aload 0 (s_getr 7 13 (fun _ => 156) (s_iload 3 (s_iald (s_iconst (1) (s_icmp (fun x y => x = y) ((s_iconst (1) (s_at G 107 [true, true, true, true, false, false]))) (s_at G 106 [true, true, true, true, false, false])))))))
set_option maxRecDepth 4000 in
theorem bsX7_fitsBehind_92 {p : Program} {l : Launch} {e : Env} {s : State} {m : MethodId} {args : Array Value} {below : List Frame} {meth : Method} {c : Code} {D : va_G} {ca : Nat → ClassId} {ad : Nat → Nat} {A : Nat → Prop} {Q : Option mV → mM → Prop} (hX : CX p s m args meth c 6 cX7_fitsBehind "FairBlocks$Sightings" D ca ad A) (hr : meth.sig.returnType = (Option.some FieldType.boolean)) : ∀ lv st M, BX7_fitsBehind_92 (Gd p l e (rmD 1) s m args below meth c 6 D ca ad A 0 0 (MQ below (QC D ca ad A Q) args s 0 0 A)) Q lv st M → Gd p l e (rmD 1) s m args below meth c 6 D ca ad A 0 0 (MQ below (QC D ca ad A Q) args s 0 0 A) 92 lv st M :=
  (sd_aload_n hX dX7_fitsBehind_92 rfl (sd_getr hX fl_273 (fun _ => rfl) (fun _ _ _ => by decide +kernel) dX7_fitsBehind_93 (sd_iload_n hX dX7_fitsBehind_96 rfl (sd_iald hX dX7_fitsBehind_97 (sd_iconst hX dX7_fitsBehind_98 rfl (sd_icmp_ne hX dX7_fitsBehind_99 (by decide) sd_at (sd_iconst hX dX7_fitsBehind_102 rfl (sd_goto hX dX7_fitsBehind_103 (by decide) sd_at))))))))
def BX7_fitsBehind_106 (G : Nat → KT) (Q : Option mV → mM → Prop) : KT := (s_iconst (0) (s_at G 107 [true, true, true, true, false, false]))
set_option maxRecDepth 4000 in
theorem bsX7_fitsBehind_106 {p : Program} {l : Launch} {e : Env} {s : State} {m : MethodId} {args : Array Value} {below : List Frame} {meth : Method} {c : Code} {D : va_G} {ca : Nat → ClassId} {ad : Nat → Nat} {A : Nat → Prop} {Q : Option mV → mM → Prop} (hX : CX p s m args meth c 6 cX7_fitsBehind "FairBlocks$Sightings" D ca ad A) (hr : meth.sig.returnType = (Option.some FieldType.boolean)) : ∀ lv st M, BX7_fitsBehind_106 (Gd p l e (rmD 1) s m args below meth c 6 D ca ad A 0 0 (MQ below (QC D ca ad A Q) args s 0 0 A)) Q lv st M → Gd p l e (rmD 1) s m args below meth c 6 D ca ad A 0 0 (MQ below (QC D ca ad A Q) args s 0 0 A) 106 lv st M :=
  (sd_iconst hX dX7_fitsBehind_106 rfl sd_at)
def BX7_fitsBehind_107 (G : Nat → KT) (Q : Option mV → mM → Prop) : KT := (s_icmp (fun x y => x = y) (s_at G 112 [true, true, true, true, false, false]) (s_iconst (0) (s_zret Q)))
set_option maxRecDepth 4000 in
theorem bsX7_fitsBehind_107 {p : Program} {l : Launch} {e : Env} {s : State} {m : MethodId} {args : Array Value} {below : List Frame} {meth : Method} {c : Code} {D : va_G} {ca : Nat → ClassId} {ad : Nat → Nat} {A : Nat → Prop} {Q : Option mV → mM → Prop} (hX : CX p s m args meth c 6 cX7_fitsBehind "FairBlocks$Sightings" D ca ad A) (hr : meth.sig.returnType = (Option.some FieldType.boolean)) : ∀ lv st M, BX7_fitsBehind_107 (Gd p l e (rmD 1) s m args below meth c 6 D ca ad A 0 0 (MQ below (QC D ca ad A Q) args s 0 0 A)) Q lv st M → Gd p l e (rmD 1) s m args below meth c 6 D ca ad A 0 0 (MQ below (QC D ca ad A Q) args s 0 0 A) 107 lv st M :=
  (sd_icmp_eq hX dX7_fitsBehind_107 (by decide) sd_at (sd_iconst hX dX7_fitsBehind_110 rfl (sd_zret hX hr dX7_fitsBehind_111)))
def BX7_fitsBehind_112 (G : Nat → KT) (Q : Option mV → mM → Prop) : KT := (s_iinc 3 (1) (s_at G 2 [true, true, true, true, false, false]))
set_option maxRecDepth 4000 in
theorem bsX7_fitsBehind_112 {p : Program} {l : Launch} {e : Env} {s : State} {m : MethodId} {args : Array Value} {below : List Frame} {meth : Method} {c : Code} {D : va_G} {ca : Nat → ClassId} {ad : Nat → Nat} {A : Nat → Prop} {Q : Option mV → mM → Prop} (hX : CX p s m args meth c 6 cX7_fitsBehind "FairBlocks$Sightings" D ca ad A) (hr : meth.sig.returnType = (Option.some FieldType.boolean)) : ∀ lv st M, BX7_fitsBehind_112 (Gd p l e (rmD 1) s m args below meth c 6 D ca ad A 0 0 (MQ below (QC D ca ad A Q) args s 0 0 A)) Q lv st M → Gd p l e (rmD 1) s m args below meth c 6 D ca ad A 0 0 (MQ below (QC D ca ad A Q) args s 0 0 A) 112 lv st M :=
  (sd_iinc hX (by decide) dX7_fitsBehind_112 rfl (sd_goto hX dX7_fitsBehind_115 (by decide) sd_at))
def BX7_fitsBehind_118 (G : Nat → KT) (Q : Option mV → mM → Prop) : KT := (s_iconst (1) (s_zret Q))
set_option maxRecDepth 4000 in
theorem bsX7_fitsBehind_118 {p : Program} {l : Launch} {e : Env} {s : State} {m : MethodId} {args : Array Value} {below : List Frame} {meth : Method} {c : Code} {D : va_G} {ca : Nat → ClassId} {ad : Nat → Nat} {A : Nat → Prop} {Q : Option mV → mM → Prop} (hX : CX p s m args meth c 6 cX7_fitsBehind "FairBlocks$Sightings" D ca ad A) (hr : meth.sig.returnType = (Option.some FieldType.boolean)) : ∀ lv st M, BX7_fitsBehind_118 (Gd p l e (rmD 1) s m args below meth c 6 D ca ad A 0 0 (MQ below (QC D ca ad A Q) args s 0 0 A)) Q lv st M → Gd p l e (rmD 1) s m args below meth c 6 D ca ad A 0 0 (MQ below (QC D ca ad A Q) args s 0 0 A) 118 lv st M :=
  (sd_iconst hX dX7_fitsBehind_118 rfl (sd_zret hX hr dX7_fitsBehind_119))
set_option maxHeartbeats 400000 in
theorem pf_X7_fitsBehind (G : Nat → KT) (Q : Option mV → mM → Prop) (h0 : ∀ lv st M, BX7_fitsBehind_0 G Q lv st M → G 0 lv st M) (h2 : ∀ lv st M, BX7_fitsBehind_2 G Q lv st M → G 2 lv st M) (h69 : ∀ lv st M, BX7_fitsBehind_69 G Q lv st M → G 69 lv st M) (h74 : ∀ lv st M, BX7_fitsBehind_74 G Q lv st M → G 74 lv st M) (h91 : ∀ lv st M, BX7_fitsBehind_91 G Q lv st M → G 91 lv st M) (h92 : ∀ lv st M, BX7_fitsBehind_92 G Q lv st M → G 92 lv st M) (h106 : ∀ lv st M, BX7_fitsBehind_106 G Q lv st M → G 106 lv st M) (h107 : ∀ lv st M, BX7_fitsBehind_107 G Q lv st M → G 107 lv st M) (h112 : ∀ lv st M, BX7_fitsBehind_112 G Q lv st M → G 112 lv st M) (h118 : ∀ lv st M, BX7_fitsBehind_118 G Q lv st M → G 118 lv st M) (as : List mV) (M : mM) (ho : ∀ v ∈ as, okV v) (hp : pre_X7_fitsBehind as M) (hQ : Q (fn_X7_fitsBehind as M).1 (fn_X7_fitsBehind as M).2) : G 0 (inL as ++ List.replicate (6 - (inL as).length) none) [] M := by
  obtain ⟨c, k, x, rfl, hS, hPL⟩ := hp
  obtain rfl : c = 151 := k7s (ho (.inr (.inr (7, c))) (by simp))
  have hk : kof k = 8 := ho (.inr (.inr (8, k))) (by simp)
  have hl := lnU hk
  have hn := n5 hPL
  obtain ⟨hz, ez, -⟩ := nZ_e hS
  simp only [fn_X7_fitsBehind] at hQ
  have loop : ∀ (n i : Nat), i + n = nZ M → Q (some (.inl (fbL M k x n i))) M → G 2 [some (.inr (.inr (7, 151))), some (.inr (.inr (8, k))), some (.inl x), some (.inl (nI i)), none, none] [] M := by
    intro n
    induction n with
    | zero =>
      intro i hi hq
      obtain rfl : i = nZ M := by omega
      (apply h2; simp only [BX7_fitsBehind_2, s_mth, s_mab, s_at, s_iconst, s_lconst, s_iload, s_lload, s_aload, s_istore, s_lstore, s_astore, s_iinc, s_bin, s_binG, s_un, s_lbin, s_lbinG, s_lsh, s_lcmp, s_i2l, s_l2i, s_dup, s_dup2, s_pop, s_if, s_icmp, s_geti, s_getl, s_getr, s_puti, s_putz, s_putl, s_iald, s_zald, s_iast, s_zast, s_aaldS, s_aaldU, s_gets, s_tald, s_tsw, tsw, s_iret, s_zret, s_lret, s_aret, s_vret, s_callV, s_callS, c1, nl1, keepL, csum, pushR, inL, List.getD_cons_zero, List.getD_cons_succ, List.set_cons_zero, List.set_cons_succ, List.cons_append, List.nil_append, List.append_nil, List.replicate, List.length_cons, List.length_nil, List.take_succ_cons, List.take_zero, List.drop_succ_cons, List.drop_zero, List.reverse_cons, List.reverse_nil, true_and, and_true, forall_const, not_true_eq_false, not_false_eq_true, false_implies, true_implies, implies_true, one0, m10, Nat.reduceAdd, Nat.reduceSub, Nat.reduceLeDiff, Nat.zero_add, Nat.add_zero, fn_X10_waiting, fn_X5_has])
      rw [ez]
      refine ⟨fun _ => ?_, fun h => absurd (nI_le (Nat.le_refl _) (by omega)) h⟩
      (apply h118; simp only [BX7_fitsBehind_118, s_mth, s_mab, s_at, s_iconst, s_lconst, s_iload, s_lload, s_aload, s_istore, s_lstore, s_astore, s_iinc, s_bin, s_binG, s_un, s_lbin, s_lbinG, s_lsh, s_lcmp, s_i2l, s_l2i, s_dup, s_dup2, s_pop, s_if, s_icmp, s_geti, s_getl, s_getr, s_puti, s_putz, s_putl, s_iald, s_zald, s_iast, s_zast, s_aaldS, s_aaldU, s_gets, s_tald, s_tsw, tsw, s_iret, s_zret, s_lret, s_aret, s_vret, s_callV, s_callS, c1, nl1, keepL, csum, pushR, inL, List.getD_cons_zero, List.getD_cons_succ, List.set_cons_zero, List.set_cons_succ, List.cons_append, List.nil_append, List.append_nil, List.replicate, List.length_cons, List.length_nil, List.take_succ_cons, List.take_zero, List.drop_succ_cons, List.drop_zero, List.reverse_cons, List.reverse_nil, true_and, and_true, forall_const, not_true_eq_false, not_false_eq_true, false_implies, true_implies, implies_true, one0, m10, Nat.reduceAdd, Nat.reduceSub, Nat.reduceLeDiff, Nat.zero_add, Nat.add_zero, fn_X10_waiting, fn_X5_has])
      exact ⟨by simp, hq⟩
    | succ n ih =>
      intro i hi hq
      have ei : (nI i).toNatClampNeg = i := nI_clamp (by omega)
      have hv : vp_in (nI i) 6 := vp_in_nI (by omega) (by decide)
      have L112 : fbC M k x i = 1 → G 112 [some (.inr (.inr (7, 151))), some (.inr (.inr (8, k))), some (.inl x), some (.inl (nI i)), none, none] [] M := by
        intro h
        (apply h112; simp only [BX7_fitsBehind_112, s_mth, s_mab, s_at, s_iconst, s_lconst, s_iload, s_lload, s_aload, s_istore, s_lstore, s_astore, s_iinc, s_bin, s_binG, s_un, s_lbin, s_lbinG, s_lsh, s_lcmp, s_i2l, s_l2i, s_dup, s_dup2, s_pop, s_if, s_icmp, s_geti, s_getl, s_getr, s_puti, s_putz, s_putl, s_iald, s_zald, s_iast, s_zast, s_aaldS, s_aaldU, s_gets, s_tald, s_tsw, tsw, s_iret, s_zret, s_lret, s_aret, s_vret, s_callV, s_callS, c1, nl1, keepL, csum, pushR, inL, List.getD_cons_zero, List.getD_cons_succ, List.set_cons_zero, List.set_cons_succ, List.cons_append, List.nil_append, List.append_nil, List.replicate, List.length_cons, List.length_nil, List.take_succ_cons, List.take_zero, List.drop_succ_cons, List.drop_zero, List.reverse_cons, List.reverse_nil, true_and, and_true, forall_const, not_true_eq_false, not_false_eq_true, false_implies, true_implies, implies_true, one0, m10, Nat.reduceAdd, Nat.reduceSub, Nat.reduceLeDiff, Nat.zero_add, Nat.add_zero, fn_X10_waiting, fn_X5_has])
        rw [nI_1]
        refine ih (i + 1) (by omega) ?_
        rw [fbL, h, if_neg (by decide)] at hq
        exact hq
      have F : fbC M k x i = 0 → Q (some (.inl 0)) M := by
        intro h
        rw [fbL, if_pos h] at hq
        exact hq
      unfold fbC at L112 F
      (apply h2; simp only [BX7_fitsBehind_2, s_mth, s_mab, s_at, s_iconst, s_lconst, s_iload, s_lload, s_aload, s_istore, s_lstore, s_astore, s_iinc, s_bin, s_binG, s_un, s_lbin, s_lbinG, s_lsh, s_lcmp, s_i2l, s_l2i, s_dup, s_dup2, s_pop, s_if, s_icmp, s_geti, s_getl, s_getr, s_puti, s_putz, s_putl, s_iald, s_zald, s_iast, s_zast, s_aaldS, s_aaldU, s_gets, s_tald, s_tsw, tsw, s_iret, s_zret, s_lret, s_aret, s_vret, s_callV, s_callS, c1, nl1, keepL, csum, pushR, inL, List.getD_cons_zero, List.getD_cons_succ, List.set_cons_zero, List.set_cons_succ, List.cons_append, List.nil_append, List.append_nil, List.replicate, List.length_cons, List.length_nil, List.take_succ_cons, List.take_zero, List.drop_succ_cons, List.drop_zero, List.reverse_cons, List.reverse_nil, true_and, and_true, forall_const, not_true_eq_false, not_false_eq_true, false_implies, true_implies, implies_true, one0, m10, Nat.reduceAdd, Nat.reduceSub, Nat.reduceLeDiff, Nat.zero_add, Nat.add_zero, fn_X10_waiting, fn_X5_has])
      simp only [ez, l152, ei, hl]
      refine ⟨fun h => absurd h (nI_ge (by omega) (by omega)), fun _ => ⟨hv, fun h => ⟨hv, ⟨_, _, rfl⟩, fun h2 => ?_, fun h2 => ?_⟩, fun h => ?_⟩⟩
      · exact L112 (by rw [if_pos h, if_pos h2])
      · rw [if_pos h, if_neg h2] at L112 F
        obtain ⟨j, hj, ej⟩ := hasI_1 hPL h2
        have L107 : ∀ p q : Int32, ((if p = q then (1 : Int32) else 0) = 1 → G 112 [some (.inr (.inr (7, 151))), some (.inr (.inr (8, k))), some (.inl x), some (.inl (nI i)), none, none] [] M) → ((if p = q then (1 : Int32) else 0) = 0 → Q (some (.inl 0)) M) → G 107 [some (.inr (.inr (7, 151))), some (.inr (.inr (8, k))), some (.inl x), some (.inl (nI i)), none, none] [.inl q, .inl p] M := by
          intro p q a b
          (apply h107; simp only [BX7_fitsBehind_107, s_mth, s_mab, s_at, s_iconst, s_lconst, s_iload, s_lload, s_aload, s_istore, s_lstore, s_astore, s_iinc, s_bin, s_binG, s_un, s_lbin, s_lbinG, s_lsh, s_lcmp, s_i2l, s_l2i, s_dup, s_dup2, s_pop, s_if, s_icmp, s_geti, s_getl, s_getr, s_puti, s_putz, s_putl, s_iald, s_zald, s_iast, s_zast, s_aaldS, s_aaldU, s_gets, s_tald, s_tsw, tsw, s_iret, s_zret, s_lret, s_aret, s_vret, s_callV, s_callS, c1, nl1, keepL, csum, pushR, inL, List.getD_cons_zero, List.getD_cons_succ, List.set_cons_zero, List.set_cons_succ, List.cons_append, List.nil_append, List.append_nil, List.replicate, List.length_cons, List.length_nil, List.take_succ_cons, List.take_zero, List.drop_succ_cons, List.drop_zero, List.reverse_cons, List.reverse_nil, true_and, and_true, forall_const, not_true_eq_false, not_false_eq_true, false_implies, true_implies, implies_true, one0, m10, Nat.reduceAdd, Nat.reduceSub, Nat.reduceLeDiff, Nat.zero_add, Nat.add_zero, fn_X10_waiting, fn_X5_has])
          refine ⟨fun h => ?_, fun h => ?_⟩
          · exact a (by rw [if_pos h])
          · exact ⟨by simp, b (by rw [if_neg h])⟩
        have L74 : ∀ w : Int32, w = fg M k i → G 74 [some (.inr (.inr (7, 151))), some (.inr (.inr (8, k))), some (.inl x), some (.inl (nI i)), none, none] [.inl w] M := by
          intro w ew
          subst ew
          have L92 : ∀ p : Int32, p = (if fg M k i = M.1 155 i then 1 else 0) → G 92 [some (.inr (.inr (7, 151))), some (.inr (.inr (8, k))), some (.inl x), some (.inl (nI i)), none, none] [.inl p] M := by
            intro p ep
            rw [← ep] at L112 F
            (apply h92; simp only [BX7_fitsBehind_92, s_mth, s_mab, s_at, s_iconst, s_lconst, s_iload, s_lload, s_aload, s_istore, s_lstore, s_astore, s_iinc, s_bin, s_binG, s_un, s_lbin, s_lbinG, s_lsh, s_lcmp, s_i2l, s_l2i, s_dup, s_dup2, s_pop, s_if, s_icmp, s_geti, s_getl, s_getr, s_puti, s_putz, s_putl, s_iald, s_zald, s_iast, s_zast, s_aaldS, s_aaldU, s_gets, s_tald, s_tsw, tsw, s_iret, s_zret, s_lret, s_aret, s_vret, s_callV, s_callS, c1, nl1, keepL, csum, pushR, inL, List.getD_cons_zero, List.getD_cons_succ, List.set_cons_zero, List.set_cons_succ, List.cons_append, List.nil_append, List.append_nil, List.replicate, List.length_cons, List.length_nil, List.take_succ_cons, List.take_zero, List.drop_succ_cons, List.drop_zero, List.reverse_cons, List.reverse_nil, true_and, and_true, forall_const, not_true_eq_false, not_false_eq_true, false_implies, true_implies, implies_true, one0, m10, Nat.reduceAdd, Nat.reduceSub, Nat.reduceLeDiff, Nat.zero_add, Nat.add_zero, fn_X10_waiting, fn_X5_has])
            simp only [l152, ei]
            refine ⟨hv, fun h => ?_, fun h => ?_⟩
            · rw [if_pos h] at L112 F
              exact L107 p 1 L112 F
            · rw [if_neg h] at L112 F
              (apply h106; simp only [BX7_fitsBehind_106, s_mth, s_mab, s_at, s_iconst, s_lconst, s_iload, s_lload, s_aload, s_istore, s_lstore, s_astore, s_iinc, s_bin, s_binG, s_un, s_lbin, s_lbinG, s_lsh, s_lcmp, s_i2l, s_l2i, s_dup, s_dup2, s_pop, s_if, s_icmp, s_geti, s_getl, s_getr, s_puti, s_putz, s_putl, s_iald, s_zald, s_iast, s_zast, s_aaldS, s_aaldU, s_gets, s_tald, s_tsw, tsw, s_iret, s_zret, s_lret, s_aret, s_vret, s_callV, s_callS, c1, nl1, keepL, csum, pushR, inL, List.getD_cons_zero, List.getD_cons_succ, List.set_cons_zero, List.set_cons_succ, List.cons_append, List.nil_append, List.append_nil, List.replicate, List.length_cons, List.length_nil, List.take_succ_cons, List.take_zero, List.drop_succ_cons, List.drop_zero, List.reverse_cons, List.reverse_nil, true_and, and_true, forall_const, not_true_eq_false, not_false_eq_true, false_implies, true_implies, implies_true, one0, m10, Nat.reduceAdd, Nat.reduceSub, Nat.reduceLeDiff, Nat.zero_add, Nat.add_zero, fn_X10_waiting, fn_X5_has])
              exact L107 p 0 L112 F
          (apply h74; simp only [BX7_fitsBehind_74, s_mth, s_mab, s_at, s_iconst, s_lconst, s_iload, s_lload, s_aload, s_istore, s_lstore, s_astore, s_iinc, s_bin, s_binG, s_un, s_lbin, s_lbinG, s_lsh, s_lcmp, s_i2l, s_l2i, s_dup, s_dup2, s_pop, s_if, s_icmp, s_geti, s_getl, s_getr, s_puti, s_putz, s_putl, s_iald, s_zald, s_iast, s_zast, s_aaldS, s_aaldU, s_gets, s_tald, s_tsw, tsw, s_iret, s_zret, s_lret, s_aret, s_vret, s_callV, s_callS, c1, nl1, keepL, csum, pushR, inL, List.getD_cons_zero, List.getD_cons_succ, List.set_cons_zero, List.set_cons_succ, List.cons_append, List.nil_append, List.append_nil, List.replicate, List.length_cons, List.length_nil, List.take_succ_cons, List.take_zero, List.drop_succ_cons, List.drop_zero, List.reverse_cons, List.reverse_nil, true_and, and_true, forall_const, not_true_eq_false, not_false_eq_true, false_implies, true_implies, implies_true, one0, m10, Nat.reduceAdd, Nat.reduceSub, Nat.reduceLeDiff, Nat.zero_add, Nat.add_zero, fn_X10_waiting, fn_X5_has])
          simp only [l152, ei]
          refine ⟨hv, fun h => ?_, fun h => ?_⟩
          · exact L92 1 (by rw [if_pos h])
          · (apply h91; simp only [BX7_fitsBehind_91, s_mth, s_mab, s_at, s_iconst, s_lconst, s_iload, s_lload, s_aload, s_istore, s_lstore, s_astore, s_iinc, s_bin, s_binG, s_un, s_lbin, s_lbinG, s_lsh, s_lcmp, s_i2l, s_l2i, s_dup, s_dup2, s_pop, s_if, s_icmp, s_geti, s_getl, s_getr, s_puti, s_putz, s_putl, s_iald, s_zald, s_iast, s_zast, s_aaldS, s_aaldU, s_gets, s_tald, s_tsw, tsw, s_iret, s_zret, s_lret, s_aret, s_vret, s_callV, s_callS, c1, nl1, keepL, csum, pushR, inL, List.getD_cons_zero, List.getD_cons_succ, List.set_cons_zero, List.set_cons_succ, List.cons_append, List.nil_append, List.append_nil, List.replicate, List.length_cons, List.length_nil, List.take_succ_cons, List.take_zero, List.drop_succ_cons, List.drop_zero, List.reverse_cons, List.reverse_nil, true_and, and_true, forall_const, not_true_eq_false, not_false_eq_true, false_implies, true_implies, implies_true, one0, m10, Nat.reduceAdd, Nat.reduceSub, Nat.reduceLeDiff, Nat.zero_add, Nat.add_zero, fn_X10_waiting, fn_X5_has])
            exact L92 0 (by rw [if_neg h])
        refine ⟨hv, by rw [ej]; exact vp_in_nI (by omega) (by decide), hv, fun h3 => ?_, fun h3 => ?_⟩
        · exact L74 _ (by rw [fg, if_pos h3])
        · (apply h69; simp only [BX7_fitsBehind_69, s_mth, s_mab, s_at, s_iconst, s_lconst, s_iload, s_lload, s_aload, s_istore, s_lstore, s_astore, s_iinc, s_bin, s_binG, s_un, s_lbin, s_lbinG, s_lsh, s_lcmp, s_i2l, s_l2i, s_dup, s_dup2, s_pop, s_if, s_icmp, s_geti, s_getl, s_getr, s_puti, s_putz, s_putl, s_iald, s_zald, s_iast, s_zast, s_aaldS, s_aaldU, s_gets, s_tald, s_tsw, tsw, s_iret, s_zret, s_lret, s_aret, s_vret, s_callV, s_callS, c1, nl1, keepL, csum, pushR, inL, List.getD_cons_zero, List.getD_cons_succ, List.set_cons_zero, List.set_cons_succ, List.cons_append, List.nil_append, List.append_nil, List.replicate, List.length_cons, List.length_nil, List.take_succ_cons, List.take_zero, List.drop_succ_cons, List.drop_zero, List.reverse_cons, List.reverse_nil, true_and, and_true, forall_const, not_true_eq_false, not_false_eq_true, false_implies, true_implies, implies_true, one0, m10, Nat.reduceAdd, Nat.reduceSub, Nat.reduceLeDiff, Nat.zero_add, Nat.add_zero, fn_X10_waiting, fn_X5_has])
          exact ⟨⟨_, rfl⟩, L74 _ (by rw [fg, if_neg h3])⟩
      · exact L112 (by rw [if_neg h])
  (apply h0; simp only [BX7_fitsBehind_0, s_mth, s_mab, s_at, s_iconst, s_lconst, s_iload, s_lload, s_aload, s_istore, s_lstore, s_astore, s_iinc, s_bin, s_binG, s_un, s_lbin, s_lbinG, s_lsh, s_lcmp, s_i2l, s_l2i, s_dup, s_dup2, s_pop, s_if, s_icmp, s_geti, s_getl, s_getr, s_puti, s_putz, s_putl, s_iald, s_zald, s_iast, s_zast, s_aaldS, s_aaldU, s_gets, s_tald, s_tsw, tsw, s_iret, s_zret, s_lret, s_aret, s_vret, s_callV, s_callS, c1, nl1, keepL, csum, pushR, inL, List.getD_cons_zero, List.getD_cons_succ, List.set_cons_zero, List.set_cons_succ, List.cons_append, List.nil_append, List.append_nil, List.replicate, List.length_cons, List.length_nil, List.take_succ_cons, List.take_zero, List.drop_succ_cons, List.drop_zero, List.reverse_cons, List.reverse_nil, true_and, and_true, forall_const, not_true_eq_false, not_false_eq_true, false_implies, true_implies, implies_true, one0, m10, Nat.reduceAdd, Nat.reduceSub, Nat.reduceLeDiff, Nat.zero_add, Nat.add_zero, fn_X10_waiting, fn_X5_has])
  exact loop _ 0 (by omega) hQ
theorem ct_X7_fitsBehind (l : Launch) : Con l yX7_fitsBehind cX7_fitsBehind 6 (Option.some FieldType.boolean) 1 pre_X7_fitsBehind fn_X7_fitsBehind := con_of (by decide +kernel) ok_X7_fitsBehind len_X7_fitsBehind (fun p e s m args below meth c D ca ad A as M hX hr hp ho => pf_X7_fitsBehind _ _ (bsX7_fitsBehind_0 hX hr) (bsX7_fitsBehind_2 hX hr) (bsX7_fitsBehind_69 hX hr) (bsX7_fitsBehind_74 hX hr) (bsX7_fitsBehind_91 hX hr) (bsX7_fitsBehind_92 hX hr) (bsX7_fitsBehind_106 hX hr) (bsX7_fitsBehind_107 hX hr) (bsX7_fitsBehind_112 hX hr) (bsX7_fitsBehind_118 hX hr) as M ho hp ⟨rfl, rfl⟩)
def fiM (i : Nat) (M : mM) : mM := if nI i ≤ 0 then M else (ro M 14 0).2
def fiL : Nat → Nat → mM → Int32 × mM
  | 0, _, M => (1, M)
  | m + 1, i, M => if fbL (fiM i M) 14 (nI i) (nZ (fiM i M)) 0 = 0 then (0, fiM i M) else fiL m (i + 1) (fiM i M)
def fi0 (M : mM) (U : Nat) : mM := mset (stc M 14 7) (16 + U) 3 1
def fi (M : mM) (U : Nat) : Int32 × mM := fiL ((lsF (fi0 M U)).toNatClampNeg + 1) 0 (fi0 M U)
theorem lsF_v {M : mM} (h : SEE M) : ∃ L, L ≤ 9 ∧ lsF M = nI L := by
  obtain ⟨hz, ez, ha⟩ := nZ_e h
  exact itr_inv (lsS M) (fun t => ∃ L, L ≤ 9 ∧ t = nI L) (nZ M) 0 0 (fun j t _ h2 ⟨L, hL, e⟩ => by
    obtain ⟨a, h9, ea⟩ := ha j (by omega)
    unfold lsS mx
    split
    · exact ⟨a, h9, ea⟩
    · exact ⟨L, hL, e⟩) ⟨0, by decide, rfl⟩
theorem SEE_of {M M' : mM} (h : SEE M) (h1 : M'.1 151 = M.1 151) (h2 : M'.1 152 = M.1 152) : SEE M' := by
  unfold SEE at h ⊢
  rw [h1, h2]
  exact h
theorem GS_ro {M : mM} {f : Int32} (h : GD M ∧ SEE M) : GD (ro M 14 f).2 ∧ SEE (ro M 14 f).2 :=
  ⟨GD_ro k14 h.1, SEE_of h.2 (f_ro k14 h.1.2 (by unfold fr; omega) (by unfold sc; omega)) (f_ro k14 h.1.2 (by unfold fr; omega) (by unfold sc; omega))⟩
theorem GS_stc {M : mM} (h : GD M ∧ SEE M) : GD (stc M 14 7) ∧ SEE (stc M 14 7) :=
  ⟨GD_stc k14 k7 h.1, SEE_of h.2 (f_stc (by unfold fr; omega)) (f_stc (by unfold fr; omega))⟩
theorem GS_fi0 {M : mM} {U : Nat} (hU : U < 5) (h : GD M ∧ SEE M) : GD (fi0 M U) ∧ SEE (fi0 M U) := by
  have h1 := GS_stc h
  unfold fi0
  have e := GD_u (k := 14) (j := U) (s := 3) (v := 1) k14 hU h1.1 (Or.inr (Or.inr rfl))
  exact ⟨e, SEE_of h1.2 (mset_n (by omega)) (mset_n (by omega))⟩
theorem GS_fiM {M : mM} {i : Nat} (h : GD M ∧ SEE M) : GD (fiM i M) ∧ SEE (fiM i M) := by
  unfold fiM
  split
  · exact h
  · exact GS_ro h
def pre_X7_fits (as : List mV) (M : mM) : Prop := ∃ c u, as = [.inr (.inr (7, c)), .inl u] ∧ (GD M ∧ SEE M) ∧ ∃ j, j < 5 ∧ u = nI j
def fn_X7_fits : List mV → mM → Option mV × mM
  | [.inr (.inr (_, c)), .inl u], M => (some (.inl (fi M u.toNatClampNeg).1), (fi M u.toNatClampNeg).2)
  | _, M => (none, M)
theorem ok_X7_fits (as : List mV) (M : mM) (h : pre_X7_fits as M) (_ : ∀ v ∈ as, okV v) : okR (fn_X7_fits as M).1 := by
  obtain ⟨c, u, rfl, -⟩ := h
  first | trivial | exact (by decide +kernel : kof 14 = 8)
theorem len_X7_fits (as : List mV) (M : mM) (h : pre_X7_fits as M) : (inL as).length ≤ 5 := by
  obtain ⟨c, u, rfl, -⟩ := h
  exact Nat.le_of_ble_eq_true rfl

theorem fl_202 : FLk "FairBlocks$Sightings" 72 1 3 9 := ⟨RX1, TX1, 4, rfl, inX1, by decide, w_202, by decide, rfl⟩
theorem fp_102 : FPk "FairBlocks$Sightings" 54 10 3 1 .boolean := ⟨RX10, TX10, 10, tyX10, rfl, inX10, by decide, w_102, by decide, rfl, tyX10_ok, nmX10, rfl, rfl⟩
theorem dX7_fits_0 : decode cX7_fits 0 = .ok (.aload_n 0, 1) := by decide +kernel
theorem dX7_fits_1 : decode cX7_fits 1 = .ok (.getfield 31, 3) := by decide +kernel
theorem dX7_fits_4 : decode cX7_fits 4 = .ok (.invokevirtual 64, 3) := by decide +kernel
theorem dX7_fits_7 : decode cX7_fits 7 = .ok (.astore_n 2, 1) := by decide +kernel
theorem dX7_fits_8 : decode cX7_fits 8 = .ok (.aload_n 2, 1) := by decide +kernel
theorem dX7_fits_9 : decode cX7_fits 9 = .ok (.getfield 49, 3) := by decide +kernel
theorem dX7_fits_12 : decode cX7_fits 12 = .ok (.iload_n 1, 1) := by decide +kernel
theorem dX7_fits_13 : decode cX7_fits 13 = .ok (.aaload, 1) := by decide +kernel
theorem dX7_fits_14 : decode cX7_fits 14 = .ok (.iconst 1, 1) := by decide +kernel
theorem dX7_fits_15 : decode cX7_fits 15 = .ok (.putfield 54, 3) := by decide +kernel
theorem dX7_fits_18 : decode cX7_fits 18 = .ok (.aload_n 0, 1) := by decide +kernel
theorem dX7_fits_19 : decode cX7_fits 19 = .ok (.invokevirtual 68, 3) := by decide +kernel
theorem dX7_fits_22 : decode cX7_fits 22 = .ok (.istore_n 3, 1) := by decide +kernel
theorem dX7_fits_23 : decode cX7_fits 23 = .ok (.iconst 0, 1) := by decide +kernel
theorem dX7_fits_24 : decode cX7_fits 24 = .ok (.istore 4, 2) := by decide +kernel
theorem dX7_fits_26 : decode cX7_fits 26 = .ok (.iload 4, 2) := by decide +kernel
theorem dX7_fits_28 : decode cX7_fits 28 = .ok (.iload_n 3, 1) := by decide +kernel
theorem dX7_fits_29 : decode cX7_fits 29 = .ok (.if_icmp .gt 39, 3) := by decide +kernel
theorem dX7_fits_32 : decode cX7_fits 32 = .ok (.iload 4, 2) := by decide +kernel
theorem dX7_fits_34 : decode cX7_fits 34 = .ok (.ifCond .le 16, 3) := by decide +kernel
theorem dX7_fits_37 : decode cX7_fits 37 = .ok (.aload_n 0, 1) := by decide +kernel
theorem dX7_fits_38 : decode cX7_fits 38 = .ok (.getfield 31, 3) := by decide +kernel
theorem dX7_fits_41 : decode cX7_fits 41 = .ok (.getfield 72, 3) := by decide +kernel
theorem dX7_fits_44 : decode cX7_fits 44 = .ok (.aload_n 2, 1) := by decide +kernel
theorem dX7_fits_45 : decode cX7_fits 45 = .ok (.iconst 0, 1) := by decide +kernel
theorem dX7_fits_46 : decode cX7_fits 46 = .ok (.invokevirtual 76, 3) := by decide +kernel
theorem dX7_fits_49 : decode cX7_fits 49 = .ok (.pop, 1) := by decide +kernel
theorem dX7_fits_50 : decode cX7_fits 50 = .ok (.aload_n 0, 1) := by decide +kernel
theorem dX7_fits_51 : decode cX7_fits 51 = .ok (.aload_n 2, 1) := by decide +kernel
theorem dX7_fits_52 : decode cX7_fits 52 = .ok (.iload 4, 2) := by decide +kernel
theorem dX7_fits_54 : decode cX7_fits 54 = .ok (.invokevirtual 82, 3) := by decide +kernel
theorem dX7_fits_57 : decode cX7_fits 57 = .ok (.ifCond .ne 5, 3) := by decide +kernel
theorem dX7_fits_60 : decode cX7_fits 60 = .ok (.iconst 0, 1) := by decide +kernel
theorem dX7_fits_61 : decode cX7_fits 61 = .ok (.ireturn, 1) := by decide +kernel
theorem dX7_fits_62 : decode cX7_fits 62 = .ok (.iinc 4 1, 3) := by decide +kernel
theorem dX7_fits_65 : decode cX7_fits 65 = .ok (.goto (-39), 3) := by decide +kernel
theorem dX7_fits_68 : decode cX7_fits 68 = .ok (.iconst 1, 1) := by decide +kernel
theorem dX7_fits_69 : decode cX7_fits 69 = .ok (.ireturn, 1) := by decide +kernel
theorem mk_X7_fits : MVk yX7_fits "FairBlocks$Sightings" cX7_fits 5 (Option.some FieldType.boolean) 1 := ⟨w_617, w_616, wp_9, w_11, rfl, by decide +kernel, by decide +kernel, by decide +kernel⟩
def BX7_fits_0 (G : Nat → KT) (Q : Option mV → mM → Prop) : KT := (s_aload 0 (s_getr 7 1 (fun _ => 3) (s_callV 1 0 pre_X1_freshTrial fn_X1_freshTrial (s_astore 2 (s_aload 2 (s_getr 8 16 (fun k => k + 1) (s_iload 1 (s_aaldU (s_iconst (1) (s_putz 10 3 (s_aload 0 (s_callV 7 0 pre_X7_lastSlot fn_X7_lastSlot (s_istore 3 (s_iconst (0) (s_istore 4 (s_at G 26 [true, false, true, true, true]))))))))))))))))
set_option maxRecDepth 4000 in
theorem bsX7_fits_0 {p : Program} {l : Launch} {e : Env} {s : State} {m : MethodId} {args : Array Value} {below : List Frame} {meth : Method} {c : Code} {D : va_G} {ca : Nat → ClassId} {ad : Nat → Nat} {A : Nat → Prop} {Q : Option mV → mM → Prop} (hX : CX p s m args meth c 5 cX7_fits "FairBlocks$Sightings" D ca ad A) (hr : meth.sig.returnType = (Option.some FieldType.boolean)) : ∀ lv st M, BX7_fits_0 (Gd p l e (rmD 3) s m args below meth c 5 D ca ad A 0 0 (MQ below (QC D ca ad A Q) args s 0 0 A)) Q lv st M → Gd p l e (rmD 3) s m args below meth c 5 D ca ad A 0 0 (MQ below (QC D ca ad A Q) args s 0 0 A) 0 lv st M :=
  (sd_aload_n hX dX7_fits_0 rfl (sd_getr hX fl_268 (fun _ => rfl) (fun _ _ _ => by decide +kernel) dX7_fits_1 (sd_callV hX (kd := 1) rfl (by decide) (ct_X1_freshTrial l) mk_X1_freshTrial w_618 ⟨⟨by decide, by decide⟩, by decide, by decide⟩ dX7_fits_4 (sd_astore_n hX (by decide) dX7_fits_7 rfl (sd_aload_n hX dX7_fits_8 rfl (sd_getr hX fl_144 (fun _ => rfl) okA dX7_fits_9 (sd_iload_n hX dX7_fits_12 rfl (sd_aaldU hX dX7_fits_13 (sd_iconst hX dX7_fits_14 rfl (sd_putz hX fp_102 dX7_fits_15 (sd_aload_n hX dX7_fits_18 rfl (sd_callV hX (kd := 7) rfl (by decide) (ct_X7_lastSlot l) mk_X7_lastSlot w_619 ⟨⟨by decide, by decide⟩, by decide, by decide⟩ dX7_fits_19 (sd_istore_n hX (by decide) dX7_fits_22 rfl (sd_iconst hX dX7_fits_23 rfl (sd_istore hX (by decide) dX7_fits_24 sd_at)))))))))))))))
def BX7_fits_26 (G : Nat → KT) (Q : Option mV → mM → Prop) : KT := (s_iload 4 (s_iload 3 (s_icmp (fun x y => y < x) (s_at G 68 [false, false, false, false, false]) (s_iload 4 (s_if (fun x => x ≤ 0) (s_at G 50 [true, false, true, true, true]) (s_aload 0 (s_getr 7 1 (fun _ => 3) (s_getr 1 6 (fun _ => 21) (s_aload 2 (s_iconst (0) (s_callV 6 2 pre_X6_runOne fn_X6_runOne (s_pop (s_at G 50 [true, false, true, true, true])))))))))))))
set_option maxRecDepth 4000 in
theorem bsX7_fits_26 {p : Program} {l : Launch} {e : Env} {s : State} {m : MethodId} {args : Array Value} {below : List Frame} {meth : Method} {c : Code} {D : va_G} {ca : Nat → ClassId} {ad : Nat → Nat} {A : Nat → Prop} {Q : Option mV → mM → Prop} (hX : CX p s m args meth c 5 cX7_fits "FairBlocks$Sightings" D ca ad A) (hr : meth.sig.returnType = (Option.some FieldType.boolean)) : ∀ lv st M, BX7_fits_26 (Gd p l e (rmD 3) s m args below meth c 5 D ca ad A 0 0 (MQ below (QC D ca ad A Q) args s 0 0 A)) Q lv st M → Gd p l e (rmD 3) s m args below meth c 5 D ca ad A 0 0 (MQ below (QC D ca ad A Q) args s 0 0 A) 26 lv st M :=
  (sd_iload hX dX7_fits_26 (sd_iload_n hX dX7_fits_28 rfl (sd_icmp_gt hX dX7_fits_29 (by decide) sd_at (sd_iload hX dX7_fits_32 (sd_if_le hX dX7_fits_34 (by decide) sd_at (sd_aload_n hX dX7_fits_37 rfl (sd_getr hX fl_268 (fun _ => rfl) (fun _ _ _ => by decide +kernel) dX7_fits_38 (sd_getr hX fl_202 (fun _ => rfl) (fun _ _ _ => by decide +kernel) dX7_fits_41 (sd_aload_n hX dX7_fits_44 rfl (sd_iconst hX dX7_fits_45 rfl (sd_callV hX (kd := 6) rfl (by decide) (ct_X6_runOne l) mk_X6_runOne w_624 ⟨⟨by decide, by decide⟩, by decide, by decide⟩ dX7_fits_46 (sd_pop hX dX7_fits_49 sd_at))))))))))))
def BX7_fits_50 (G : Nat → KT) (Q : Option mV → mM → Prop) : KT := (s_aload 0 (s_aload 2 (s_iload 4 (s_callV 7 2 pre_X7_fitsBehind fn_X7_fitsBehind (s_if (fun x => x = 0) ((s_iconst (0) (s_zret Q))) (s_at G 62 [true, false, true, true, true]))))))
set_option maxRecDepth 4000 in
theorem bsX7_fits_50 {p : Program} {l : Launch} {e : Env} {s : State} {m : MethodId} {args : Array Value} {below : List Frame} {meth : Method} {c : Code} {D : va_G} {ca : Nat → ClassId} {ad : Nat → Nat} {A : Nat → Prop} {Q : Option mV → mM → Prop} (hX : CX p s m args meth c 5 cX7_fits "FairBlocks$Sightings" D ca ad A) (hr : meth.sig.returnType = (Option.some FieldType.boolean)) : ∀ lv st M, BX7_fits_50 (Gd p l e (rmD 3) s m args below meth c 5 D ca ad A 0 0 (MQ below (QC D ca ad A Q) args s 0 0 A)) Q lv st M → Gd p l e (rmD 3) s m args below meth c 5 D ca ad A 0 0 (MQ below (QC D ca ad A Q) args s 0 0 A) 50 lv st M :=
  (sd_aload_n hX dX7_fits_50 rfl (sd_aload_n hX dX7_fits_51 rfl (sd_iload hX dX7_fits_52 (sd_callV hX (kd := 7) rfl (by decide) (ct_X7_fitsBehind l) mk_X7_fitsBehind w_625 ⟨⟨by decide, by decide⟩, by decide, by decide⟩ dX7_fits_54 (sd_if_ne hX dX7_fits_57 (by decide) sd_at (sd_iconst hX dX7_fits_60 rfl (sd_zret hX hr dX7_fits_61)))))))
def BX7_fits_62 (G : Nat → KT) (Q : Option mV → mM → Prop) : KT := (s_iinc 4 (1) (s_at G 26 [true, false, true, true, true]))
set_option maxRecDepth 4000 in
theorem bsX7_fits_62 {p : Program} {l : Launch} {e : Env} {s : State} {m : MethodId} {args : Array Value} {below : List Frame} {meth : Method} {c : Code} {D : va_G} {ca : Nat → ClassId} {ad : Nat → Nat} {A : Nat → Prop} {Q : Option mV → mM → Prop} (hX : CX p s m args meth c 5 cX7_fits "FairBlocks$Sightings" D ca ad A) (hr : meth.sig.returnType = (Option.some FieldType.boolean)) : ∀ lv st M, BX7_fits_62 (Gd p l e (rmD 3) s m args below meth c 5 D ca ad A 0 0 (MQ below (QC D ca ad A Q) args s 0 0 A)) Q lv st M → Gd p l e (rmD 3) s m args below meth c 5 D ca ad A 0 0 (MQ below (QC D ca ad A Q) args s 0 0 A) 62 lv st M :=
  (sd_iinc hX (by decide) dX7_fits_62 rfl (sd_goto hX dX7_fits_65 (by decide) sd_at))
def BX7_fits_68 (G : Nat → KT) (Q : Option mV → mM → Prop) : KT := (s_iconst (1) (s_zret Q))
set_option maxRecDepth 4000 in
theorem bsX7_fits_68 {p : Program} {l : Launch} {e : Env} {s : State} {m : MethodId} {args : Array Value} {below : List Frame} {meth : Method} {c : Code} {D : va_G} {ca : Nat → ClassId} {ad : Nat → Nat} {A : Nat → Prop} {Q : Option mV → mM → Prop} (hX : CX p s m args meth c 5 cX7_fits "FairBlocks$Sightings" D ca ad A) (hr : meth.sig.returnType = (Option.some FieldType.boolean)) : ∀ lv st M, BX7_fits_68 (Gd p l e (rmD 3) s m args below meth c 5 D ca ad A 0 0 (MQ below (QC D ca ad A Q) args s 0 0 A)) Q lv st M → Gd p l e (rmD 3) s m args below meth c 5 D ca ad A 0 0 (MQ below (QC D ca ad A Q) args s 0 0 A) 68 lv st M :=
  (sd_iconst hX dX7_fits_68 rfl (sd_zret hX hr dX7_fits_69))
set_option maxHeartbeats 400000 in
theorem pf_X7_fits (G : Nat → KT) (Q : Option mV → mM → Prop) (h0 : ∀ lv st M, BX7_fits_0 G Q lv st M → G 0 lv st M) (h26 : ∀ lv st M, BX7_fits_26 G Q lv st M → G 26 lv st M) (h50 : ∀ lv st M, BX7_fits_50 G Q lv st M → G 50 lv st M) (h62 : ∀ lv st M, BX7_fits_62 G Q lv st M → G 62 lv st M) (h68 : ∀ lv st M, BX7_fits_68 G Q lv st M → G 68 lv st M) (as : List mV) (M : mM) (ho : ∀ v ∈ as, okV v) (hp : pre_X7_fits as M) (hQ : Q (fn_X7_fits as M).1 (fn_X7_fits as M).2) : G 0 (inL as ++ List.replicate (5 - (inL as).length) none) [] M := by
  obtain ⟨c, u, rfl, hG, U, hU, rfl⟩ := hp
  obtain rfl : c = 151 := k7s (ho (.inr (.inr (7, c))) (by simp))
  have eU : (nI U).toNatClampNeg = U := nI_clamp (by omega)
  have hf0 := GS_fi0 hU hG
  obtain ⟨L, hL, eL⟩ := lsF_v hf0.2
  simp only [fn_X7_fits, fi, eU, eL, nI_clamp (show L < 2 ^ 31 by omega)] at hQ
  have loop : ∀ (n i : Nat) (M : mM), i + n = L + 1 → GD M ∧ SEE M → Q (some (.inl (fiL n i M).1)) (fiL n i M).2 → G 26 [some (.inr (.inr (7, 151))), none, some (.inr (.inr (8, 14))), some (.inl (nI L)), some (.inl (nI i))] [] M := by
    intro n
    induction n with
    | zero =>
      intro i M hi hG hq
      obtain rfl : i = L + 1 := by omega
      (apply h26; simp only [BX7_fits_26, s_mth, s_mab, s_at, s_iconst, s_lconst, s_iload, s_lload, s_aload, s_istore, s_lstore, s_astore, s_iinc, s_bin, s_binG, s_un, s_lbin, s_lbinG, s_lsh, s_lcmp, s_i2l, s_l2i, s_dup, s_dup2, s_pop, s_if, s_icmp, s_geti, s_getl, s_getr, s_puti, s_putz, s_putl, s_iald, s_zald, s_iast, s_zast, s_aaldS, s_aaldU, s_gets, s_tald, s_tsw, tsw, s_iret, s_zret, s_lret, s_aret, s_vret, s_callV, s_callS, c1, nl1, keepL, csum, pushR, inL, List.getD_cons_zero, List.getD_cons_succ, List.set_cons_zero, List.set_cons_succ, List.cons_append, List.nil_append, List.append_nil, List.replicate, List.length_cons, List.length_nil, List.take_succ_cons, List.take_zero, List.drop_succ_cons, List.drop_zero, List.reverse_cons, List.reverse_nil, true_and, and_true, forall_const, not_true_eq_false, not_false_eq_true, false_implies, true_implies, implies_true, one0, m10, Nat.reduceAdd, Nat.reduceSub, Nat.reduceLeDiff, Nat.zero_add, Nat.add_zero, fn_X1_freshTrial, fn_X6_runOne, fn_X7_fitsBehind, fn_X7_lastSlot])
      refine ⟨fun _ => ?_, fun h => absurd (nI_lt (Nat.lt_succ_self L) (by omega)) h⟩
      (apply h68; simp only [BX7_fits_68, s_mth, s_mab, s_at, s_iconst, s_lconst, s_iload, s_lload, s_aload, s_istore, s_lstore, s_astore, s_iinc, s_bin, s_binG, s_un, s_lbin, s_lbinG, s_lsh, s_lcmp, s_i2l, s_l2i, s_dup, s_dup2, s_pop, s_if, s_icmp, s_geti, s_getl, s_getr, s_puti, s_putz, s_putl, s_iald, s_zald, s_iast, s_zast, s_aaldS, s_aaldU, s_gets, s_tald, s_tsw, tsw, s_iret, s_zret, s_lret, s_aret, s_vret, s_callV, s_callS, c1, nl1, keepL, csum, pushR, inL, List.getD_cons_zero, List.getD_cons_succ, List.set_cons_zero, List.set_cons_succ, List.cons_append, List.nil_append, List.append_nil, List.replicate, List.length_cons, List.length_nil, List.take_succ_cons, List.take_zero, List.drop_succ_cons, List.drop_zero, List.reverse_cons, List.reverse_nil, true_and, and_true, forall_const, not_true_eq_false, not_false_eq_true, false_implies, true_implies, implies_true, one0, m10, Nat.reduceAdd, Nat.reduceSub, Nat.reduceLeDiff, Nat.zero_add, Nat.add_zero, fn_X1_freshTrial, fn_X6_runOne, fn_X7_fitsBehind, fn_X7_lastSlot])
      exact ⟨by simp, hq⟩
    | succ n ih =>
      intro i M hi hG hq
      have hM := GS_fiM (i := i) hG
      have L50 : G 50 [some (.inr (.inr (7, 151))), none, some (.inr (.inr (8, 14))), some (.inl (nI L)), some (.inl (nI i))] [] (fiM i M) := by
        (apply h50; simp only [BX7_fits_50, s_mth, s_mab, s_at, s_iconst, s_lconst, s_iload, s_lload, s_aload, s_istore, s_lstore, s_astore, s_iinc, s_bin, s_binG, s_un, s_lbin, s_lbinG, s_lsh, s_lcmp, s_i2l, s_l2i, s_dup, s_dup2, s_pop, s_if, s_icmp, s_geti, s_getl, s_getr, s_puti, s_putz, s_putl, s_iald, s_zald, s_iast, s_zast, s_aaldS, s_aaldU, s_gets, s_tald, s_tsw, tsw, s_iret, s_zret, s_lret, s_aret, s_vret, s_callV, s_callS, c1, nl1, keepL, csum, pushR, inL, List.getD_cons_zero, List.getD_cons_succ, List.set_cons_zero, List.set_cons_succ, List.cons_append, List.nil_append, List.append_nil, List.replicate, List.length_cons, List.length_nil, List.take_succ_cons, List.take_zero, List.drop_succ_cons, List.drop_zero, List.reverse_cons, List.reverse_nil, true_and, and_true, forall_const, not_true_eq_false, not_false_eq_true, false_implies, true_implies, implies_true, one0, m10, Nat.reduceAdd, Nat.reduceSub, Nat.reduceLeDiff, Nat.zero_add, Nat.add_zero, fn_X1_freshTrial, fn_X6_runOne, fn_X7_fitsBehind, fn_X7_lastSlot])
        refine ⟨⟨_, _, _, rfl, hM.2, hM.1.2⟩, fun h => ?_, fun h => ?_⟩
        · rw [fiL, if_pos h] at hq
          exact ⟨by simp, hq⟩
        · rw [fiL, if_neg h] at hq
          (apply h62; simp only [BX7_fits_62, s_mth, s_mab, s_at, s_iconst, s_lconst, s_iload, s_lload, s_aload, s_istore, s_lstore, s_astore, s_iinc, s_bin, s_binG, s_un, s_lbin, s_lbinG, s_lsh, s_lcmp, s_i2l, s_l2i, s_dup, s_dup2, s_pop, s_if, s_icmp, s_geti, s_getl, s_getr, s_puti, s_putz, s_putl, s_iald, s_zald, s_iast, s_zast, s_aaldS, s_aaldU, s_gets, s_tald, s_tsw, tsw, s_iret, s_zret, s_lret, s_aret, s_vret, s_callV, s_callS, c1, nl1, keepL, csum, pushR, inL, List.getD_cons_zero, List.getD_cons_succ, List.set_cons_zero, List.set_cons_succ, List.cons_append, List.nil_append, List.append_nil, List.replicate, List.length_cons, List.length_nil, List.take_succ_cons, List.take_zero, List.drop_succ_cons, List.drop_zero, List.reverse_cons, List.reverse_nil, true_and, and_true, forall_const, not_true_eq_false, not_false_eq_true, false_implies, true_implies, implies_true, one0, m10, Nat.reduceAdd, Nat.reduceSub, Nat.reduceLeDiff, Nat.zero_add, Nat.add_zero, fn_X1_freshTrial, fn_X6_runOne, fn_X7_fitsBehind, fn_X7_lastSlot])
          rw [nI_1]
          exact ih (i + 1) _ (by omega) hM hq
      unfold fiM at L50
      (apply h26; simp only [BX7_fits_26, s_mth, s_mab, s_at, s_iconst, s_lconst, s_iload, s_lload, s_aload, s_istore, s_lstore, s_astore, s_iinc, s_bin, s_binG, s_un, s_lbin, s_lbinG, s_lsh, s_lcmp, s_i2l, s_l2i, s_dup, s_dup2, s_pop, s_if, s_icmp, s_geti, s_getl, s_getr, s_puti, s_putz, s_putl, s_iald, s_zald, s_iast, s_zast, s_aaldS, s_aaldU, s_gets, s_tald, s_tsw, tsw, s_iret, s_zret, s_lret, s_aret, s_vret, s_callV, s_callS, c1, nl1, keepL, csum, pushR, inL, List.getD_cons_zero, List.getD_cons_succ, List.set_cons_zero, List.set_cons_succ, List.cons_append, List.nil_append, List.append_nil, List.replicate, List.length_cons, List.length_nil, List.take_succ_cons, List.take_zero, List.drop_succ_cons, List.drop_zero, List.reverse_cons, List.reverse_nil, true_and, and_true, forall_const, not_true_eq_false, not_false_eq_true, false_implies, true_implies, implies_true, one0, m10, Nat.reduceAdd, Nat.reduceSub, Nat.reduceLeDiff, Nat.zero_add, Nat.add_zero, fn_X1_freshTrial, fn_X6_runOne, fn_X7_fitsBehind, fn_X7_lastSlot])
      refine ⟨fun h => absurd h (nI_nlt (by omega) (by omega)), fun _ => ⟨fun h => ?_, fun h => ?_⟩⟩
      · rw [if_pos h] at L50
        exact L50
      · rw [if_neg h] at L50
        exact ⟨⟨_, _, _, rfl, hG.1.2⟩, L50⟩
  (apply h0; simp only [BX7_fits_0, s_mth, s_mab, s_at, s_iconst, s_lconst, s_iload, s_lload, s_aload, s_istore, s_lstore, s_astore, s_iinc, s_bin, s_binG, s_un, s_lbin, s_lbinG, s_lsh, s_lcmp, s_i2l, s_l2i, s_dup, s_dup2, s_pop, s_if, s_icmp, s_geti, s_getl, s_getr, s_puti, s_putz, s_putl, s_iald, s_zald, s_iast, s_zast, s_aaldS, s_aaldU, s_gets, s_tald, s_tsw, tsw, s_iret, s_zret, s_lret, s_aret, s_vret, s_callV, s_callS, c1, nl1, keepL, csum, pushR, inL, List.getD_cons_zero, List.getD_cons_succ, List.set_cons_zero, List.set_cons_succ, List.cons_append, List.nil_append, List.append_nil, List.replicate, List.length_cons, List.length_nil, List.take_succ_cons, List.take_zero, List.drop_succ_cons, List.drop_zero, List.reverse_cons, List.reverse_nil, true_and, and_true, forall_const, not_true_eq_false, not_false_eq_true, false_implies, true_implies, implies_true, one0, m10, Nat.reduceAdd, Nat.reduceSub, Nat.reduceLeDiff, Nat.zero_add, Nat.add_zero, fn_X1_freshTrial, fn_X6_runOne, fn_X7_fitsBehind, fn_X7_lastSlot])
  simp only [eU, l15]
  refine ⟨⟨_, rfl, hG.1.1⟩, vp_in_nI hU (by decide), by simp, ⟨_, rfl, hf0.2⟩, ?_⟩
  have e : lsF (mset (stc M 14 7) (16 + U) 3 1) = nI L := eL
  rw [e]
  exact loop (L + 1) 0 _ (by omega) hf0 hQ
theorem ct_X7_fits (l : Launch) : Con l yX7_fits cX7_fits 5 (Option.some FieldType.boolean) 3 pre_X7_fits fn_X7_fits := con_of (by decide +kernel) ok_X7_fits len_X7_fits (fun p e s m args below meth c D ca ad A as M hX hr hp ho => pf_X7_fits _ _ (bsX7_fits_0 hX hr) (bsX7_fits_26 hX hr) (bsX7_fits_50 hX hr) (bsX7_fits_62 hX hr) (bsX7_fits_68 hX hr) as M ho hp ⟨rfl, rfl⟩)
def suS (i : Nat) (q : Int32 × mM) : Int32 × mM := if q.2.1 (9 + i) 3 = 0 then (if (fi q.2 i).1 = 0 then (q.1, (fi q.2 i).2) else (q.1 ||| ((1 : Int32) <<< (nI i &&& 31)), (fi q.2 i).2)) else q
def suF (M : mM) : Int32 × mM := itr suS 0 (nU M) (0, M)
theorem GS_fiL : ∀ (n i : Nat) (M : mM), GD M ∧ SEE M → (GD (fiL n i M).2 ∧ SEE (fiL n i M).2) ∧ (fiL n i M).2.1 4 = M.1 4
  | 0, _, M, h => ⟨h, rfl⟩
  | n + 1, i, M, h => by
    have h1 := GS_fiM (i := i) h
    have h4 : (fiM i M).1 4 = M.1 4 := by
      unfold fiM
      split
      · rfl
      · exact f_ro k14 h.1.2 (by unfold fr; omega) (by unfold sc; omega)
    unfold fiL
    split
    · exact ⟨h1, h4⟩
    · obtain ⟨a, b⟩ := GS_fiL n (i + 1) _ h1
      exact ⟨a, b.trans h4⟩
theorem GS_fi {M : mM} {U : Nat} (hU : U < 5) (h : GD M ∧ SEE M) : (GD (fi M U).2 ∧ SEE (fi M U).2) ∧ (fi M U).2.1 4 = M.1 4 := by
  obtain ⟨a, b⟩ := GS_fiL ((lsF (fi0 M U)).toNatClampNeg + 1) 0 _ (GS_fi0 hU h)
  refine ⟨a, b.trans ?_⟩
  unfold fi0
  rw [mset_n (by omega)]
  exact f_stc (by unfold fr; omega)
def pre_X7_suspects (as : List mV) (M : mM) : Prop := ∃ c, as = [.inr (.inr (7, c))] ∧ GD M ∧ SEE M
def fn_X7_suspects : List mV → mM → Option mV × mM
  | [.inr (.inr (_, c))], M => (some (.inl (suF M).1), (suF M).2)
  | _, M => (none, M)
theorem ok_X7_suspects (as : List mV) (M : mM) (h : pre_X7_suspects as M) (_ : ∀ v ∈ as, okV v) : okR (fn_X7_suspects as M).1 := by
  obtain ⟨c, rfl, -⟩ := h
  first | trivial | exact (by decide +kernel : kof 14 = 8)
theorem len_X7_suspects (as : List mV) (M : mM) (h : pre_X7_suspects as M) : (inL as).length ≤ 3 := by
  obtain ⟨c, rfl, -⟩ := h
  exact Nat.le_of_ble_eq_true rfl

theorem fl_102 : FLk "FairBlocks$Sightings" 54 10 3 1 := ⟨RX10, TX10, 10, rfl, inX10, by decide, w_102, by decide, rfl⟩
theorem fl_196 : FLk "FairBlocks$Sightings" 45 1 1 11 := ⟨RX1, TX1, 4, rfl, inX1, by decide, w_196, by decide, rfl⟩
theorem fl_62 : FLk "FairBlocks$Sightings" 41 5 2 0 := ⟨RX5, TX5, 5, rfl, inX5, by decide, w_62, by decide, rfl⟩
theorem dX7_suspects_0 : decode cX7_suspects 0 = .ok (.iconst 0, 1) := by decide +kernel
theorem dX7_suspects_1 : decode cX7_suspects 1 = .ok (.istore_n 1, 1) := by decide +kernel
theorem dX7_suspects_2 : decode cX7_suspects 2 = .ok (.iconst 0, 1) := by decide +kernel
theorem dX7_suspects_3 : decode cX7_suspects 3 = .ok (.istore_n 2, 1) := by decide +kernel
theorem dX7_suspects_4 : decode cX7_suspects 4 = .ok (.iload_n 2, 1) := by decide +kernel
theorem dX7_suspects_5 : decode cX7_suspects 5 = .ok (.aload_n 0, 1) := by decide +kernel
theorem dX7_suspects_6 : decode cX7_suspects 6 = .ok (.getfield 31, 3) := by decide +kernel
theorem dX7_suspects_9 : decode cX7_suspects 9 = .ok (.getfield 35, 3) := by decide +kernel
theorem dX7_suspects_12 : decode cX7_suspects 12 = .ok (.getfield 41, 3) := by decide +kernel
theorem dX7_suspects_15 : decode cX7_suspects 15 = .ok (.if_icmp .ge 41, 3) := by decide +kernel
theorem dX7_suspects_18 : decode cX7_suspects 18 = .ok (.aload_n 0, 1) := by decide +kernel
theorem dX7_suspects_19 : decode cX7_suspects 19 = .ok (.getfield 31, 3) := by decide +kernel
theorem dX7_suspects_22 : decode cX7_suspects 22 = .ok (.getfield 45, 3) := by decide +kernel
theorem dX7_suspects_25 : decode cX7_suspects 25 = .ok (.getfield 49, 3) := by decide +kernel
theorem dX7_suspects_28 : decode cX7_suspects 28 = .ok (.iload_n 2, 1) := by decide +kernel
theorem dX7_suspects_29 : decode cX7_suspects 29 = .ok (.aaload, 1) := by decide +kernel
theorem dX7_suspects_30 : decode cX7_suspects 30 = .ok (.getfield 54, 3) := by decide +kernel
theorem dX7_suspects_33 : decode cX7_suspects 33 = .ok (.ifCond .ne 17, 3) := by decide +kernel
theorem dX7_suspects_36 : decode cX7_suspects 36 = .ok (.aload_n 0, 1) := by decide +kernel
theorem dX7_suspects_37 : decode cX7_suspects 37 = .ok (.iload_n 2, 1) := by decide +kernel
theorem dX7_suspects_38 : decode cX7_suspects 38 = .ok (.invokevirtual 60, 3) := by decide +kernel
theorem dX7_suspects_41 : decode cX7_suspects 41 = .ok (.ifCond .eq 9, 3) := by decide +kernel
theorem dX7_suspects_44 : decode cX7_suspects 44 = .ok (.iload_n 1, 1) := by decide +kernel
theorem dX7_suspects_45 : decode cX7_suspects 45 = .ok (.iconst 1, 1) := by decide +kernel
theorem dX7_suspects_46 : decode cX7_suspects 46 = .ok (.iload_n 2, 1) := by decide +kernel
theorem dX7_suspects_47 : decode cX7_suspects 47 = .ok (.ishl, 1) := by decide +kernel
theorem dX7_suspects_48 : decode cX7_suspects 48 = .ok (.ior, 1) := by decide +kernel
theorem dX7_suspects_49 : decode cX7_suspects 49 = .ok (.istore_n 1, 1) := by decide +kernel
theorem dX7_suspects_50 : decode cX7_suspects 50 = .ok (.iinc 2 1, 3) := by decide +kernel
theorem dX7_suspects_53 : decode cX7_suspects 53 = .ok (.goto (-49), 3) := by decide +kernel
theorem dX7_suspects_56 : decode cX7_suspects 56 = .ok (.iload_n 1, 1) := by decide +kernel
theorem dX7_suspects_57 : decode cX7_suspects 57 = .ok (.ireturn, 1) := by decide +kernel
theorem mk_X7_suspects : MVk yX7_suspects "FairBlocks$Sightings" cX7_suspects 3 (Option.some FieldType.int) 0 := ⟨w_613, w_611, w_612, w_11, rfl, by decide +kernel, by decide +kernel, by decide +kernel⟩
def BX7_suspects_0 (G : Nat → KT) (Q : Option mV → mM → Prop) : KT := (s_iconst (0) (s_istore 1 (s_iconst (0) (s_istore 2 (s_at G 4 [true, true, true])))))
set_option maxRecDepth 4000 in
theorem bsX7_suspects_0 {p : Program} {l : Launch} {e : Env} {s : State} {m : MethodId} {args : Array Value} {below : List Frame} {meth : Method} {c : Code} {D : va_G} {ca : Nat → ClassId} {ad : Nat → Nat} {A : Nat → Prop} {Q : Option mV → mM → Prop} (hX : CX p s m args meth c 3 cX7_suspects "FairBlocks$Sightings" D ca ad A) (hr : meth.sig.returnType = (Option.some FieldType.int)) : ∀ lv st M, BX7_suspects_0 (Gd p l e (rmD 4) s m args below meth c 3 D ca ad A 0 0 (MQ below (QC D ca ad A Q) args s 0 0 A)) Q lv st M → Gd p l e (rmD 4) s m args below meth c 3 D ca ad A 0 0 (MQ below (QC D ca ad A Q) args s 0 0 A) 0 lv st M :=
  (sd_iconst hX dX7_suspects_0 rfl (sd_istore_n hX (by decide) dX7_suspects_1 rfl (sd_iconst hX dX7_suspects_2 rfl (sd_istore_n hX (by decide) dX7_suspects_3 rfl sd_at))))
def BX7_suspects_4 (G : Nat → KT) (Q : Option mV → mM → Prop) : KT := (s_iload 2 (s_aload 0 (s_getr 7 1 (fun _ => 3) (s_getr 1 5 (fun _ => 4) (s_geti 5 2 (s_icmp (fun x y => y ≤ x) (s_at G 56 [false, true, false]) (s_aload 0 (s_getr 7 1 (fun _ => 3) (s_getr 1 8 (fun _ => 7) (s_getr 8 16 (fun k => k + 1) (s_iload 2 (s_aaldU (s_geti 10 3 (s_if (fun x => x = 0) ((s_aload 0 (s_iload 2 (s_callV 7 1 pre_X7_fits fn_X7_fits (s_if (fun x => x = 0) (s_at G 50 [true, true, true]) (s_iload 1 (s_iconst (1) (s_iload 2 (s_bin (fun x y => x <<< (y &&& 31)) (s_bin (fun x y => x ||| y) (s_istore 1 (s_at G 50 [true, true, true])))))))))))) (s_at G 50 [true, true, true])))))))))))))))
set_option maxRecDepth 4000 in
theorem bsX7_suspects_4 {p : Program} {l : Launch} {e : Env} {s : State} {m : MethodId} {args : Array Value} {below : List Frame} {meth : Method} {c : Code} {D : va_G} {ca : Nat → ClassId} {ad : Nat → Nat} {A : Nat → Prop} {Q : Option mV → mM → Prop} (hX : CX p s m args meth c 3 cX7_suspects "FairBlocks$Sightings" D ca ad A) (hr : meth.sig.returnType = (Option.some FieldType.int)) : ∀ lv st M, BX7_suspects_4 (Gd p l e (rmD 4) s m args below meth c 3 D ca ad A 0 0 (MQ below (QC D ca ad A Q) args s 0 0 A)) Q lv st M → Gd p l e (rmD 4) s m args below meth c 3 D ca ad A 0 0 (MQ below (QC D ca ad A Q) args s 0 0 A) 4 lv st M :=
  (sd_iload_n hX dX7_suspects_4 rfl (sd_aload_n hX dX7_suspects_5 rfl (sd_getr hX fl_268 (fun _ => rfl) (fun _ _ _ => by decide +kernel) dX7_suspects_6 (sd_getr hX fl_190 (fun _ => rfl) (fun _ _ _ => by decide +kernel) dX7_suspects_9 (sd_geti hX fl_62 (by decide) dX7_suspects_12 (sd_icmp_ge hX dX7_suspects_15 (by decide) sd_at (sd_aload_n hX dX7_suspects_18 rfl (sd_getr hX fl_268 (fun _ => rfl) (fun _ _ _ => by decide +kernel) dX7_suspects_19 (sd_getr hX fl_196 (fun _ => rfl) (fun _ _ _ => by decide +kernel) dX7_suspects_22 (sd_getr hX fl_144 (fun _ => rfl) okA dX7_suspects_25 (sd_iload_n hX dX7_suspects_28 rfl (sd_aaldU hX dX7_suspects_29 (sd_geti hX fl_102 (by decide) dX7_suspects_30 (sd_if_ne hX dX7_suspects_33 (by decide) sd_at (sd_aload_n hX dX7_suspects_36 rfl (sd_iload_n hX dX7_suspects_37 rfl (sd_callV hX (kd := 7) rfl (by decide) (ct_X7_fits l) mk_X7_fits w_614 ⟨⟨by decide, by decide⟩, by decide, by decide⟩ dX7_suspects_38 (sd_if_eq hX dX7_suspects_41 (by decide) sd_at (sd_iload_n hX dX7_suspects_44 rfl (sd_iconst hX dX7_suspects_45 rfl (sd_iload_n hX dX7_suspects_46 rfl (sd_ishl hX dX7_suspects_47 (sd_ior hX dX7_suspects_48 (sd_istore_n hX (by decide) dX7_suspects_49 rfl sd_at))))))))))))))))))))))))
def BX7_suspects_50 (G : Nat → KT) (Q : Option mV → mM → Prop) : KT := (s_iinc 2 (1) (s_at G 4 [true, true, true]))
set_option maxRecDepth 4000 in
theorem bsX7_suspects_50 {p : Program} {l : Launch} {e : Env} {s : State} {m : MethodId} {args : Array Value} {below : List Frame} {meth : Method} {c : Code} {D : va_G} {ca : Nat → ClassId} {ad : Nat → Nat} {A : Nat → Prop} {Q : Option mV → mM → Prop} (hX : CX p s m args meth c 3 cX7_suspects "FairBlocks$Sightings" D ca ad A) (hr : meth.sig.returnType = (Option.some FieldType.int)) : ∀ lv st M, BX7_suspects_50 (Gd p l e (rmD 4) s m args below meth c 3 D ca ad A 0 0 (MQ below (QC D ca ad A Q) args s 0 0 A)) Q lv st M → Gd p l e (rmD 4) s m args below meth c 3 D ca ad A 0 0 (MQ below (QC D ca ad A Q) args s 0 0 A) 50 lv st M :=
  (sd_iinc hX (by decide) dX7_suspects_50 rfl (sd_goto hX dX7_suspects_53 (by decide) sd_at))
def BX7_suspects_56 (G : Nat → KT) (Q : Option mV → mM → Prop) : KT := (s_iload 1 (s_iret Q))
set_option maxRecDepth 4000 in
theorem bsX7_suspects_56 {p : Program} {l : Launch} {e : Env} {s : State} {m : MethodId} {args : Array Value} {below : List Frame} {meth : Method} {c : Code} {D : va_G} {ca : Nat → ClassId} {ad : Nat → Nat} {A : Nat → Prop} {Q : Option mV → mM → Prop} (hX : CX p s m args meth c 3 cX7_suspects "FairBlocks$Sightings" D ca ad A) (hr : meth.sig.returnType = (Option.some FieldType.int)) : ∀ lv st M, BX7_suspects_56 (Gd p l e (rmD 4) s m args below meth c 3 D ca ad A 0 0 (MQ below (QC D ca ad A Q) args s 0 0 A)) Q lv st M → Gd p l e (rmD 4) s m args below meth c 3 D ca ad A 0 0 (MQ below (QC D ca ad A Q) args s 0 0 A) 56 lv st M :=
  (sd_iload_n hX dX7_suspects_56 rfl (sd_iret hX hr dX7_suspects_57))
set_option maxHeartbeats 400000 in
theorem pf_X7_suspects (G : Nat → KT) (Q : Option mV → mM → Prop) (h0 : ∀ lv st M, BX7_suspects_0 G Q lv st M → G 0 lv st M) (h4 : ∀ lv st M, BX7_suspects_4 G Q lv st M → G 4 lv st M) (h50 : ∀ lv st M, BX7_suspects_50 G Q lv st M → G 50 lv st M) (h56 : ∀ lv st M, BX7_suspects_56 G Q lv st M → G 56 lv st M) (as : List mV) (M : mM) (ho : ∀ v ∈ as, okV v) (hp : pre_X7_suspects as M) (hQ : Q (fn_X7_suspects as M).1 (fn_X7_suspects as M).2) : G 0 (inL as ++ List.replicate (3 - (inL as).length) none) [] M := by
  obtain ⟨c, rfl, hG⟩ := hp
  obtain rfl : c = 151 := k7s (ho (.inr (.inr (7, c))) (by simp))
  have hn := n5 hG.1.2
  have hN := uN hG.1.2
  simp only [fn_X7_suspects, suF] at hQ
  generalize nU M = N at hQ hn hN
  have loop : ∀ (n i : Nat) (b : Int32) (M : mM), i + n = N → GD M ∧ SEE M → M.1 4 2 = nI N → Q (some (.inl (itr suS i n (b, M)).1)) (itr suS i n (b, M)).2 → G 4 [some (.inr (.inr (7, 151))), some (.inl b), some (.inl (nI i))] [] M := by
    intro n
    induction n with
    | zero =>
      intro i b M hi hG hN hq
      obtain rfl : i = N := by omega
      (apply h4; simp only [BX7_suspects_4, s_mth, s_mab, s_at, s_iconst, s_lconst, s_iload, s_lload, s_aload, s_istore, s_lstore, s_astore, s_iinc, s_bin, s_binG, s_un, s_lbin, s_lbinG, s_lsh, s_lcmp, s_i2l, s_l2i, s_dup, s_dup2, s_pop, s_if, s_icmp, s_geti, s_getl, s_getr, s_puti, s_putz, s_putl, s_iald, s_zald, s_iast, s_zast, s_aaldS, s_aaldU, s_gets, s_tald, s_tsw, tsw, s_iret, s_zret, s_lret, s_aret, s_vret, s_callV, s_callS, c1, nl1, keepL, csum, pushR, inL, List.getD_cons_zero, List.getD_cons_succ, List.set_cons_zero, List.set_cons_succ, List.cons_append, List.nil_append, List.append_nil, List.replicate, List.length_cons, List.length_nil, List.take_succ_cons, List.take_zero, List.drop_succ_cons, List.drop_zero, List.reverse_cons, List.reverse_nil, true_and, and_true, forall_const, not_true_eq_false, not_false_eq_true, false_implies, true_implies, implies_true, one0, m10, Nat.reduceAdd, Nat.reduceSub, Nat.reduceLeDiff, Nat.zero_add, Nat.add_zero, fn_X7_fits])
      rw [hN]
      refine ⟨fun _ => ?_, fun h => absurd (nI_le (Nat.le_refl _) (by omega)) h⟩
      (apply h56; simp only [BX7_suspects_56, s_mth, s_mab, s_at, s_iconst, s_lconst, s_iload, s_lload, s_aload, s_istore, s_lstore, s_astore, s_iinc, s_bin, s_binG, s_un, s_lbin, s_lbinG, s_lsh, s_lcmp, s_i2l, s_l2i, s_dup, s_dup2, s_pop, s_if, s_icmp, s_geti, s_getl, s_getr, s_puti, s_putz, s_putl, s_iald, s_zald, s_iast, s_zast, s_aaldS, s_aaldU, s_gets, s_tald, s_tsw, tsw, s_iret, s_zret, s_lret, s_aret, s_vret, s_callV, s_callS, c1, nl1, keepL, csum, pushR, inL, List.getD_cons_zero, List.getD_cons_succ, List.set_cons_zero, List.set_cons_succ, List.cons_append, List.nil_append, List.append_nil, List.replicate, List.length_cons, List.length_nil, List.take_succ_cons, List.take_zero, List.drop_succ_cons, List.drop_zero, List.reverse_cons, List.reverse_nil, true_and, and_true, forall_const, not_true_eq_false, not_false_eq_true, false_implies, true_implies, implies_true, one0, m10, Nat.reduceAdd, Nat.reduceSub, Nat.reduceLeDiff, Nat.zero_add, Nat.add_zero, fn_X7_fits])
      exact hq
    | succ n ih =>
      intro i b M hi hG hN hq
      have ei : (nI i).toNatClampNeg = i := nI_clamp (by omega)
      have hf := GS_fi (U := i) (by omega) hG
      have L : ∀ b2 M2, (b2, M2) = suS i (b, M) → GD M2 ∧ SEE M2 → M2.1 4 2 = nI N → G 50 [some (.inr (.inr (7, 151))), some (.inl b2), some (.inl (nI i))] [] M2 := by
        intro b2 M2 e h1 h2
        (apply h50; simp only [BX7_suspects_50, s_mth, s_mab, s_at, s_iconst, s_lconst, s_iload, s_lload, s_aload, s_istore, s_lstore, s_astore, s_iinc, s_bin, s_binG, s_un, s_lbin, s_lbinG, s_lsh, s_lcmp, s_i2l, s_l2i, s_dup, s_dup2, s_pop, s_if, s_icmp, s_geti, s_getl, s_getr, s_puti, s_putz, s_putl, s_iald, s_zald, s_iast, s_zast, s_aaldS, s_aaldU, s_gets, s_tald, s_tsw, tsw, s_iret, s_zret, s_lret, s_aret, s_vret, s_callV, s_callS, c1, nl1, keepL, csum, pushR, inL, List.getD_cons_zero, List.getD_cons_succ, List.set_cons_zero, List.set_cons_succ, List.cons_append, List.nil_append, List.append_nil, List.replicate, List.length_cons, List.length_nil, List.take_succ_cons, List.take_zero, List.drop_succ_cons, List.drop_zero, List.reverse_cons, List.reverse_nil, true_and, and_true, forall_const, not_true_eq_false, not_false_eq_true, false_implies, true_implies, implies_true, one0, m10, Nat.reduceAdd, Nat.reduceSub, Nat.reduceLeDiff, Nat.zero_add, Nat.add_zero, fn_X7_fits])
        rw [nI_1]
        refine ih (i + 1) _ _ (by omega) h1 h2 ?_
        rw [e]
        exact hq
      (apply h4; simp only [BX7_suspects_4, s_mth, s_mab, s_at, s_iconst, s_lconst, s_iload, s_lload, s_aload, s_istore, s_lstore, s_astore, s_iinc, s_bin, s_binG, s_un, s_lbin, s_lbinG, s_lsh, s_lcmp, s_i2l, s_l2i, s_dup, s_dup2, s_pop, s_if, s_icmp, s_geti, s_getl, s_getr, s_puti, s_putz, s_putl, s_iald, s_zald, s_iast, s_zast, s_aaldS, s_aaldU, s_gets, s_tald, s_tsw, tsw, s_iret, s_zret, s_lret, s_aret, s_vret, s_callV, s_callS, c1, nl1, keepL, csum, pushR, inL, List.getD_cons_zero, List.getD_cons_succ, List.set_cons_zero, List.set_cons_succ, List.cons_append, List.nil_append, List.append_nil, List.replicate, List.length_cons, List.length_nil, List.take_succ_cons, List.take_zero, List.drop_succ_cons, List.drop_zero, List.reverse_cons, List.reverse_nil, true_and, and_true, forall_const, not_true_eq_false, not_false_eq_true, false_implies, true_implies, implies_true, one0, m10, Nat.reduceAdd, Nat.reduceSub, Nat.reduceLeDiff, Nat.zero_add, Nat.add_zero, fn_X7_fits])
      simp only [hN, l8, ei]
      refine ⟨fun h => absurd h (nI_ge (by omega) (by omega)), fun _ => ⟨vp_in_nI (by omega) (by decide), fun h => ⟨⟨_, _, rfl, hG, i, by omega, rfl⟩, fun h2 => ?_, fun h2 => ?_⟩, fun h => ?_⟩⟩
      · exact L _ _ (by rw [suS, if_pos h, if_pos h2]) hf.1 (by rw [hf.2]; exact hN)
      · exact L _ _ (by rw [suS, if_pos h, if_neg h2]) hf.1 (by rw [hf.2]; exact hN)
      · exact L _ _ (by rw [suS, if_neg h]) hG hN
  (apply h0; simp only [BX7_suspects_0, s_mth, s_mab, s_at, s_iconst, s_lconst, s_iload, s_lload, s_aload, s_istore, s_lstore, s_astore, s_iinc, s_bin, s_binG, s_un, s_lbin, s_lbinG, s_lsh, s_lcmp, s_i2l, s_l2i, s_dup, s_dup2, s_pop, s_if, s_icmp, s_geti, s_getl, s_getr, s_puti, s_putz, s_putl, s_iald, s_zald, s_iast, s_zast, s_aaldS, s_aaldU, s_gets, s_tald, s_tsw, tsw, s_iret, s_zret, s_lret, s_aret, s_vret, s_callV, s_callS, c1, nl1, keepL, csum, pushR, inL, List.getD_cons_zero, List.getD_cons_succ, List.set_cons_zero, List.set_cons_succ, List.cons_append, List.nil_append, List.append_nil, List.replicate, List.length_cons, List.length_nil, List.take_succ_cons, List.take_zero, List.drop_succ_cons, List.drop_zero, List.reverse_cons, List.reverse_nil, true_and, and_true, forall_const, not_true_eq_false, not_false_eq_true, false_implies, true_implies, implies_true, one0, m10, Nat.reduceAdd, Nat.reduceSub, Nat.reduceLeDiff, Nat.zero_add, Nat.add_zero, fn_X7_fits])
  exact loop N 0 0 M (by omega) hG hN hQ
theorem ct_X7_suspects (l : Launch) : Con l yX7_suspects cX7_suspects 3 (Option.some FieldType.int) 4 pre_X7_suspects fn_X7_suspects := con_of (by decide +kernel) ok_X7_suspects len_X7_suspects (fun p e s m args below meth c D ca ad A as M hX hr hp ho => pf_X7_suspects _ _ (bsX7_suspects_0 hX hr) (bsX7_suspects_4 hX hr) (bsX7_suspects_50 hX hr) (bsX7_suspects_56 hX hr) as M ho hp ⟨rfl, rfl⟩)
