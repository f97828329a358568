/-! the model: slots in a row, acts, what is asked -/
def SM (r : Nat) (M M' : mM) : Prop := (∀ a, a ≠ r → a ≠ 176 → a ≠ 177 → M'.1 a = M.1 a) ∧ (∀ j, 50 ≤ j → M'.1 r j = M.1 r j) ∧ M'.2 = M.2
theorem SM_r {r : Nat} {M : mM} : SM r M M := ⟨fun _ _ _ _ => rfl, fun _ _ => rfl, rfl⟩
theorem SM_mset {r k j : Nat} {M M' : mM} {v : Int32} (h : SM r M M') (hr : r ≤ 167) (hk : (k = r ∧ j < 50) ∨ k = 176 ∨ k = 177) : SM r M (mset M' k j v) := by
  refine ⟨fun a h1 h2 h3 => ?_, fun i hi => ?_, h.2.2⟩
  · rw [mset_n (by omega)]
    exact h.1 a h1 h2 h3
  · rw [mset_get, if_neg (by omega)]
    exact h.2.1 i hi
theorem PM_SM {r : Nat} {M M' : mM} (h : SM r M M') (hr : 165 ≤ r ∧ r ≤ 167) (hP : PM M) : PM M' ∧ nM M' = nM M ∧ bM M' = bM M := by
  have e1 := h.1 158 (by omega) (by omega) (by omega)
  have e2 := h.1 161 (by omega) (by omega) (by omega)
  refine ⟨PM_of hP (by rw [e1]) (by rw [e1]) e2, ?_, ?_⟩
  · unfold nM; rw [e1]
  · unfold bM; rw [e1]
theorem SM_sds {r u : Nat} {M M' : mM} (h : SM r M M') (hr : r ≤ 167) (hu : u < 5) : SM r M (sds M' r u) := by
  have ho : sdO M' r u = 4 ∨ sdO M' r u = 5 := by unfold sdO; split <;> simp
  unfold sds
  generalize sdO M' r u = o at *
  generalize sdN M' r u o = n
  have h1 : SM r M (sd1 M' r u o n) := SM_mset (SM_mset h hr (Or.inl ⟨rfl, by omega⟩)) hr (Or.inl ⟨rfl, by omega⟩)
  generalize sd1 M' r u o n = M1 at *
  have h2 : SM r M (sdA M1 r u n) := SM_mset (SM_mset h1 hr (Or.inl ⟨rfl, by omega⟩)) hr (Or.inr (Or.inr rfl))
  unfold sd2
  split
  · exact h2
  · split
    · exact SM_mset h1 hr (Or.inl ⟨rfl, by omega⟩)
    · exact h2
theorem SM_so {M : mM} {r : Nat} {f : Int32} (h : PQ M r) : (∀ a, a ≠ r → a ≠ 176 → a ≠ 177 → (so M r f).2.1 a = M.1 a) ∧ (so M r f).2.1 r 50 = M.1 r 50 ∧ (so M r f).2.1 r 51 = M.1 r 51 + 1 ∧ (so M r f).2.2 = M.2 := by
  have hr := h.2.1
  have hn := (nM_e h.1).1
  have hb := (bM_e h.1).1
  have g1 : SM r M (itr (m1S r) 0 (nM M) M) := itr_inv (m1S r) (SM r M) (nM M) 0 M (fun j s _ h2 hs => SM_mset (SM_mset hs hr.2 (Or.inl ⟨rfl, by omega⟩)) hr.2 (Or.inr (Or.inr rfl))) SM_r
  have g2 : SM r M (itr (m2S r f) 0 (bM M) (itr (m1S r) 0 (nM M) M)) := itr_inv (m2S r f) (SM r M) (bM M) 0 _ (fun j s _ h2 hs => by
    obtain ⟨hP, en, -⟩ := PM_SM hs hr h.1
    unfold m2S
    have hw : (if f = 0 then wh s r j else -9) = -9 ∨ ∃ i, i < nM s ∧ (if f = 0 then wh s r j else -9) = nI i := by
      split
      · exact wh_rng
      · exact Or.inl rfl
    generalize (if f = 0 then wh s r j else -9) = w at *
    unfold m2F
    split
    · exact SM_mset hs hr.2 (Or.inr (Or.inl rfl))
    · next hne =>
      rcases hw with g | ⟨i, hi, rfl⟩
      · exact absurd g hne
      · rw [nI_clamp (by omega)]
        exact SM_sds (SM_mset hs hr.2 (Or.inr (Or.inl rfl))) hr.2 (by omega)) g1
  have g3 : SM r M (itr (m3S r (bM M)) 0 (nM M) (0, itr (m2S r f) 0 (bM M) (itr (m1S r) 0 (nM M) M))).2 := itr_inv (m3S r (bM M)) (fun q => SM r M q.2) (nM M) 0 _ (fun j s _ h2 hs => by
    unfold m3S m3A
    exact SM_mset (SM_mset hs hr.2 (Or.inl ⟨rfl, by omega⟩)) hr.2 (Or.inl ⟨rfl, by omega⟩)) g2
  unfold so m3F
  generalize (itr (m3S r (bM M)) 0 (nM M) (0, itr (m2S r f) 0 (bM M) (itr (m1S r) 0 (nM M) M))).2 = M3 at *
  refine ⟨fun a h1 h2 h3 => ?_, ?_, ?_, g3.2.2⟩
  · show (mset M3 r 51 (M3.1 r 51 + 1)).1 a = M.1 a
    rw [mset_n h1]; exact g3.1 a h1 h2 h3
  · show (mset M3 r 51 (M3.1 r 51 + 1)).1 r 50 = M.1 r 50
    rw [mset_o (by decide)]; exact g3.2.1 50 (by decide)
  · show (mset M3 r 51 (M3.1 r 51 + 1)).1 r 51 = M.1 r 51 + 1
    rw [mset_s, g3.2.1 51 (by decide)]
theorem PG_so {M : mM} {r b : Nat} {f : Int32} (hP : PM M) (hG : PG M r (b + 1)) : PM (so M r f).2 ∧ PG (so M r f).2 r b := by
  obtain ⟨g1, -, g3, -⟩ := SM_so (f := f) ⟨hP, PG_0 hG⟩
  obtain ⟨hr, c, hc, e⟩ := hG
  refine ⟨PM_of hP (by rw [g1 158 (by omega) (by omega) (by omega)]) (by rw [g1 158 (by omega) (by omega) (by omega)]) (g1 161 (by omega) (by omega) (by omega)), hr, c + 1, by omega, ?_⟩
  rw [g3, e, nI_1]
def soS (r : Nat) (_ : Nat) (q : Int32 × mM) : Int32 × mM := (q.1 + (so q.2 r 0).1, (so q.2 r 0).2)
def sos (M : mM) (r n : Nat) : Int32 × mM := itr (soS r) 0 n (0, M)
def pre_X12_slotsOn (as : List mV) (M : mM) : Prop := ∃ c r x, as = [.inr (.inr (12, c)), .inr (.inr (13, r)), .inl x] ∧ PM M ∧ ∃ n, n < 2 ^ 31 ∧ x = nI n ∧ PG M r n
def fn_X12_slotsOn : List mV → mM → Option mV × mM
  | [.inr (.inr (_, c)), .inr (.inr (_, r)), .inl x], M => (some (.inl (sos M r x.toNatClampNeg).1), (sos M r x.toNatClampNeg).2)
  | _, M => (none, M)
theorem ok_X12_slotsOn (as : List mV) (M : mM) (h : pre_X12_slotsOn as M) (_ : ∀ v ∈ as, okV v) : okR (fn_X12_slotsOn as M).1 := by
  obtain ⟨c, r, x, rfl, -⟩ := h
  first | trivial | exact (by decide +kernel : kof 14 = 8)
theorem len_X12_slotsOn (as : List mV) (M : mM) (h : pre_X12_slotsOn as M) : (inL as).length ≤ 5 := by
  obtain ⟨c, r, x, rfl, -⟩ := h
  exact Nat.le_of_ble_eq_true rfl


theorem dX12_slotsOn_0 : decode cX12_slotsOn 0 = .ok (.iconst 0, 1) := by decide +kernel
theorem dX12_slotsOn_1 : decode cX12_slotsOn 1 = .ok (.istore_n 3, 1) := by decide +kernel
theorem dX12_slotsOn_2 : decode cX12_slotsOn 2 = .ok (.iconst 0, 1) := by decide +kernel
theorem dX12_slotsOn_3 : decode cX12_slotsOn 3 = .ok (.istore 4, 2) := by decide +kernel
theorem dX12_slotsOn_5 : decode cX12_slotsOn 5 = .ok (.iload 4, 2) := by decide +kernel
theorem dX12_slotsOn_7 : decode cX12_slotsOn 7 = .ok (.iload_n 2, 1) := by decide +kernel
theorem dX12_slotsOn_8 : decode cX12_slotsOn 8 = .ok (.if_icmp .ge 18, 3) := by decide +kernel
theorem dX12_slotsOn_11 : decode cX12_slotsOn 11 = .ok (.iload_n 3, 1) := by decide +kernel
theorem dX12_slotsOn_12 : decode cX12_slotsOn 12 = .ok (.aload_n 0, 1) := by decide +kernel
theorem dX12_slotsOn_13 : decode cX12_slotsOn 13 = .ok (.aload_n 1, 1) := by decide +kernel
theorem dX12_slotsOn_14 : decode cX12_slotsOn 14 = .ok (.iconst 0, 1) := by decide +kernel
theorem dX12_slotsOn_15 : decode cX12_slotsOn 15 = .ok (.invokevirtual 152, 3) := by decide +kernel
theorem dX12_slotsOn_18 : decode cX12_slotsOn 18 = .ok (.iadd, 1) := by decide +kernel
theorem dX12_slotsOn_19 : decode cX12_slotsOn 19 = .ok (.istore_n 3, 1) := by decide +kernel
theorem dX12_slotsOn_20 : decode cX12_slotsOn 20 = .ok (.iinc 4 1, 3) := by decide +kernel
theorem dX12_slotsOn_23 : decode cX12_slotsOn 23 = .ok (.goto (-18), 3) := by decide +kernel
theorem dX12_slotsOn_26 : decode cX12_slotsOn 26 = .ok (.iload_n 3, 1) := by decide +kernel
theorem dX12_slotsOn_27 : decode cX12_slotsOn 27 = .ok (.ireturn, 1) := by decide +kernel
theorem mk_X12_slotsOn : MVk yX12_slotsOn "FairBlocksModel" cX12_slotsOn 5 (Option.some FieldType.int) 2 := ⟨w_881, w_880, wp_21, w_13, rfl, by decide +kernel, by decide +kernel, by decide +kernel⟩
def BX12_slotsOn_0 (G : Nat → KT) (Q : Option mV → mM → Prop) : KT := (s_iconst (0) (s_istore 3 (s_iconst (0) (s_istore 4 (s_at G 5 [true, true, true, true, true])))))
set_option maxRecDepth 4000 in
theorem bsX12_slotsOn_0 {p : Program} {l : Launch} {e : Env} {s : State} {m : MethodId} {args : Array Value} {below : List Frame} {meth : Method} {c : Code} {D : va_G} {ca : Nat → ClassId} {ad : Nat → Nat} {A : Nat → Prop} {Q : Option mV → mM → Prop} (hX : CX p s m args meth c 5 cX12_slotsOn "FairBlocksModel" D ca ad A) (hr : meth.sig.returnType = (Option.some FieldType.int)) : ∀ lv st M, BX12_slotsOn_0 (Gd p l e (rmD 4) s m args below meth c 5 D ca ad A 0 0 (MQ below (QC D ca ad A Q) args s 0 0 A)) Q lv st M → Gd p l e (rmD 4) s m args below meth c 5 D ca ad A 0 0 (MQ below (QC D ca ad A Q) args s 0 0 A) 0 lv st M :=
  (sd_iconst hX dX12_slotsOn_0 rfl (sd_istore_n hX (by decide) dX12_slotsOn_1 rfl (sd_iconst hX dX12_slotsOn_2 rfl (sd_istore hX (by decide) dX12_slotsOn_3 sd_at))))
def BX12_slotsOn_5 (G : Nat → KT) (Q : Option mV → mM → Prop) : KT := (s_iload 4 (s_iload 2 (s_icmp (fun x y => y ≤ x) (s_at G 26 [false, false, false, true, false]) (s_iload 3 (s_aload 0 (s_aload 1 (s_iconst (0) (s_callV 12 2 pre_X12_slotOn fn_X12_slotOn (s_bin (fun x y => x + y) (s_istore 3 (s_iinc 4 (1) (s_at G 5 [true, true, true, true, true]))))))))))))
set_option maxRecDepth 4000 in
theorem bsX12_slotsOn_5 {p : Program} {l : Launch} {e : Env} {s : State} {m : MethodId} {args : Array Value} {below : List Frame} {meth : Method} {c : Code} {D : va_G} {ca : Nat → ClassId} {ad : Nat → Nat} {A : Nat → Prop} {Q : Option mV → mM → Prop} (hX : CX p s m args meth c 5 cX12_slotsOn "FairBlocksModel" D ca ad A) (hr : meth.sig.returnType = (Option.some FieldType.int)) : ∀ lv st M, BX12_slotsOn_5 (Gd p l e (rmD 4) s m args below meth c 5 D ca ad A 0 0 (MQ below (QC D ca ad A Q) args s 0 0 A)) Q lv st M → Gd p l e (rmD 4) s m args below meth c 5 D ca ad A 0 0 (MQ below (QC D ca ad A Q) args s 0 0 A) 5 lv st M :=
  (sd_iload hX dX12_slotsOn_5 (sd_iload_n hX dX12_slotsOn_7 rfl (sd_icmp_ge hX dX12_slotsOn_8 (by decide) sd_at (sd_iload_n hX dX12_slotsOn_11 rfl (sd_aload_n hX dX12_slotsOn_12 rfl (sd_aload_n hX dX12_slotsOn_13 rfl (sd_iconst hX dX12_slotsOn_14 rfl (sd_callV hX (kd := 12) rfl (by decide) (ct_X12_slotOn l) mk_X12_slotOn w_882 ⟨⟨by decide, by decide⟩, by decide, by decide⟩ dX12_slotsOn_15 (sd_iadd hX dX12_slotsOn_18 (sd_istore_n hX (by decide) dX12_slotsOn_19 rfl (sd_iinc hX (by decide) dX12_slotsOn_20 rfl (sd_goto hX dX12_slotsOn_23 (by decide) sd_at))))))))))))
def BX12_slotsOn_26 (G : Nat → KT) (Q : Option mV → mM → Prop) : KT := (s_iload 3 (s_iret Q))
set_option maxRecDepth 4000 in
theorem bsX12_slotsOn_26 {p : Program} {l : Launch} {e : Env} {s : State} {m : MethodId} {args : Array Value} {below : List Frame} {meth : Method} {c : Code} {D : va_G} {ca : Nat → ClassId} {ad : Nat → Nat} {A : Nat → Prop} {Q : Option mV → mM → Prop} (hX : CX p s m args meth c 5 cX12_slotsOn "FairBlocksModel" D ca ad A) (hr : meth.sig.returnType = (Option.some FieldType.int)) : ∀ lv st M, BX12_slotsOn_26 (Gd p l e (rmD 4) s m args below meth c 5 D ca ad A 0 0 (MQ below (QC D ca ad A Q) args s 0 0 A)) Q lv st M → Gd p l e (rmD 4) s m args below meth c 5 D ca ad A 0 0 (MQ below (QC D ca ad A Q) args s 0 0 A) 26 lv st M :=
  (sd_iload_n hX dX12_slotsOn_26 rfl (sd_iret hX hr dX12_slotsOn_27))
set_option maxHeartbeats 400000 in
theorem pf_X12_slotsOn (G : Nat → KT) (Q : Option mV → mM → Prop) (h0 : ∀ lv st M, BX12_slotsOn_0 G Q lv st M → G 0 lv st M) (h5 : ∀ lv st M, BX12_slotsOn_5 G Q lv st M → G 5 lv st M) (h26 : ∀ lv st M, BX12_slotsOn_26 G Q lv st M → G 26 lv st M) (as : List mV) (M : mM) (ho : ∀ v ∈ as, okV v) (hp : pre_X12_slotsOn as M) (hQ : Q (fn_X12_slotsOn as M).1 (fn_X12_slotsOn as M).2) : G 0 (inL as ++ List.replicate (5 - (inL as).length) none) [] M := by
  obtain ⟨c, r, x, rfl, hPM, N, hN, rfl, hPG⟩ := hp
  simp only [fn_X12_slotsOn, sos, nI_clamp hN] at hQ
  have loop : ∀ (n i : Nat) (t : Int32) (M' : mM), i + n = N → PM M' → PG M' r n → Q (some (.inl (itr (soS r) i n (t, M')).1)) (itr (soS r) i n (t, M')).2 → G 5 [some (.inr (.inr (12, c))), some (.inr (.inr (13, r))), some (.inl (nI N)), some (.inl t), some (.inl (nI i))] [] M' := by
    intro n
    induction n with
    | zero =>
      intro i t M' hi hP hG hq
      obtain rfl : i = N := by omega
      (apply h5; simp only [BX12_slotsOn_5, s_mth, s_mab, s_at, s_iconst, s_lconst, s_iload, s_lload, s_aload, s_istore, s_lstore, s_astore, s_iinc, s_bin, s_binG, s_un, s_lbin, s_lbinG, s_lsh, s_lcmp, s_i2l, s_l2i, s_dup, s_dup2, s_pop, s_if, s_icmp, s_geti, s_getl, s_getr, s_puti, s_putz, s_putl, s_iald, s_zald, s_iast, s_zast, s_aaldS, s_aaldU, s_gets, s_tald, s_tsw, tsw, s_iret, s_zret, s_lret, s_aret, s_vret, s_callV, s_callS, c1, nl1, keepL, csum, pushR, inL, List.getD_cons_zero, List.getD_cons_succ, List.set_cons_zero, List.set_cons_succ, List.cons_append, List.nil_append, List.append_nil, List.replicate, List.length_cons, List.length_nil, List.take_succ_cons, List.take_zero, List.drop_succ_cons, List.drop_zero, List.reverse_cons, List.reverse_nil, true_and, and_true, forall_const, not_true_eq_false, not_false_eq_true, false_implies, true_implies, implies_true, one0, m10, Nat.reduceAdd, Nat.reduceSub, Nat.reduceLeDiff, Nat.zero_add, Nat.add_zero, fn_X12_slotOn])
      refine ⟨fun _ => ?_, fun h => absurd (nI_le (Nat.le_refl _) (by omega)) h⟩
      (apply h26; simp only [BX12_slotsOn_26, s_mth, s_mab, s_at, s_iconst, s_lconst, s_iload, s_lload, s_aload, s_istore, s_lstore, s_astore, s_iinc, s_bin, s_binG, s_un, s_lbin, s_lbinG, s_lsh, s_lcmp, s_i2l, s_l2i, s_dup, s_dup2, s_pop, s_if, s_icmp, s_geti, s_getl, s_getr, s_puti, s_putz, s_putl, s_iald, s_zald, s_iast, s_zast, s_aaldS, s_aaldU, s_gets, s_tald, s_tsw, tsw, s_iret, s_zret, s_lret, s_aret, s_vret, s_callV, s_callS, c1, nl1, keepL, csum, pushR, inL, List.getD_cons_zero, List.getD_cons_succ, List.set_cons_zero, List.set_cons_succ, List.cons_append, List.nil_append, List.append_nil, List.replicate, List.length_cons, List.length_nil, List.take_succ_cons, List.take_zero, List.drop_succ_cons, List.drop_zero, List.reverse_cons, List.reverse_nil, true_and, and_true, forall_const, not_true_eq_false, not_false_eq_true, false_implies, true_implies, implies_true, one0, m10, Nat.reduceAdd, Nat.reduceSub, Nat.reduceLeDiff, Nat.zero_add, Nat.add_zero, fn_X12_slotOn])
      exact hq
    | succ n ih =>
      intro i t M' hi hP hG hq
      have hn := PG_so (f := 0) hP hG
      (apply h5; simp only [BX12_slotsOn_5, s_mth, s_mab, s_at, s_iconst, s_lconst, s_iload, s_lload, s_aload, s_istore, s_lstore, s_astore, s_iinc, s_bin, s_binG, s_un, s_lbin, s_lbinG, s_lsh, s_lcmp, s_i2l, s_l2i, s_dup, s_dup2, s_pop, s_if, s_icmp, s_geti, s_getl, s_getr, s_puti, s_putz, s_putl, s_iald, s_zald, s_iast, s_zast, s_aaldS, s_aaldU, s_gets, s_tald, s_tsw, tsw, s_iret, s_zret, s_lret, s_aret, s_vret, s_callV, s_callS, c1, nl1, keepL, csum, pushR, inL, List.getD_cons_zero, List.getD_cons_succ, List.set_cons_zero, List.set_cons_succ, List.cons_append, List.nil_append, List.append_nil, List.replicate, List.length_cons, List.length_nil, List.take_succ_cons, List.take_zero, List.drop_succ_cons, List.drop_zero, List.reverse_cons, List.reverse_nil, true_and, and_true, forall_const, not_true_eq_false, not_false_eq_true, false_implies, true_implies, implies_true, one0, m10, Nat.reduceAdd, Nat.reduceSub, Nat.reduceLeDiff, Nat.zero_add, Nat.add_zero, fn_X12_slotOn])
      refine ⟨fun h => absurd h (nI_ge (by omega) (by omega)), fun _ => ⟨⟨_, _, _, rfl, hP, PG_0 hG⟩, ?_⟩⟩
      rw [nI_1]
      exact ih (i + 1) _ _ (by omega) hn.1 hn.2 hq
  (apply h0; simp only [BX12_slotsOn_0, s_mth, s_mab, s_at, s_iconst, s_lconst, s_iload, s_lload, s_aload, s_istore, s_lstore, s_astore, s_iinc, s_bin, s_binG, s_un, s_lbin, s_lbinG, s_lsh, s_lcmp, s_i2l, s_l2i, s_dup, s_dup2, s_pop, s_if, s_icmp, s_geti, s_getl, s_getr, s_puti, s_putz, s_putl, s_iald, s_zald, s_iast, s_zast, s_aaldS, s_aaldU, s_gets, s_tald, s_tsw, tsw, s_iret, s_zret, s_lret, s_aret, s_vret, s_callV, s_callS, c1, nl1, keepL, csum, pushR, inL, List.getD_cons_zero, List.getD_cons_succ, List.set_cons_zero, List.set_cons_succ, List.cons_append, List.nil_append, List.append_nil, List.replicate, List.length_cons, List.length_nil, List.take_succ_cons, List.take_zero, List.drop_succ_cons, List.drop_zero, List.reverse_cons, List.reverse_nil, true_and, and_true, forall_const, not_true_eq_false, not_false_eq_true, false_implies, true_implies, implies_true, one0, m10, Nat.reduceAdd, Nat.reduceSub, Nat.reduceLeDiff, Nat.zero_add, Nat.add_zero, fn_X12_slotOn])
  exact loop N 0 0 M (by omega) hPM hPG hQ
theorem ct_X12_slotsOn (l : Launch) : Con l yX12_slotsOn cX12_slotsOn 5 (Option.some FieldType.int) 4 pre_X12_slotsOn fn_X12_slotsOn := con_of (by decide +kernel) ok_X12_slotsOn len_X12_slotsOn (fun p e s m args below meth c D ca ad A as M hX hr hp ho => pf_X12_slotsOn _ _ (bsX12_slotsOn_0 hX hr) (bsX12_slotsOn_5 hX hr) (bsX12_slotsOn_26 hX hr) as M ho hp ⟨rfl, rfl⟩)
theorem PG_le {M : mM} {r a b : Nat} (h : PG M r b) (hab : a ≤ b) : PG M r a := by
  obtain ⟨h1, c, hc, e⟩ := h
  exact ⟨h1, c, by omega, e⟩
theorem nu_u {M : mM} {u : Int32} (h : PM M) (hu : nu M u = 0) : ∃ j, j < nM M ∧ u = nI j := by
  obtain ⟨hn, en, -⟩ := nM_e h
  unfold nu at hu
  split at hu
  · exact absurd hu (by decide)
  · next hw =>
    obtain ⟨h1, h2⟩ := wi_1 hw
    rw [en] at h2
    obtain ⟨j, hj, rfl⟩ := nI_of h1
    refine ⟨j, ?_, rfl⟩
    rcases Nat.lt_or_ge j (nM M) with g | g
    · exact g
    · exfalso
      apply h2
      generalize nM M = n at *
      have : n = 0 ∨ ∃ k, n = k + 1 := by rcases n with _ | k; exact Or.inl rfl; exact Or.inr ⟨k, rfl⟩
      rcases this with rfl | ⟨k, rfl⟩
      · rw [show (nI 0 - 1 : Int32) = -1 from by decide, Int32.lt_iff_toInt_lt]
        rw [Int32.lt_iff_toInt_lt] at h1
        have a1 : (-1 : Int32).toInt = -1 := by decide
        have a0 : (0 : Int32).toInt = 0 := by decide
        omega
      · rw [nI_pred]
        exact nI_lt (by omega) (by omega)
def m0 (M : mM) : mM := mset M 158 0 0
def MI (M : mM) : Prop := (PM M ∧ PG M 165 1000) ∧ (∃ d, d ≤ 14 ∧ M.1 158 20 = nI d) ∧ (∃ t, t ≤ 80 ∧ M.1 158 2 = nI t) ∧ (∃ z, z ≤ 6 ∧ M.1 158 23 = nI z ∧ ∀ i, i < z → ∃ a, a ≤ 9 ∧ M.1 171 i = nI a) ∧ ∀ u, u < nM M → M.1 165 (10 * u + 3) = 0 ∨ M.1 165 (10 * u + 3) = 1
theorem PM_m {M : mM} {k j : Nat} {v : Int32} (h : PM M) (h1 : k ≠ 158 ∨ (j ≠ 4 ∧ j ≠ 6)) (h2 : k ≠ 161) : PM (mset M k j v) := by
  refine PM_of h ?_ ?_ (mset_n (Ne.symm h2)) <;> rw [mset_get, if_neg (by omega)]
theorem MI_0 {M : mM} (h : MI M) : MI (m0 M) := by
  obtain ⟨⟨h1, h2⟩, h3, h4, h5, h6⟩ := h
  have e : ∀ j, j ≠ 0 → (m0 M).1 158 j = M.1 158 j := fun j hj => mset_o hj
  have e1 : (m0 M).1 171 = M.1 171 := mset_n (by decide)
  have e2 : nM (m0 M) = nM M := by unfold nM; rw [e _ (by decide)]
  have e3 : (m0 M).1 165 = M.1 165 := mset_n (by decide)
  refine ⟨⟨PM_m h1 (Or.inr ⟨by decide, by decide⟩) (by decide), PG_mset h2 (Or.inl (by decide))⟩, ?_, ?_, ?_, by rw [e2, e3]; exact h6⟩
  · rw [e _ (by decide)]; exact h3
  · rw [e _ (by decide)]; exact h4
  · rw [e _ (by decide), e1]; exact h5
theorem vz {k n : Nat} (h : n < k) (hk : k < 2 ^ 31) : vp_in (nI n) k := vp_in_nI h hk
def m_user (M : mM) (u w : Int32) : Int32 := if nu M u = 0 then (if wi w 0 10 = 0 then -2 else if w = 0 then mrt M 165 u.toNatClampNeg else M.1 165 (10 * u.toNatClampNeg + w.toNatClampNeg - 1)) else -1
def pre_X12_user (as : List mV) (M : mM) : Prop := ∃ c u w, as = [.inr (.inr (12, c)), .inl u, .inl w] ∧ MI M
def fn_X12_user : List mV → mM → Option mV × mM
  | [.inr (.inr (_, c)), .inl u, .inl w], M => (some (.inl (m_user (m0 M) u w)), m0 M)
  | _, M => (none, M)
theorem ok_X12_user (as : List mV) (M : mM) (h : pre_X12_user as M) (_ : ∀ v ∈ as, okV v) : okR (fn_X12_user as M).1 := by
  obtain ⟨c, u, w, rfl, -⟩ := h
  first | trivial | exact (by decide +kernel : kof 14 = 8)
theorem len_X12_user (as : List mV) (M : mM) (h : pre_X12_user as M) : (inL as).length ≤ 3 := by
  obtain ⟨c, u, w, rfl, -⟩ := h
  exact Nat.le_of_ble_eq_true rfl

theorem fp_723 : FPk "FairBlocksModel" 1 12 0 0 .int := ⟨RX12, TX12, 32, tyX12, rfl, inX12, by decide, w_723, by decide, rfl, tyX12_ok, nmX12, rfl, rfl⟩
theorem dX12_user_0 : decode cX12_user 0 = .ok (.aload_n 0, 1) := by decide +kernel
theorem dX12_user_1 : decode cX12_user 1 = .ok (.iconst 0, 1) := by decide +kernel
theorem dX12_user_2 : decode cX12_user 2 = .ok (.putfield 1, 3) := by decide +kernel
theorem dX12_user_5 : decode cX12_user 5 = .ok (.aload_n 0, 1) := by decide +kernel
theorem dX12_user_6 : decode cX12_user 6 = .ok (.iload_n 1, 1) := by decide +kernel
theorem dX12_user_7 : decode cX12_user 7 = .ok (.invokevirtual 156, 3) := by decide +kernel
theorem dX12_user_10 : decode cX12_user 10 = .ok (.ifCond .eq 5, 3) := by decide +kernel
theorem dX12_user_13 : decode cX12_user 13 = .ok (.iconst (-1), 1) := by decide +kernel
theorem dX12_user_14 : decode cX12_user 14 = .ok (.ireturn, 1) := by decide +kernel
theorem dX12_user_15 : decode cX12_user 15 = .ok (.iload_n 2, 1) := by decide +kernel
theorem dX12_user_16 : decode cX12_user 16 = .ok (.i2l, 1) := by decide +kernel
theorem dX12_user_17 : decode cX12_user 17 = .ok (.lconst 0, 1) := by decide +kernel
theorem dX12_user_18 : decode cX12_user 18 = .ok (.ldc2_w 160, 3) := by decide +kernel
theorem dX12_user_21 : decode cX12_user 21 = .ok (.invokestatic 17, 3) := by decide +kernel
theorem dX12_user_24 : decode cX12_user 24 = .ok (.ifCond .ne 6, 3) := by decide +kernel
theorem dX12_user_27 : decode cX12_user 27 = .ok (.bipush (-2), 2) := by decide +kernel
theorem dX12_user_29 : decode cX12_user 29 = .ok (.ireturn, 1) := by decide +kernel
theorem dX12_user_30 : decode cX12_user 30 = .ok (.iload_n 2, 1) := by decide +kernel
theorem dX12_user_31 : decode cX12_user 31 = .ok (.ifCond .ne 15, 3) := by decide +kernel
theorem dX12_user_34 : decode cX12_user 34 = .ok (.aload_n 0, 1) := by decide +kernel
theorem dX12_user_35 : decode cX12_user 35 = .ok (.aload_n 0, 1) := by decide +kernel
theorem dX12_user_36 : decode cX12_user 36 = .ok (.getfield 11, 3) := by decide +kernel
theorem dX12_user_39 : decode cX12_user 39 = .ok (.iload_n 1, 1) := by decide +kernel
theorem dX12_user_40 : decode cX12_user 40 = .ok (.invokevirtual 123, 3) := by decide +kernel
theorem dX12_user_43 : decode cX12_user 43 = .ok (.goto 16, 3) := by decide +kernel
theorem dX12_user_46 : decode cX12_user 46 = .ok (.aload_n 0, 1) := by decide +kernel
theorem dX12_user_47 : decode cX12_user 47 = .ok (.getfield 11, 3) := by decide +kernel
theorem dX12_user_50 : decode cX12_user 50 = .ok (.bipush 10, 2) := by decide +kernel
theorem dX12_user_52 : decode cX12_user 52 = .ok (.iload_n 1, 1) := by decide +kernel
theorem dX12_user_53 : decode cX12_user 53 = .ok (.imul, 1) := by decide +kernel
theorem dX12_user_54 : decode cX12_user 54 = .ok (.iload_n 2, 1) := by decide +kernel
theorem dX12_user_55 : decode cX12_user 55 = .ok (.iadd, 1) := by decide +kernel
theorem dX12_user_56 : decode cX12_user 56 = .ok (.iconst 1, 1) := by decide +kernel
theorem dX12_user_57 : decode cX12_user 57 = .ok (.isub, 1) := by decide +kernel
theorem dX12_user_58 : decode cX12_user 58 = .ok (.iaload, 1) := by decide +kernel
theorem dX12_user_59 : decode cX12_user 59 = .ok (.ireturn, 1) := by decide +kernel
theorem mk_X12_user : MVk yX12_user "FairBlocksModel" cX12_user 3 (Option.some FieldType.int) 2 := ⟨w_859, w_857, w_858, w_13, rfl, by decide +kernel, by decide +kernel, by decide +kernel⟩
def BX12_user_0 (G : Nat → KT) (Q : Option mV → mM → Prop) : KT := (s_aload 0 (s_iconst (0) (s_puti 12 0 (s_aload 0 (s_iload 1 (s_callV 12 1 pre_X12_noUser fn_X12_noUser (s_if (fun x => x = 0) (s_at G 15 [true, true, true]) (s_iconst (-1) (s_iret Q)))))))))
set_option maxRecDepth 4000 in
theorem bsX12_user_0 {p : Program} {l : Launch} {e : Env} {s : State} {m : MethodId} {args : Array Value} {below : List Frame} {meth : Method} {c : Code} {D : va_G} {ca : Nat → ClassId} {ad : Nat → Nat} {A : Nat → Prop} {Q : Option mV → mM → Prop} (hX : CX p s m args meth c 3 cX12_user "FairBlocksModel" D ca ad A) (hr : meth.sig.returnType = (Option.some FieldType.int)) : ∀ lv st M, BX12_user_0 (Gd p l e (rmD 2) s m args below meth c 3 D ca ad A 0 0 (MQ below (QC D ca ad A Q) args s 0 0 A)) Q lv st M → Gd p l e (rmD 2) s m args below meth c 3 D ca ad A 0 0 (MQ below (QC D ca ad A Q) args s 0 0 A) 0 lv st M :=
  (sd_aload_n hX dX12_user_0 rfl (sd_iconst hX dX12_user_1 rfl (sd_puti hX fp_723 dX12_user_2 (sd_aload_n hX dX12_user_5 rfl (sd_iload_n hX dX12_user_6 rfl (sd_callV hX (kd := 12) rfl (by decide) (ct_X12_noUser l) mk_X12_noUser w_860 ⟨⟨by decide, by decide⟩, by decide, by decide⟩ dX12_user_7 (sd_if_eq hX dX12_user_10 (by decide) sd_at (sd_iconst hX dX12_user_13 rfl (sd_iret hX hr dX12_user_14)))))))))
def BX12_user_15 (G : Nat → KT) (Q : Option mV → mM → Prop) : KT := (s_iload 2 (s_i2l (s_lconst 0 (s_lconst (10) (s_callS 3 pre_X12_in fn_X12_in (s_if (fun x => x = 0) ((s_iconst (-2) (s_iret Q))) (s_at G 30 [true, true, true])))))))
set_option maxRecDepth 4000 in
theorem bsX12_user_15 {p : Program} {l : Launch} {e : Env} {s : State} {m : MethodId} {args : Array Value} {below : List Frame} {meth : Method} {c : Code} {D : va_G} {ca : Nat → ClassId} {ad : Nat → Nat} {A : Nat → Prop} {Q : Option mV → mM → Prop} (hX : CX p s m args meth c 3 cX12_user "FairBlocksModel" D ca ad A) (hr : meth.sig.returnType = (Option.some FieldType.int)) : ∀ lv st M, BX12_user_15 (Gd p l e (rmD 2) s m args below meth c 3 D ca ad A 0 0 (MQ below (QC D ca ad A Q) args s 0 0 A)) Q lv st M → Gd p l e (rmD 2) s m args below meth c 3 D ca ad A 0 0 (MQ below (QC D ca ad A Q) args s 0 0 A) 15 lv st M :=
  (sd_iload_n hX dX12_user_15 rfl (sd_i2l hX dX12_user_16 (sd_lconst hX dX12_user_17 rfl (sd_ldc2 hX w_864 dX12_user_18 (sd_callS hX (ct_X12_in l) mk_X12_in w_825 ⟨⟨by decide, by decide⟩, by decide, by decide⟩ dX12_user_21 (sd_if_ne hX dX12_user_24 (by decide) sd_at (sd_bipush hX dX12_user_27 rfl (sd_iret hX hr dX12_user_29))))))))
def BX12_user_30 (G : Nat → KT) (Q : Option mV → mM → Prop) : KT := (s_iload 2 (s_if (fun x => x = 0) ((s_aload 0 (s_aload 0 (s_getr 12 13 (fun _ => 165) (s_iload 1 (s_callV 12 2 pre_X12_rateOf fn_X12_rateOf (s_at G 59 [false, false, false]))))))) (s_at G 46 [true, true, true])))
set_option maxRecDepth 4000 in
theorem bsX12_user_30 {p : Program} {l : Launch} {e : Env} {s : State} {m : MethodId} {args : Array Value} {below : List Frame} {meth : Method} {c : Code} {D : va_G} {ca : Nat → ClassId} {ad : Nat → Nat} {A : Nat → Prop} {Q : Option mV → mM → Prop} (hX : CX p s m args meth c 3 cX12_user "FairBlocksModel" D ca ad A) (hr : meth.sig.returnType = (Option.some FieldType.int)) : ∀ lv st M, BX12_user_30 (Gd p l e (rmD 2) s m args below meth c 3 D ca ad A 0 0 (MQ below (QC D ca ad A Q) args s 0 0 A)) Q lv st M → Gd p l e (rmD 2) s m args below meth c 3 D ca ad A 0 0 (MQ below (QC D ca ad A Q) args s 0 0 A) 30 lv st M :=
  (sd_iload_n hX dX12_user_30 rfl (sd_if_ne hX dX12_user_31 (by decide) sd_at (sd_aload_n hX dX12_user_34 rfl (sd_aload_n hX dX12_user_35 rfl (sd_getr hX fl_739 (fun _ => rfl) (fun _ _ _ => by decide +kernel) dX12_user_36 (sd_iload_n hX dX12_user_39 rfl (sd_callV hX (kd := 12) rfl (by decide) (ct_X12_rateOf l) mk_X12_rateOf w_865 ⟨⟨by decide, by decide⟩, by decide, by decide⟩ dX12_user_40 (sd_goto hX dX12_user_43 (by decide) sd_at))))))))
def BX12_user_46 (G : Nat → KT) (Q : Option mV → mM → Prop) : KT := (s_aload 0 (s_getr 12 13 (fun _ => 165) (s_iconst (10) (s_iload 1 (s_bin (fun x y => x * y) (s_iload 2 (s_bin (fun x y => x + y) (s_iconst (1) (s_bin (fun x y => x - y) (s_iald (s_at G 59 [false, false, false])))))))))))
set_option maxRecDepth 4000 in
theorem bsX12_user_46 {p : Program} {l : Launch} {e : Env} {s : State} {m : MethodId} {args : Array Value} {below : List Frame} {meth : Method} {c : Code} {D : va_G} {ca : Nat → ClassId} {ad : Nat → Nat} {A : Nat → Prop} {Q : Option mV → mM → Prop} (hX : CX p s m args meth c 3 cX12_user "FairBlocksModel" D ca ad A) (hr : meth.sig.returnType = (Option.some FieldType.int)) : ∀ lv st M, BX12_user_46 (Gd p l e (rmD 2) s m args below meth c 3 D ca ad A 0 0 (MQ below (QC D ca ad A Q) args s 0 0 A)) Q lv st M → Gd p l e (rmD 2) s m args below meth c 3 D ca ad A 0 0 (MQ below (QC D ca ad A Q) args s 0 0 A) 46 lv st M :=
  (sd_aload_n hX dX12_user_46 rfl (sd_getr hX fl_739 (fun _ => rfl) (fun _ _ _ => by decide +kernel) dX12_user_47 (sd_bipush hX dX12_user_50 rfl (sd_iload_n hX dX12_user_52 rfl (sd_imul hX dX12_user_53 (sd_iload_n hX dX12_user_54 rfl (sd_iadd hX dX12_user_55 (sd_iconst hX dX12_user_56 rfl (sd_isub hX dX12_user_57 (sd_iald hX dX12_user_58 sd_at))))))))))
def BX12_user_59 (G : Nat → KT) (Q : Option mV → mM → Prop) : KT := (s_iret Q)
set_option maxRecDepth 4000 in
theorem bsX12_user_59 {p : Program} {l : Launch} {e : Env} {s : State} {m : MethodId} {args : Array Value} {below : List Frame} {meth : Method} {c : Code} {D : va_G} {ca : Nat → ClassId} {ad : Nat → Nat} {A : Nat → Prop} {Q : Option mV → mM → Prop} (hX : CX p s m args meth c 3 cX12_user "FairBlocksModel" D ca ad A) (hr : meth.sig.returnType = (Option.some FieldType.int)) : ∀ lv st M, BX12_user_59 (Gd p l e (rmD 2) s m args below meth c 3 D ca ad A 0 0 (MQ below (QC D ca ad A Q) args s 0 0 A)) Q lv st M → Gd p l e (rmD 2) s m args below meth c 3 D ca ad A 0 0 (MQ below (QC D ca ad A Q) args s 0 0 A) 59 lv st M :=
  sd_iret hX hr dX12_user_59
set_option maxHeartbeats 400000 in
theorem pf_X12_user (G : Nat → KT) (Q : Option mV → mM → Prop) (h0 : ∀ lv st M, BX12_user_0 G Q lv st M → G 0 lv st M) (h15 : ∀ lv st M, BX12_user_15 G Q lv st M → G 15 lv st M) (h30 : ∀ lv st M, BX12_user_30 G Q lv st M → G 30 lv st M) (h46 : ∀ lv st M, BX12_user_46 G Q lv st M → G 46 lv st M) (h59 : ∀ lv st M, BX12_user_59 G Q lv st M → G 59 lv st M) (as : List mV) (M : mM) (ho : ∀ v ∈ as, okV v) (hp : pre_X12_user as M) (hQ : Q (fn_X12_user as M).1 (fn_X12_user as M).2) : G 0 (inL as ++ List.replicate (3 - (inL as).length) none) [] M := by
  obtain ⟨c, u, w, rfl, hM⟩ := hp
  obtain rfl : c = 158 := k12 (ho (.inr (.inr (12, c))) (by simp))
  have hI := MI_0 hM
  have e : iL w.toInt64 0 10 = wi w 0 10 := iLw w 0 10
  simp only [fn_X12_user, m_user] at hQ
  (apply h0; simp only [BX12_user_0, s_mth, s_mab, s_at, s_iconst, s_lconst, s_iload, s_lload, s_aload, s_istore, s_lstore, s_astore, s_iinc, s_bin, s_binG, s_un, s_lbin, s_lbinG, s_lsh, s_lcmp, s_i2l, s_l2i, s_dup, s_dup2, s_pop, s_if, s_icmp, s_geti, s_getl, s_getr, s_puti, s_putz, s_putl, s_iald, s_zald, s_iast, s_zast, s_aaldS, s_aaldU, s_gets, s_tald, s_tsw, tsw, s_iret, s_zret, s_lret, s_aret, s_vret, s_callV, s_callS, c1, nl1, keepL, csum, pushR, inL, List.getD_cons_zero, List.getD_cons_succ, List.set_cons_zero, List.set_cons_succ, List.cons_append, List.nil_append, List.append_nil, List.replicate, List.length_cons, List.length_nil, List.take_succ_cons, List.take_zero, List.drop_succ_cons, List.drop_zero, List.reverse_cons, List.reverse_nil, true_and, and_true, forall_const, not_true_eq_false, not_false_eq_true, false_implies, true_implies, implies_true, one0, m10, Nat.reduceAdd, Nat.reduceSub, Nat.reduceLeDiff, Nat.zero_add, Nat.add_zero, fn_X12_in, fn_X12_noUser, fn_X12_rateOf])
  rw [show mset M 158 0 0 = m0 M from rfl]
  generalize m0 M = M0 at *
  refine ⟨⟨_, _, rfl⟩, fun h => ?_, fun h => ?_⟩
  · rw [if_pos h] at hQ
    obtain ⟨j, hj, rfl⟩ := nu_u hI.1.1 h
    have hn := (nM_e hI.1.1).1
    (apply h15; simp only [BX12_user_15, s_mth, s_mab, s_at, s_iconst, s_lconst, s_iload, s_lload, s_aload, s_istore, s_lstore, s_astore, s_iinc, s_bin, s_binG, s_un, s_lbin, s_lbinG, s_lsh, s_lcmp, s_i2l, s_l2i, s_dup, s_dup2, s_pop, s_if, s_icmp, s_geti, s_getl, s_getr, s_puti, s_putz, s_putl, s_iald, s_zald, s_iast, s_zast, s_aaldS, s_aaldU, s_gets, s_tald, s_tsw, tsw, s_iret, s_zret, s_lret, s_aret, s_vret, s_callV, s_callS, c1, nl1, keepL, csum, pushR, inL, List.getD_cons_zero, List.getD_cons_succ, List.set_cons_zero, List.set_cons_succ, List.cons_append, List.nil_append, List.append_nil, List.replicate, List.length_cons, List.length_nil, List.take_succ_cons, List.take_zero, List.drop_succ_cons, List.drop_zero, List.reverse_cons, List.reverse_nil, true_and, and_true, forall_const, not_true_eq_false, not_false_eq_true, false_implies, true_implies, implies_true, one0, m10, Nat.reduceAdd, Nat.reduceSub, Nat.reduceLeDiff, Nat.zero_add, Nat.add_zero, fn_X12_in, fn_X12_noUser, fn_X12_rateOf])
    rw [e]
    refine ⟨⟨_, _, _, rfl⟩, fun h2 => ?_, fun h2 => ?_⟩
    · rw [if_pos h2] at hQ; exact hQ
    · rw [if_neg h2] at hQ
      (apply h30; simp only [BX12_user_30, s_mth, s_mab, s_at, s_iconst, s_lconst, s_iload, s_lload, s_aload, s_istore, s_lstore, s_astore, s_iinc, s_bin, s_binG, s_un, s_lbin, s_lbinG, s_lsh, s_lcmp, s_i2l, s_l2i, s_dup, s_dup2, s_pop, s_if, s_icmp, s_geti, s_getl, s_getr, s_puti, s_putz, s_putl, s_iald, s_zald, s_iast, s_zast, s_aaldS, s_aaldU, s_gets, s_tald, s_tsw, tsw, s_iret, s_zret, s_lret, s_aret, s_vret, s_callV, s_callS, c1, nl1, keepL, csum, pushR, inL, List.getD_cons_zero, List.getD_cons_succ, List.set_cons_zero, List.set_cons_succ, List.cons_append, List.nil_append, List.append_nil, List.replicate, List.length_cons, List.length_nil, List.take_succ_cons, List.take_zero, List.drop_succ_cons, List.drop_zero, List.reverse_cons, List.reverse_nil, true_and, and_true, forall_const, not_true_eq_false, not_false_eq_true, false_implies, true_implies, implies_true, one0, m10, Nat.reduceAdd, Nat.reduceSub, Nat.reduceLeDiff, Nat.zero_add, Nat.add_zero, fn_X12_in, fn_X12_noUser, fn_X12_rateOf])
      refine ⟨fun h3 => ?_, fun h3 => ?_⟩
      · rw [if_pos h3] at hQ
        refine ⟨⟨_, _, _, rfl, hI.1.1, PG_0 hI.1.2, j, hj, rfl⟩, ?_⟩
        (apply h59; simp only [BX12_user_59, s_mth, s_mab, s_at, s_iconst, s_lconst, s_iload, s_lload, s_aload, s_istore, s_lstore, s_astore, s_iinc, s_bin, s_binG, s_un, s_lbin, s_lbinG, s_lsh, s_lcmp, s_i2l, s_l2i, s_dup, s_dup2, s_pop, s_if, s_icmp, s_geti, s_getl, s_getr, s_puti, s_putz, s_putl, s_iald, s_zald, s_iast, s_zast, s_aaldS, s_aaldU, s_gets, s_tald, s_tsw, tsw, s_iret, s_zret, s_lret, s_aret, s_vret, s_callV, s_callS, c1, nl1, keepL, csum, pushR, inL, List.getD_cons_zero, List.getD_cons_succ, List.set_cons_zero, List.set_cons_succ, List.cons_append, List.nil_append, List.append_nil, List.replicate, List.length_cons, List.length_nil, List.take_succ_cons, List.take_zero, List.drop_succ_cons, List.drop_zero, List.reverse_cons, List.reverse_nil, true_and, and_true, forall_const, not_true_eq_false, not_false_eq_true, false_implies, true_implies, implies_true, one0, m10, Nat.reduceAdd, Nat.reduceSub, Nat.reduceLeDiff, Nat.zero_add, Nat.add_zero, fn_X12_in, fn_X12_noUser, fn_X12_rateOf])
        exact hQ
      · rw [if_neg h3] at hQ
        obtain ⟨w', -, h1, rfl⟩ := wi_g (d := 0) (c := 10) rfl rfl (by decide) (by decide) h2
        have hw0 : w' ≠ 0 := fun g => h3 (by rw [g]; rfl)
        obtain ⟨w1, rfl⟩ : ∃ w1, w' = w1 + 1 := ⟨w' - 1, by omega⟩
        have e1 : (10 : Int32) * nI j + nI (w1 + 1) - 1 = nI (10 * j + w1) := by
          rw [show (10 : Int32) = nI 10 from rfl, pk_mul, nI_add, show 10 * j + (w1 + 1) = 10 * j + w1 + 1 from rfl, nI_pred]
        (apply h46; simp only [BX12_user_46, s_mth, s_mab, s_at, s_iconst, s_lconst, s_iload, s_lload, s_aload, s_istore, s_lstore, s_astore, s_iinc, s_bin, s_binG, s_un, s_lbin, s_lbinG, s_lsh, s_lcmp, s_i2l, s_l2i, s_dup, s_dup2, s_pop, s_if, s_icmp, s_geti, s_getl, s_getr, s_puti, s_putz, s_putl, s_iald, s_zald, s_iast, s_zast, s_aaldS, s_aaldU, s_gets, s_tald, s_tsw, tsw, s_iret, s_zret, s_lret, s_aret, s_vret, s_callV, s_callS, c1, nl1, keepL, csum, pushR, inL, List.getD_cons_zero, List.getD_cons_succ, List.set_cons_zero, List.set_cons_succ, List.cons_append, List.nil_append, List.append_nil, List.replicate, List.length_cons, List.length_nil, List.take_succ_cons, List.take_zero, List.drop_succ_cons, List.drop_zero, List.reverse_cons, List.reverse_nil, true_and, and_true, forall_const, not_true_eq_false, not_false_eq_true, false_implies, true_implies, implies_true, one0, m10, Nat.reduceAdd, Nat.reduceSub, Nat.reduceLeDiff, Nat.zero_add, Nat.add_zero, fn_X12_in, fn_X12_noUser, fn_X12_rateOf])
        rw [e1]
        simp only [lM]
        refine ⟨vz (by omega) (by decide), ?_⟩
        (apply h59; simp only [BX12_user_59, s_mth, s_mab, s_at, s_iconst, s_lconst, s_iload, s_lload, s_aload, s_istore, s_lstore, s_astore, s_iinc, s_bin, s_binG, s_un, s_lbin, s_lbinG, s_lsh, s_lcmp, s_i2l, s_l2i, s_dup, s_dup2, s_pop, s_if, s_icmp, s_geti, s_getl, s_getr, s_puti, s_putz, s_putl, s_iald, s_zald, s_iast, s_zast, s_aaldS, s_aaldU, s_gets, s_tald, s_tsw, tsw, s_iret, s_zret, s_lret, s_aret, s_vret, s_callV, s_callS, c1, nl1, keepL, csum, pushR, inL, List.getD_cons_zero, List.getD_cons_succ, List.set_cons_zero, List.set_cons_succ, List.cons_append, List.nil_append, List.append_nil, List.replicate, List.length_cons, List.length_nil, List.take_succ_cons, List.take_zero, List.drop_succ_cons, List.drop_zero, List.reverse_cons, List.reverse_nil, true_and, and_true, forall_const, not_true_eq_false, not_false_eq_true, false_implies, true_implies, implies_true, one0, m10, Nat.reduceAdd, Nat.reduceSub, Nat.reduceLeDiff, Nat.zero_add, Nat.add_zero, fn_X12_in, fn_X12_noUser, fn_X12_rateOf])
        rw [nI_clamp (by omega : j < 2 ^ 31), nI_clamp (by omega : w1 + 1 < 2 ^ 31)] at hQ
        rw [nI_clamp (by omega)]
        exact hQ
  · rw [if_neg h] at hQ; exact hQ
theorem ct_X12_user (l : Launch) : Con l yX12_user cX12_user 3 (Option.some FieldType.int) 2 pre_X12_user fn_X12_user := con_of (by decide +kernel) ok_X12_user len_X12_user (fun p e s m args below meth c D ca ad A as M hX hr hp ho => pf_X12_user _ _ (bsX12_user_0 hX hr) (bsX12_user_15 hX hr) (bsX12_user_30 hX hr) (bsX12_user_46 hX hr) (bsX12_user_59 hX hr) as M ho hp ⟨rfl, rfl⟩)
def ntA (M : mM) : mM := if M.1 158 20 = 14 then mset (rset M 168 (cpyR (M.1 168) (fun k => M.1 168 (k + 52)) 0 676 0)) 158 20 (M.1 158 20 - 1) else M
def ntD (M : mM) : Nat := (M.1 158 20).toNatClampNeg
def ntB (M : mM) : mM := rset M 168 (cpyR (M.1 168) (M.1 165) (52 * ntD M) 52 0)
def ntC (M : mM) : mM := mset (ntB M) 158 20 (M.1 158 20 + 1)
def nt (M : mM) : mM := ntC (ntA M)
def pre_X12_note (as : List mV) (M : mM) : Prop := ∃ c, as = [.inr (.inr (12, c))] ∧ ∃ d, d ≤ 14 ∧ M.1 158 20 = nI d
def fn_X12_note : List mV → mM → Option mV × mM
  | [.inr (.inr (_, c))], M => (none, nt M)
  | _, M => (none, M)
theorem ok_X12_note (as : List mV) (M : mM) (h : pre_X12_note as M) (_ : ∀ v ∈ as, okV v) : okR (fn_X12_note as M).1 := by
  obtain ⟨c, rfl, -⟩ := h
  first | trivial | exact (by decide +kernel : kof 14 = 8)
theorem len_X12_note (as : List mV) (M : mM) (h : pre_X12_note as M) : (inL as).length ≤ 2 := by
  obtain ⟨c, rfl, -⟩ := h
  exact Nat.le_of_ble_eq_true rfl

theorem fl_742 : FLk "FairBlocksModel" 54 12 19 16 := ⟨RX12, TX12, 32, rfl, inX12, by decide, w_742, by decide, rfl⟩
theorem fl_743 : FLk "FairBlocksModel" 120 12 20 0 := ⟨RX12, TX12, 32, rfl, inX12, by decide, w_743, by decide, rfl⟩
theorem fp_743 : FPk "FairBlocksModel" 120 12 20 0 .int := ⟨RX12, TX12, 32, tyX12, rfl, inX12, by decide, w_743, by decide, rfl, tyX12_ok, nmX12, rfl, rfl⟩
theorem dX12_note_0 : decode cX12_note 0 = .ok (.aload_n 0, 1) := by decide +kernel
theorem dX12_note_1 : decode cX12_note 1 = .ok (.getfield 120, 3) := by decide +kernel
theorem dX12_note_4 : decode cX12_note 4 = .ok (.bipush 14, 2) := by decide +kernel
theorem dX12_note_6 : decode cX12_note 6 = .ok (.if_icmp .ne 43, 3) := by decide +kernel
theorem dX12_note_9 : decode cX12_note 9 = .ok (.iconst 0, 1) := by decide +kernel
theorem dX12_note_10 : decode cX12_note 10 = .ok (.istore_n 1, 1) := by decide +kernel
theorem dX12_note_11 : decode cX12_note 11 = .ok (.iload_n 1, 1) := by decide +kernel
theorem dX12_note_12 : decode cX12_note 12 = .ok (.sipush 676, 3) := by decide +kernel
theorem dX12_note_15 : decode cX12_note 15 = .ok (.if_icmp .ge 24, 3) := by decide +kernel
theorem dX12_note_18 : decode cX12_note 18 = .ok (.aload_n 0, 1) := by decide +kernel
theorem dX12_note_19 : decode cX12_note 19 = .ok (.getfield 54, 3) := by decide +kernel
theorem dX12_note_22 : decode cX12_note 22 = .ok (.iload_n 1, 1) := by decide +kernel
theorem dX12_note_23 : decode cX12_note 23 = .ok (.aload_n 0, 1) := by decide +kernel
theorem dX12_note_24 : decode cX12_note 24 = .ok (.getfield 54, 3) := by decide +kernel
theorem dX12_note_27 : decode cX12_note 27 = .ok (.iload_n 1, 1) := by decide +kernel
theorem dX12_note_28 : decode cX12_note 28 = .ok (.bipush 52, 2) := by decide +kernel
theorem dX12_note_30 : decode cX12_note 30 = .ok (.iadd, 1) := by decide +kernel
theorem dX12_note_31 : decode cX12_note 31 = .ok (.iaload, 1) := by decide +kernel
theorem dX12_note_32 : decode cX12_note 32 = .ok (.iastore, 1) := by decide +kernel
theorem dX12_note_33 : decode cX12_note 33 = .ok (.iinc 1 1, 3) := by decide +kernel
theorem dX12_note_36 : decode cX12_note 36 = .ok (.goto (-25), 3) := by decide +kernel
theorem dX12_note_39 : decode cX12_note 39 = .ok (.aload_n 0, 1) := by decide +kernel
theorem dX12_note_40 : decode cX12_note 40 = .ok (.dup, 1) := by decide +kernel
theorem dX12_note_41 : decode cX12_note 41 = .ok (.getfield 120, 3) := by decide +kernel
theorem dX12_note_44 : decode cX12_note 44 = .ok (.iconst 1, 1) := by decide +kernel
theorem dX12_note_45 : decode cX12_note 45 = .ok (.isub, 1) := by decide +kernel
theorem dX12_note_46 : decode cX12_note 46 = .ok (.putfield 120, 3) := by decide +kernel
theorem dX12_note_49 : decode cX12_note 49 = .ok (.iconst 0, 1) := by decide +kernel
theorem dX12_note_50 : decode cX12_note 50 = .ok (.istore_n 1, 1) := by decide +kernel
theorem dX12_note_51 : decode cX12_note 51 = .ok (.iload_n 1, 1) := by decide +kernel
theorem dX12_note_52 : decode cX12_note 52 = .ok (.bipush 52, 2) := by decide +kernel
theorem dX12_note_54 : decode cX12_note 54 = .ok (.if_icmp .ge 29, 3) := by decide +kernel
theorem dX12_note_57 : decode cX12_note 57 = .ok (.aload_n 0, 1) := by decide +kernel
theorem dX12_note_58 : decode cX12_note 58 = .ok (.getfield 54, 3) := by decide +kernel
theorem dX12_note_61 : decode cX12_note 61 = .ok (.bipush 52, 2) := by decide +kernel
theorem dX12_note_63 : decode cX12_note 63 = .ok (.aload_n 0, 1) := by decide +kernel
theorem dX12_note_64 : decode cX12_note 64 = .ok (.getfield 120, 3) := by decide +kernel
theorem dX12_note_67 : decode cX12_note 67 = .ok (.imul, 1) := by decide +kernel
theorem dX12_note_68 : decode cX12_note 68 = .ok (.iload_n 1, 1) := by decide +kernel
theorem dX12_note_69 : decode cX12_note 69 = .ok (.iadd, 1) := by decide +kernel
theorem dX12_note_70 : decode cX12_note 70 = .ok (.aload_n 0, 1) := by decide +kernel
theorem dX12_note_71 : decode cX12_note 71 = .ok (.getfield 11, 3) := by decide +kernel
theorem dX12_note_74 : decode cX12_note 74 = .ok (.iload_n 1, 1) := by decide +kernel
theorem dX12_note_75 : decode cX12_note 75 = .ok (.iaload, 1) := by decide +kernel
theorem dX12_note_76 : decode cX12_note 76 = .ok (.iastore, 1) := by decide +kernel
theorem dX12_note_77 : decode cX12_note 77 = .ok (.iinc 1 1, 3) := by decide +kernel
theorem dX12_note_80 : decode cX12_note 80 = .ok (.goto (-29), 3) := by decide +kernel
theorem dX12_note_83 : decode cX12_note 83 = .ok (.aload_n 0, 1) := by decide +kernel
theorem dX12_note_84 : decode cX12_note 84 = .ok (.dup, 1) := by decide +kernel
theorem dX12_note_85 : decode cX12_note 85 = .ok (.getfield 120, 3) := by decide +kernel
theorem dX12_note_88 : decode cX12_note 88 = .ok (.iconst 1, 1) := by decide +kernel
theorem dX12_note_89 : decode cX12_note 89 = .ok (.iadd, 1) := by decide +kernel
theorem dX12_note_90 : decode cX12_note 90 = .ok (.putfield 120, 3) := by decide +kernel
theorem dX12_note_93 : decode cX12_note 93 = .ok (.return_, 1) := by decide +kernel
theorem mk_X12_note : MVk yX12_note "FairBlocksModel" cX12_note 2 (Option.none : Option FieldType) 0 := ⟨w_877, w_876, wp_20, w_13, rfl, by decide +kernel, by decide +kernel, by decide +kernel⟩
def BX12_note_0 (G : Nat → KT) (Q : Option mV → mM → Prop) : KT := (s_aload 0 (s_geti 12 20 (s_iconst (14) (s_icmp (fun x y => x = y) ((s_iconst (0) (s_istore 1 (s_at G 11 [true, true])))) (s_at G 49 [true, false])))))
set_option maxRecDepth 4000 in
theorem bsX12_note_0 {p : Program} {l : Launch} {e : Env} {s : State} {m : MethodId} {args : Array Value} {below : List Frame} {meth : Method} {c : Code} {D : va_G} {ca : Nat → ClassId} {ad : Nat → Nat} {A : Nat → Prop} {Q : Option mV → mM → Prop} (hX : CX p s m args meth c 2 cX12_note "FairBlocksModel" D ca ad A) (hr : meth.sig.returnType = (Option.none : Option FieldType)) : ∀ lv st M, BX12_note_0 (Gd p l e (rmD 0) s m args below meth c 2 D ca ad A 0 0 (MQ below (QC D ca ad A Q) args s 0 0 A)) Q lv st M → Gd p l e (rmD 0) s m args below meth c 2 D ca ad A 0 0 (MQ below (QC D ca ad A Q) args s 0 0 A) 0 lv st M :=
  (sd_aload_n hX dX12_note_0 rfl (sd_geti hX fl_743 (by decide) dX12_note_1 (sd_bipush hX dX12_note_4 rfl (sd_icmp_ne hX dX12_note_6 (by decide) sd_at (sd_iconst hX dX12_note_9 rfl (sd_istore_n hX (by decide) dX12_note_10 rfl sd_at))))))
def BX12_note_11 (G : Nat → KT) (Q : Option mV → mM → Prop) : KT := (s_iload 1 (s_iconst (676) (s_icmp (fun x y => y ≤ x) (s_at G 39 [true, false]) (s_aload 0 (s_getr 12 13 (fun _ => 168) (s_iload 1 (s_aload 0 (s_getr 12 13 (fun _ => 168) (s_iload 1 (s_iconst (52) (s_bin (fun x y => x + y) (s_iald (s_iast (s_iinc 1 (1) (s_at G 11 [true, true])))))))))))))))
set_option maxRecDepth 4000 in
theorem bsX12_note_11 {p : Program} {l : Launch} {e : Env} {s : State} {m : MethodId} {args : Array Value} {below : List Frame} {meth : Method} {c : Code} {D : va_G} {ca : Nat → ClassId} {ad : Nat → Nat} {A : Nat → Prop} {Q : Option mV → mM → Prop} (hX : CX p s m args meth c 2 cX12_note "FairBlocksModel" D ca ad A) (hr : meth.sig.returnType = (Option.none : Option FieldType)) : ∀ lv st M, BX12_note_11 (Gd p l e (rmD 0) s m args below meth c 2 D ca ad A 0 0 (MQ below (QC D ca ad A Q) args s 0 0 A)) Q lv st M → Gd p l e (rmD 0) s m args below meth c 2 D ca ad A 0 0 (MQ below (QC D ca ad A Q) args s 0 0 A) 11 lv st M :=
  (sd_iload_n hX dX12_note_11 rfl (sd_sipush hX dX12_note_12 rfl (sd_icmp_ge hX dX12_note_15 (by decide) sd_at (sd_aload_n hX dX12_note_18 rfl (sd_getr hX fl_742 (fun _ => rfl) (fun _ _ _ => by decide +kernel) dX12_note_19 (sd_iload_n hX dX12_note_22 rfl (sd_aload_n hX dX12_note_23 rfl (sd_getr hX fl_742 (fun _ => rfl) (fun _ _ _ => by decide +kernel) dX12_note_24 (sd_iload_n hX dX12_note_27 rfl (sd_bipush hX dX12_note_28 rfl (sd_iadd hX dX12_note_30 (sd_iald hX dX12_note_31 (sd_iast hX dX12_note_32 (sd_iinc hX (by decide) dX12_note_33 rfl (sd_goto hX dX12_note_36 (by decide) sd_at)))))))))))))))
def BX12_note_39 (G : Nat → KT) (Q : Option mV → mM → Prop) : KT := (s_aload 0 (s_dup (s_geti 12 20 (s_iconst (1) (s_bin (fun x y => x - y) (s_puti 12 20 (s_at G 49 [true, false])))))))
set_option maxRecDepth 4000 in
theorem bsX12_note_39 {p : Program} {l : Launch} {e : Env} {s : State} {m : MethodId} {args : Array Value} {below : List Frame} {meth : Method} {c : Code} {D : va_G} {ca : Nat → ClassId} {ad : Nat → Nat} {A : Nat → Prop} {Q : Option mV → mM → Prop} (hX : CX p s m args meth c 2 cX12_note "FairBlocksModel" D ca ad A) (hr : meth.sig.returnType = (Option.none : Option FieldType)) : ∀ lv st M, BX12_note_39 (Gd p l e (rmD 0) s m args below meth c 2 D ca ad A 0 0 (MQ below (QC D ca ad A Q) args s 0 0 A)) Q lv st M → Gd p l e (rmD 0) s m args below meth c 2 D ca ad A 0 0 (MQ below (QC D ca ad A Q) args s 0 0 A) 39 lv st M :=
  (sd_aload_n hX dX12_note_39 rfl (sd_dup hX dX12_note_40 (sd_geti hX fl_743 (by decide) dX12_note_41 (sd_iconst hX dX12_note_44 rfl (sd_isub hX dX12_note_45 (sd_puti hX fp_743 dX12_note_46 sd_at))))))
def BX12_note_49 (G : Nat → KT) (Q : Option mV → mM → Prop) : KT := (s_iconst (0) (s_istore 1 (s_at G 51 [true, true])))
set_option maxRecDepth 4000 in
theorem bsX12_note_49 {p : Program} {l : Launch} {e : Env} {s : State} {m : MethodId} {args : Array Value} {below : List Frame} {meth : Method} {c : Code} {D : va_G} {ca : Nat → ClassId} {ad : Nat → Nat} {A : Nat → Prop} {Q : Option mV → mM → Prop} (hX : CX p s m args meth c 2 cX12_note "FairBlocksModel" D ca ad A) (hr : meth.sig.returnType = (Option.none : Option FieldType)) : ∀ lv st M, BX12_note_49 (Gd p l e (rmD 0) s m args below meth c 2 D ca ad A 0 0 (MQ below (QC D ca ad A Q) args s 0 0 A)) Q lv st M → Gd p l e (rmD 0) s m args below meth c 2 D ca ad A 0 0 (MQ below (QC D ca ad A Q) args s 0 0 A) 49 lv st M :=
  (sd_iconst hX dX12_note_49 rfl (sd_istore_n hX (by decide) dX12_note_50 rfl sd_at))
def BX12_note_51 (G : Nat → KT) (Q : Option mV → mM → Prop) : KT := (s_iload 1 (s_iconst (52) (s_icmp (fun x y => y ≤ x) (s_at G 83 [true, false]) (s_aload 0 (s_getr 12 13 (fun _ => 168) (s_iconst (52) (s_aload 0 (s_geti 12 20 (s_bin (fun x y => x * y) (s_iload 1 (s_bin (fun x y => x + y) (s_aload 0 (s_getr 12 13 (fun _ => 165) (s_iload 1 (s_iald (s_iast (s_iinc 1 (1) (s_at G 51 [true, true]))))))))))))))))))
set_option maxRecDepth 4000 in
theorem bsX12_note_51 {p : Program} {l : Launch} {e : Env} {s : State} {m : MethodId} {args : Array Value} {below : List Frame} {meth : Method} {c : Code} {D : va_G} {ca : Nat → ClassId} {ad : Nat → Nat} {A : Nat → Prop} {Q : Option mV → mM → Prop} (hX : CX p s m args meth c 2 cX12_note "FairBlocksModel" D ca ad A) (hr : meth.sig.returnType = (Option.none : Option FieldType)) : ∀ lv st M, BX12_note_51 (Gd p l e (rmD 0) s m args below meth c 2 D ca ad A 0 0 (MQ below (QC D ca ad A Q) args s 0 0 A)) Q lv st M → Gd p l e (rmD 0) s m args below meth c 2 D ca ad A 0 0 (MQ below (QC D ca ad A Q) args s 0 0 A) 51 lv st M :=
  (sd_iload_n hX dX12_note_51 rfl (sd_bipush hX dX12_note_52 rfl (sd_icmp_ge hX dX12_note_54 (by decide) sd_at (sd_aload_n hX dX12_note_57 rfl (sd_getr hX fl_742 (fun _ => rfl) (fun _ _ _ => by decide +kernel) dX12_note_58 (sd_bipush hX dX12_note_61 rfl (sd_aload_n hX dX12_note_63 rfl (sd_geti hX fl_743 (by decide) dX12_note_64 (sd_imul hX dX12_note_67 (sd_iload_n hX dX12_note_68 rfl (sd_iadd hX dX12_note_69 (sd_aload_n hX dX12_note_70 rfl (sd_getr hX fl_739 (fun _ => rfl) (fun _ _ _ => by decide +kernel) dX12_note_71 (sd_iload_n hX dX12_note_74 rfl (sd_iald hX dX12_note_75 (sd_iast hX dX12_note_76 (sd_iinc hX (by decide) dX12_note_77 rfl (sd_goto hX dX12_note_80 (by decide) sd_at))))))))))))))))))
def BX12_note_83 (G : Nat → KT) (Q : Option mV → mM → Prop) : KT := (s_aload 0 (s_dup (s_geti 12 20 (s_iconst (1) (s_bin (fun x y => x + y) (s_puti 12 20 (s_vret Q)))))))
set_option maxRecDepth 4000 in
theorem bsX12_note_83 {p : Program} {l : Launch} {e : Env} {s : State} {m : MethodId} {args : Array Value} {below : List Frame} {meth : Method} {c : Code} {D : va_G} {ca : Nat → ClassId} {ad : Nat → Nat} {A : Nat → Prop} {Q : Option mV → mM → Prop} (hX : CX p s m args meth c 2 cX12_note "FairBlocksModel" D ca ad A) (hr : meth.sig.returnType = (Option.none : Option FieldType)) : ∀ lv st M, BX12_note_83 (Gd p l e (rmD 0) s m args below meth c 2 D ca ad A 0 0 (MQ below (QC D ca ad A Q) args s 0 0 A)) Q lv st M → Gd p l e (rmD 0) s m args below meth c 2 D ca ad A 0 0 (MQ below (QC D ca ad A Q) args s 0 0 A) 83 lv st M :=
  (sd_aload_n hX dX12_note_83 rfl (sd_dup hX dX12_note_84 (sd_geti hX fl_743 (by decide) dX12_note_85 (sd_iconst hX dX12_note_88 rfl (sd_iadd hX dX12_note_89 (sd_puti hX fp_743 dX12_note_90 (sd_vret hX hr dX12_note_93)))))))
set_option maxHeartbeats 400000 in
theorem pf_X12_note (G : Nat → KT) (Q : Option mV → mM → Prop) (h0 : ∀ lv st M, BX12_note_0 G Q lv st M → G 0 lv st M) (h11 : ∀ lv st M, BX12_note_11 G Q lv st M → G 11 lv st M) (h39 : ∀ lv st M, BX12_note_39 G Q lv st M → G 39 lv st M) (h49 : ∀ lv st M, BX12_note_49 G Q lv st M → G 49 lv st M) (h51 : ∀ lv st M, BX12_note_51 G Q lv st M → G 51 lv st M) (h83 : ∀ lv st M, BX12_note_83 G Q lv st M → G 83 lv st M) (as : List mV) (M : mM) (ho : ∀ v ∈ as, okV v) (hp : pre_X12_note as M) (hQ : Q (fn_X12_note as M).1 (fn_X12_note as M).2) : G 0 (inL as ++ List.replicate (2 - (inL as).length) none) [] M := by
  obtain ⟨c, rfl, D, hD, eD⟩ := hp
  obtain rfl : c = 158 := k12 (ho (.inr (.inr (12, c))) (by simp))
  simp only [fn_X12_note, nt] at hQ
  have L49 : ∀ (M0 : mM) (d : Nat), d ≤ 13 → M0.1 158 20 = nI d → Q none (ntC M0) → G 49 [some (.inr (.inr (12, 158))), none] [] M0 := by
    intro M0 d hd e20 hq
    unfold ntC ntB ntD at hq
    rw [e20, nI_clamp (by omega : d < 2 ^ 31), ← cpyM_e] at hq
    have loop : ∀ (n i : Nat) (M' : mM), i + n = 52 → M'.1 165 = M0.1 165 → M'.1 158 = M0.1 158 → Q none (mset (cpyM M' 168 (M0.1 165) (52 * d) n i) 158 20 (nI d + 1)) → G 51 [some (.inr (.inr (12, 158))), some (.inl (nI i))] [] M' := by
      intro n
      induction n with
      | zero =>
        intro i M' hi h165 h158 hq
        obtain rfl : i = 52 := by omega
        (apply h51; simp only [BX12_note_51, s_mth, s_mab, s_at, s_iconst, s_lconst, s_iload, s_lload, s_aload, s_istore, s_lstore, s_astore, s_iinc, s_bin, s_binG, s_un, s_lbin, s_lbinG, s_lsh, s_lcmp, s_i2l, s_l2i, s_dup, s_dup2, s_pop, s_if, s_icmp, s_geti, s_getl, s_getr, s_puti, s_putz, s_putl, s_iald, s_zald, s_iast, s_zast, s_aaldS, s_aaldU, s_gets, s_tald, s_tsw, tsw, s_iret, s_zret, s_lret, s_aret, s_vret, s_callV, s_callS, c1, nl1, keepL, csum, pushR, inL, List.getD_cons_zero, List.getD_cons_succ, List.set_cons_zero, List.set_cons_succ, List.cons_append, List.nil_append, List.append_nil, List.replicate, List.length_cons, List.length_nil, List.take_succ_cons, List.take_zero, List.drop_succ_cons, List.drop_zero, List.reverse_cons, List.reverse_nil, true_and, and_true, forall_const, not_true_eq_false, not_false_eq_true, false_implies, true_implies, implies_true, one0, m10, Nat.reduceAdd, Nat.reduceSub, Nat.reduceLeDiff, Nat.zero_add, Nat.add_zero])
        refine ⟨fun _ => ?_, fun h => absurd (by decide) h⟩
        (apply h83; simp only [BX12_note_83, s_mth, s_mab, s_at, s_iconst, s_lconst, s_iload, s_lload, s_aload, s_istore, s_lstore, s_astore, s_iinc, s_bin, s_binG, s_un, s_lbin, s_lbinG, s_lsh, s_lcmp, s_i2l, s_l2i, s_dup, s_dup2, s_pop, s_if, s_icmp, s_geti, s_getl, s_getr, s_puti, s_putz, s_putl, s_iald, s_zald, s_iast, s_zast, s_aaldS, s_aaldU, s_gets, s_tald, s_tsw, tsw, s_iret, s_zret, s_lret, s_aret, s_vret, s_callV, s_callS, c1, nl1, keepL, csum, pushR, inL, List.getD_cons_zero, List.getD_cons_succ, List.set_cons_zero, List.set_cons_succ, List.cons_append, List.nil_append, List.append_nil, List.replicate, List.length_cons, List.length_nil, List.take_succ_cons, List.take_zero, List.drop_succ_cons, List.drop_zero, List.reverse_cons, List.reverse_nil, true_and, and_true, forall_const, not_true_eq_false, not_false_eq_true, false_implies, true_implies, implies_true, one0, m10, Nat.reduceAdd, Nat.reduceSub, Nat.reduceLeDiff, Nat.zero_add, Nat.add_zero])
        rw [h158, e20]
        exact hq
      | succ n ih =>
        intro i M' hi h165 h158 hq
        have ei : (nI i).toNatClampNeg = i := nI_clamp (by omega)
        have hv : vp_in (nI i) 52 := vp_in_nI (by omega) (by decide)
        have e1 : (52 : Int32) * nI d + nI i = nI (52 * d + i) := by rw [show (52 : Int32) = nI 52 from rfl, pk_mul, nI_add]
        (apply h51; simp only [BX12_note_51, s_mth, s_mab, s_at, s_iconst, s_lconst, s_iload, s_lload, s_aload, s_istore, s_lstore, s_astore, s_iinc, s_bin, s_binG, s_un, s_lbin, s_lbinG, s_lsh, s_lcmp, s_i2l, s_l2i, s_dup, s_dup2, s_pop, s_if, s_icmp, s_geti, s_getl, s_getr, s_puti, s_putz, s_putl, s_iald, s_zald, s_iast, s_zast, s_aaldS, s_aaldU, s_gets, s_tald, s_tsw, tsw, s_iret, s_zret, s_lret, s_aret, s_vret, s_callV, s_callS, c1, nl1, keepL, csum, pushR, inL, List.getD_cons_zero, List.getD_cons_succ, List.set_cons_zero, List.set_cons_succ, List.cons_append, List.nil_append, List.append_nil, List.replicate, List.length_cons, List.length_nil, List.take_succ_cons, List.take_zero, List.drop_succ_cons, List.drop_zero, List.reverse_cons, List.reverse_nil, true_and, and_true, forall_const, not_true_eq_false, not_false_eq_true, false_implies, true_implies, implies_true, one0, m10, Nat.reduceAdd, Nat.reduceSub, Nat.reduceLeDiff, Nat.zero_add, Nat.add_zero])
        simp only [lM, ei, h165, h158, e20, e1]
        refine ⟨fun h => absurd h (nI_ge (b := 52) (by omega) (by decide)), fun _ => ⟨hv, vz (by omega) (by decide), ?_⟩⟩
        rw [nI_1, nI_clamp (by omega)]
        refine ih (i + 1) _ (by omega) ?_ ?_ ?_
        · rw [mset_n (by decide)]; exact h165
        · rw [mset_n (by decide)]; exact h158
        · rw [cpyM] at hq; exact hq
    (apply h49; simp only [BX12_note_49, s_mth, s_mab, s_at, s_iconst, s_lconst, s_iload, s_lload, s_aload, s_istore, s_lstore, s_astore, s_iinc, s_bin, s_binG, s_un, s_lbin, s_lbinG, s_lsh, s_lcmp, s_i2l, s_l2i, s_dup, s_dup2, s_pop, s_if, s_icmp, s_geti, s_getl, s_getr, s_puti, s_putz, s_putl, s_iald, s_zald, s_iast, s_zast, s_aaldS, s_aaldU, s_gets, s_tald, s_tsw, tsw, s_iret, s_zret, s_lret, s_aret, s_vret, s_callV, s_callS, c1, nl1, keepL, csum, pushR, inL, List.getD_cons_zero, List.getD_cons_succ, List.set_cons_zero, List.set_cons_succ, List.cons_append, List.nil_append, List.append_nil, List.replicate, List.length_cons, List.length_nil, List.take_succ_cons, List.take_zero, List.drop_succ_cons, List.drop_zero, List.reverse_cons, List.reverse_nil, true_and, and_true, forall_const, not_true_eq_false, not_false_eq_true, false_implies, true_implies, implies_true, one0, m10, Nat.reduceAdd, Nat.reduceSub, Nat.reduceLeDiff, Nat.zero_add, Nat.add_zero])
    exact loop 52 0 M0 rfl rfl rfl hq
  unfold ntA at hQ
  (apply h0; simp only [BX12_note_0, s_mth, s_mab, s_at, s_iconst, s_lconst, s_iload, s_lload, s_aload, s_istore, s_lstore, s_astore, s_iinc, s_bin, s_binG, s_un, s_lbin, s_lbinG, s_lsh, s_lcmp, s_i2l, s_l2i, s_dup, s_dup2, s_pop, s_if, s_icmp, s_geti, s_getl, s_getr, s_puti, s_putz, s_putl, s_iald, s_zald, s_iast, s_zast, s_aaldS, s_aaldU, s_gets, s_tald, s_tsw, tsw, s_iret, s_zret, s_lret, s_aret, s_vret, s_callV, s_callS, c1, nl1, keepL, csum, pushR, inL, List.getD_cons_zero, List.getD_cons_succ, List.set_cons_zero, List.set_cons_succ, List.cons_append, List.nil_append, List.append_nil, List.replicate, List.length_cons, List.length_nil, List.take_succ_cons, List.take_zero, List.drop_succ_cons, List.drop_zero, List.reverse_cons, List.reverse_nil, true_and, and_true, forall_const, not_true_eq_false, not_false_eq_true, false_implies, true_implies, implies_true, one0, m10, Nat.reduceAdd, Nat.reduceSub, Nat.reduceLeDiff, Nat.zero_add, Nat.add_zero])
  refine ⟨fun h => ?_, fun h => ?_⟩
  · rw [if_pos h] at hQ
    rw [← cpyM_e] at hQ
    have loop : ∀ (n i : Nat) (M' : mM), i + n = 676 → M'.1 158 = M.1 158 → (∀ j, i ≤ j → M'.1 168 j = M.1 168 j) → Q none (ntC (mset (cpyM M' 168 (fun k => M.1 168 (k + 52)) 0 n i) 158 20 (M.1 158 20 - 1))) → G 11 [some (.inr (.inr (12, 158))), some (.inl (nI i))] [] M' := by
      intro n
      induction n with
      | zero =>
        intro i M' hi h158 h168 hq
        obtain rfl : i = 676 := by omega
        (apply h11; simp only [BX12_note_11, s_mth, s_mab, s_at, s_iconst, s_lconst, s_iload, s_lload, s_aload, s_istore, s_lstore, s_astore, s_iinc, s_bin, s_binG, s_un, s_lbin, s_lbinG, s_lsh, s_lcmp, s_i2l, s_l2i, s_dup, s_dup2, s_pop, s_if, s_icmp, s_geti, s_getl, s_getr, s_puti, s_putz, s_putl, s_iald, s_zald, s_iast, s_zast, s_aaldS, s_aaldU, s_gets, s_tald, s_tsw, tsw, s_iret, s_zret, s_lret, s_aret, s_vret, s_callV, s_callS, c1, nl1, keepL, csum, pushR, inL, List.getD_cons_zero, List.getD_cons_succ, List.set_cons_zero, List.set_cons_succ, List.cons_append, List.nil_append, List.append_nil, List.replicate, List.length_cons, List.length_nil, List.take_succ_cons, List.take_zero, List.drop_succ_cons, List.drop_zero, List.reverse_cons, List.reverse_nil, true_and, and_true, forall_const, not_true_eq_false, not_false_eq_true, false_implies, true_implies, implies_true, one0, m10, Nat.reduceAdd, Nat.reduceSub, Nat.reduceLeDiff, Nat.zero_add, Nat.add_zero])
        refine ⟨fun _ => ?_, fun h => absurd (by decide) h⟩
        (apply h39; simp only [BX12_note_39, s_mth, s_mab, s_at, s_iconst, s_lconst, s_iload, s_lload, s_aload, s_istore, s_lstore, s_astore, s_iinc, s_bin, s_binG, s_un, s_lbin, s_lbinG, s_lsh, s_lcmp, s_i2l, s_l2i, s_dup, s_dup2, s_pop, s_if, s_icmp, s_geti, s_getl, s_getr, s_puti, s_putz, s_putl, s_iald, s_zald, s_iast, s_zast, s_aaldS, s_aaldU, s_gets, s_tald, s_tsw, tsw, s_iret, s_zret, s_lret, s_aret, s_vret, s_callV, s_callS, c1, nl1, keepL, csum, pushR, inL, List.getD_cons_zero, List.getD_cons_succ, List.set_cons_zero, List.set_cons_succ, List.cons_append, List.nil_append, List.append_nil, List.replicate, List.length_cons, List.length_nil, List.take_succ_cons, List.take_zero, List.drop_succ_cons, List.drop_zero, List.reverse_cons, List.reverse_nil, true_and, and_true, forall_const, not_true_eq_false, not_false_eq_true, false_implies, true_implies, implies_true, one0, m10, Nat.reduceAdd, Nat.reduceSub, Nat.reduceLeDiff, Nat.zero_add, Nat.add_zero])
        rw [h158]
        refine L49 _ 13 (by decide) ?_ hq
        rw [mset_s, h]
        decide
      | succ n ih =>
        intro i M' hi h158 h168 hq
        have ei : (nI i).toNatClampNeg = i := nI_clamp (by omega)
        have e1 : nI i + (52 : Int32) = nI (i + 52) := nI_add i 52
        (apply h11; simp only [BX12_note_11, s_mth, s_mab, s_at, s_iconst, s_lconst, s_iload, s_lload, s_aload, s_istore, s_lstore, s_astore, s_iinc, s_bin, s_binG, s_un, s_lbin, s_lbinG, s_lsh, s_lcmp, s_i2l, s_l2i, s_dup, s_dup2, s_pop, s_if, s_icmp, s_geti, s_getl, s_getr, s_puti, s_putz, s_putl, s_iald, s_zald, s_iast, s_zast, s_aaldS, s_aaldU, s_gets, s_tald, s_tsw, tsw, s_iret, s_zret, s_lret, s_aret, s_vret, s_callV, s_callS, c1, nl1, keepL, csum, pushR, inL, List.getD_cons_zero, List.getD_cons_succ, List.set_cons_zero, List.set_cons_succ, List.cons_append, List.nil_append, List.append_nil, List.replicate, List.length_cons, List.length_nil, List.take_succ_cons, List.take_zero, List.drop_succ_cons, List.drop_zero, List.reverse_cons, List.reverse_nil, true_and, and_true, forall_const, not_true_eq_false, not_false_eq_true, false_implies, true_implies, implies_true, one0, m10, Nat.reduceAdd, Nat.reduceSub, Nat.reduceLeDiff, Nat.zero_add, Nat.add_zero])
        simp only [lM, ei, e1]
        refine ⟨fun h => absurd h (nI_ge (b := 676) (by omega) (by decide)), fun _ => ⟨vz (by omega) (by decide), vz (by omega) (by decide), ?_⟩⟩
        rw [nI_1, nI_clamp (by omega), h168 (i + 52) (by omega)]
        refine ih (i + 1) _ (by omega) ?_ ?_ ?_
        · rw [mset_n (by decide)]; exact h158
        · intro j hj
          rw [mset_o (by omega)]; exact h168 j (by omega)
        · rw [cpyM, Nat.zero_add] at hq; exact hq
    exact loop 676 0 M rfl rfl (fun _ _ => rfl) hQ
  · rw [if_neg h] at hQ
    have hd : D ≠ 14 := fun g => h (by rw [eD, g]; rfl)
    exact L49 M D (by omega) eD hQ
theorem ct_X12_note (l : Launch) : Con l yX12_note cX12_note 2 (Option.none : Option FieldType) 0 pre_X12_note fn_X12_note := con_of (by decide +kernel) ok_X12_note len_X12_note (fun p e s m args below meth c D ca ad A as M hX hr hp ho => pf_X12_note _ _ (bsX12_note_0 hX hr) (bsX12_note_11 hX hr) (bsX12_note_39 hX hr) (bsX12_note_49 hX hr) (bsX12_note_51 hX hr) (bsX12_note_83 hX hr) as M ho hp ⟨rfl, rfl⟩)
