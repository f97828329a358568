/-! the law's loop; the world behind the constructors -/
theorem lw_cond {L j : Nat} (hL : L ≤ 3072) (hj : 6 * j ≤ 4000) : nI L - 6 < nI (6 * j) ↔ L < 6 * j + 6 := by
  by_cases h : L < 6
  · have e : nI L - 6 < 0 := by
      have : L = 0 ∨ L = 1 ∨ L = 2 ∨ L = 3 ∨ L = 4 ∨ L = 5 := by omega
      rcases this with rfl | rfl | rfl | rfl | rfl | rfl <;> decide
    have e2 : (0 : Int32) ≤ nI (6 * j) := nI_pos' (by omega)
    exact ⟨fun _ => by omega, fun _ => Int32.lt_of_lt_of_le e e2⟩
  · obtain ⟨a, rfl⟩ : ∃ a, L = a + 6 := ⟨L - 6, by omega⟩
    have e : nI (a + 6) - 6 = nI a := by
      rw [← nI_add]
      show nI a + 6 - 6 = nI a
      exact Int32.add_sub_cancel _ _
    rw [e, nI_ltI (by omega) (by omega)]
    omega
theorem law_loop {L : Nat} {xs : Nat → Int32} {G : Nat → KT} (h18 : ∀ lv st M, BL_law_18 L xs G lv st M → G 18 lv st M) (h156 : ∀ lv st M, BL_law_156 L xs G lv st M → G 156 lv st M) (h179 : ∀ lv st M, BL_law_179 L xs G lv st M → G 179 lv st M) (h192 : ∀ lv st M, BL_law_192 L xs G lv st M → G 192 lv st M) (h205 : ∀ lv st M, BL_law_205 L xs G lv st M → G 205 lv st M) (h218 : ∀ lv st M, BL_law_218 L xs G lv st M → G 218 lv st M) (h251 : ∀ lv st M, BL_law_251 L xs G lv st M → G 251 lv st M) (h274 : ∀ lv st M, BL_law_274 L xs G lv st M → G 274 lv st M) (h297 : ∀ lv st M, BL_law_297 L xs G lv st M → G 297 lv st M) (h320 : ∀ lv st M, BL_law_320 L xs G lv st M → G 320 lv st M) (h363 : ∀ lv st M, BL_law_363 L xs G lv st M → G 363 lv st M) (h386 : ∀ lv st M, BL_law_386 L xs G lv st M → G 386 lv st M) (h399 : ∀ lv st M, BL_law_399 L xs G lv st M → G 399 lv st M) (h442 : ∀ lv st M, BL_law_442 L xs G lv st M → G 442 lv st M) (h465 : ∀ lv st M, BL_law_465 L xs G lv st M → G 465 lv st M) (h498 : ∀ lv st M, BL_law_498 L xs G lv st M → G 498 lv st M) (h521 : ∀ lv st M, BL_law_521 L xs G lv st M → G 521 lv st M) (h544 : ∀ lv st M, BL_law_544 L xs G lv st M → G 544 lv st M) (h607 : ∀ lv st M, BL_law_607 L xs G lv st M → G 607 lv st M) (h670 : ∀ lv st M, BL_law_670 L xs G lv st M → G 670 lv st M) (h683 : ∀ lv st M, BL_law_683 L xs G lv st M → G 683 lv st M) (h696 : ∀ lv st M, BL_law_696 L xs G lv st M → G 696 lv st M) (h714 : ∀ lv st M, BL_law_714 L xs G lv st M → G 714 lv st M) (h715 : ∀ lv st M, BL_law_715 L xs G lv st M → G 715 lv st M) (h736 : ∀ lv st M, BL_law_736 L xs G lv st M → G 736 lv st M) (h737 : ∀ lv st M, BL_law_737 L xs G lv st M → G 737 lv st M) (h745 : ∀ lv st M, BL_law_745 L xs G lv st M → G 745 lv st M) (h773 : ∀ lv st M, BL_law_773 L xs G lv st M → G 773 lv st M) (h774 : ∀ lv st M, BL_law_774 L xs G lv st M → G 774 lv st M) (h805 : ∀ lv st M, BL_law_805 L xs G lv st M → G 805 lv st M) (h806 : ∀ lv st M, BL_law_806 L xs G lv st M → G 806 lv st M) (h814 : ∀ lv st M, BL_law_814 L xs G lv st M → G 814 lv st M) (h868 : ∀ lv st M, BL_law_868 L xs G lv st M → G 868 lv st M) (h891 : ∀ lv st M, BL_law_891 L xs G lv st M → G 891 lv st M) (h914 : ∀ lv st M, BL_law_914 L xs G lv st M → G 914 lv st M) (h937 : ∀ lv st M, BL_law_937 L xs G lv st M → G 937 lv st M) (h960 : ∀ lv st M, BL_law_960 L xs G lv st M → G 960 lv st M) (h966 : ∀ lv st M, BL_law_966 L xs G lv st M → G 966 lv st M) (hL2 : L ≤ 3072) : ∀ (t j : Nat) (M : mM), L < 6 * (j + t) + 6 → 6 * j ≤ L → RR (100 * j) M M → G 18 [some (.inr (.inr (18, 179))), some (.inr (.inr (11, 0))), some (.inr (.inr (12, 158))), some (.inl (nI (6 * j)))] [] M := by
  intro t
  induction t with
  | zero =>
    intro j M ht hj h
    apply h18
    simp only [BL_law_18, s_mth, s_mab, s_at, s_iconst, s_lconst, s_iload, s_lload, s_aload, s_istore, s_lstore, s_astore, s_iinc, s_bin, s_binG, s_un, s_lbin, s_lbinG, s_lsh, s_lcmp, s_i2l, s_l2i, s_dup, s_dup2, s_pop, s_if, s_icmp, s_geti, s_getl, s_getr, s_puti, s_putz, s_putl, s_iald, s_zald, s_iast, s_zast, s_aaldS, s_aaldU, s_gets, s_tald, s_tsw, tsw, s_iret, s_zret, s_lret, s_aret, s_vret, s_callV, s_callS, c1, nl1, keepL, csum, pushR, inL, List.getD_cons_zero, List.getD_cons_succ, List.set_cons_zero, List.set_cons_succ, List.cons_append, List.nil_append, List.append_nil, List.replicate, List.length_cons, List.length_nil, List.take_succ_cons, List.take_zero, List.drop_succ_cons, List.drop_zero, List.reverse_cons, List.reverse_nil, true_and, and_true, forall_const, not_true_eq_false, not_false_eq_true, false_implies, true_implies, implies_true, one0, m10, Nat.reduceAdd, Nat.reduceSub, Nat.reduceLeDiff, Nat.zero_add, Nat.add_zero, s_sald, s_law1, s_slen]
    refine ⟨fun _ => ?_, fun g => absurd ((lw_cond hL2 (by omega)).mpr (by omega)) g⟩
    apply h966
    simp only [BL_law_966, s_mth, s_mab, s_at, s_iconst, s_lconst, s_iload, s_lload, s_aload, s_istore, s_lstore, s_astore, s_iinc, s_bin, s_binG, s_un, s_lbin, s_lbinG, s_lsh, s_lcmp, s_i2l, s_l2i, s_dup, s_dup2, s_pop, s_if, s_icmp, s_geti, s_getl, s_getr, s_puti, s_putz, s_putl, s_iald, s_zald, s_iast, s_zast, s_aaldS, s_aaldU, s_gets, s_tald, s_tsw, tsw, s_iret, s_zret, s_lret, s_aret, s_vret, s_callV, s_callS, c1, nl1, keepL, csum, pushR, inL, List.getD_cons_zero, List.getD_cons_succ, List.set_cons_zero, List.set_cons_succ, List.cons_append, List.nil_append, List.append_nil, List.replicate, List.length_cons, List.length_nil, List.take_succ_cons, List.take_zero, List.drop_succ_cons, List.drop_zero, List.reverse_cons, List.reverse_nil, true_and, and_true, forall_const, not_true_eq_false, not_false_eq_true, false_implies, true_implies, implies_true, one0, m10, Nat.reduceAdd, Nat.reduceSub, Nat.reduceLeDiff, Nat.zero_add, Nat.add_zero, s_sald, s_law1, s_slen]
  | succ t ih =>
    intro j M ht hj h
    by_cases hE' : L < 6 * j + 6
    · apply h18
      simp only [BL_law_18, s_mth, s_mab, s_at, s_iconst, s_lconst, s_iload, s_lload, s_aload, s_istore, s_lstore, s_astore, s_iinc, s_bin, s_binG, s_un, s_lbin, s_lbinG, s_lsh, s_lcmp, s_i2l, s_l2i, s_dup, s_dup2, s_pop, s_if, s_icmp, s_geti, s_getl, s_getr, s_puti, s_putz, s_putl, s_iald, s_zald, s_iast, s_zast, s_aaldS, s_aaldU, s_gets, s_tald, s_tsw, tsw, s_iret, s_zret, s_lret, s_aret, s_vret, s_callV, s_callS, c1, nl1, keepL, csum, pushR, inL, List.getD_cons_zero, List.getD_cons_succ, List.set_cons_zero, List.set_cons_succ, List.cons_append, List.nil_append, List.append_nil, List.replicate, List.length_cons, List.length_nil, List.take_succ_cons, List.take_zero, List.drop_succ_cons, List.drop_zero, List.reverse_cons, List.reverse_nil, true_and, and_true, forall_const, not_true_eq_false, not_false_eq_true, false_implies, true_implies, implies_true, one0, m10, Nat.reduceAdd, Nat.reduceSub, Nat.reduceLeDiff, Nat.zero_add, Nat.add_zero, s_sald, s_law1, s_slen]
      refine ⟨fun _ => ?_, fun g => absurd ((lw_cond hL2 (by omega)).mpr hE') g⟩
      apply h966
      simp only [BL_law_966, s_mth, s_mab, s_at, s_iconst, s_lconst, s_iload, s_lload, s_aload, s_istore, s_lstore, s_astore, s_iinc, s_bin, s_binG, s_un, s_lbin, s_lbinG, s_lsh, s_lcmp, s_i2l, s_l2i, s_dup, s_dup2, s_pop, s_if, s_icmp, s_geti, s_getl, s_getr, s_puti, s_putz, s_putl, s_iald, s_zald, s_iast, s_zast, s_aaldS, s_aaldU, s_gets, s_tald, s_tsw, tsw, s_iret, s_zret, s_lret, s_aret, s_vret, s_callV, s_callS, c1, nl1, keepL, csum, pushR, inL, List.getD_cons_zero, List.getD_cons_succ, List.set_cons_zero, List.set_cons_succ, List.cons_append, List.nil_append, List.append_nil, List.replicate, List.length_cons, List.length_nil, List.take_succ_cons, List.take_zero, List.drop_succ_cons, List.drop_zero, List.reverse_cons, List.reverse_nil, true_and, and_true, forall_const, not_true_eq_false, not_false_eq_true, false_implies, true_implies, implies_true, one0, m10, Nat.reduceAdd, Nat.reduceSub, Nat.reduceLeDiff, Nat.zero_add, Nat.add_zero, s_sald, s_law1, s_slen]
    · have hE : 6 * j + 6 ≤ L := by omega
      have K : ∀ M', RR (100 * j + 100) M' M' → G 960 [some (.inr (.inr (18, 179))), some (.inr (.inr (11, 0))), some (.inr (.inr (12, 158))), some (.inl (nI (6 * j)))] [] M' := by
        intro M' h'
        apply h960
        simp only [BL_law_960, s_mth, s_mab, s_at, s_iconst, s_lconst, s_iload, s_lload, s_aload, s_istore, s_lstore, s_astore, s_iinc, s_bin, s_binG, s_un, s_lbin, s_lbinG, s_lsh, s_lcmp, s_i2l, s_l2i, s_dup, s_dup2, s_pop, s_if, s_icmp, s_geti, s_getl, s_getr, s_puti, s_putz, s_putl, s_iald, s_zald, s_iast, s_zast, s_aaldS, s_aaldU, s_gets, s_tald, s_tsw, tsw, s_iret, s_zret, s_lret, s_aret, s_vret, s_callV, s_callS, c1, nl1, keepL, csum, pushR, inL, List.getD_cons_zero, List.getD_cons_succ, List.set_cons_zero, List.set_cons_succ, List.cons_append, List.nil_append, List.append_nil, List.replicate, List.length_cons, List.length_nil, List.take_succ_cons, List.take_zero, List.drop_succ_cons, List.drop_zero, List.reverse_cons, List.reverse_nil, true_and, and_true, forall_const, not_true_eq_false, not_false_eq_true, false_implies, true_implies, implies_true, one0, m10, Nat.reduceAdd, Nat.reduceSub, Nat.reduceLeDiff, Nat.zero_add, Nat.add_zero, s_sald, s_law1, s_slen]
        have e : nI (6 * j) + 6 = nI (6 * (j + 1)) := nI_add (6 * j) 6
        rw [e]
        exact ih (j + 1) M' (by omega) (by omega) h'
      apply h18
      simp only [BL_law_18, s_mth, s_mab, s_at, s_iconst, s_lconst, s_iload, s_lload, s_aload, s_istore, s_lstore, s_astore, s_iinc, s_bin, s_binG, s_un, s_lbin, s_lbinG, s_lsh, s_lcmp, s_i2l, s_l2i, s_dup, s_dup2, s_pop, s_if, s_icmp, s_geti, s_getl, s_getr, s_puti, s_putz, s_putl, s_iald, s_zald, s_iast, s_zast, s_aaldS, s_aaldU, s_gets, s_tald, s_tsw, tsw, s_iret, s_zret, s_lret, s_aret, s_vret, s_callV, s_callS, c1, nl1, keepL, csum, pushR, inL, List.getD_cons_zero, List.getD_cons_succ, List.set_cons_zero, List.set_cons_succ, List.cons_append, List.nil_append, List.append_nil, List.replicate, List.length_cons, List.length_nil, List.take_succ_cons, List.take_zero, List.drop_succ_cons, List.drop_zero, List.reverse_cons, List.reverse_nil, true_and, and_true, forall_const, not_true_eq_false, not_false_eq_true, false_implies, true_implies, implies_true, one0, m10, Nat.reduceAdd, Nat.reduceSub, Nat.reduceLeDiff, Nat.zero_add, Nat.add_zero, s_sald, s_law1, s_slen]
      refine ⟨fun g => absurd ((lw_cond hL2 (by omega)).mp g) hE', fun _ => ?_⟩
      refine ⟨nI_in (by omega) (by omega), fun _ => K M (RR_le h (by omega)), ?_⟩
      exact ⟨fun _ => cs_write h156 hE hL2 (by omega) h K, fun _ => cs_wipe h179 hE hL2 (by omega) h K, fun _ => cs_fault h192 hE hL2 (by omega) h K, fun _ => cs_cell h205 hE hL2 (by omega) h K, fun _ => cs_user h218 hE hL2 (by omega) h K, fun _ => cs_slot h251 hE hL2 (by omega) h K, fun _ => cs_turn h274 hE hL2 (by omega) h K, fun _ => cs_drop h297 hE hL2 (by omega) h K, fun _ => cs_set h320 hE hL2 (by omega) h K, fun _ => cs_patience h363 hE hL2 (by omega) h K, fun _ => cs_undo h386 hE hL2 (by omega) h K, fun _ => cs_ahead h399 hE hL2 (by omega) h K, fun _ => cs_who h442 hE hL2 (by omega) h K, fun _ => cs_longest h465 hE hL2 (by omega) h K, fun _ => cs_empty h498 hE hL2 (by omega) h K, fun _ => cs_best h521 hE hL2 (by omega) h K, fun _ => cs_judge h544 hE hL2 (by omega) h K, fun _ => cs_see h607 hE hL2 (by omega) h K, fun _ => cs_unsee h670 hE hL2 (by omega) h K, fun _ => cs_which h683 hE hL2 (by omega) h K, fun _ => cs_share h696 h714 h715 h736 h737 hE hL2 (by omega) h K, fun _ => cs_fails h745 h773 h774 h805 h806 hE hL2 (by omega) h K, fun _ => cs_seed h814 hE hL2 (by omega) h K, fun _ => cs_drawn h868 hE hL2 (by omega) h K, fun _ => cs_keep h891 hE hL2 (by omega) h K, fun _ => cs_again h914 hE hL2 (by omega) h K, fun _ => cs_count h937 hE hL2 (by omega) h K⟩
theorem fgs_at (n i : Nat) : fgs n (1000 + i) = 1 ↔ i < n := by
  induction n with
  | zero =>
    have e : fgs 0 (1000 + i) = 0 := rfl
    rw [e]
    exact ⟨fun h => absurd h (by decide), fun h => absurd h (by omega)⟩
  | succ n ih =>
    rw [fgs_s]
    unfold upd
    by_cases h : i = n
    · subst h
      simp
    · rw [if_neg (by omega), ih]
      omega
theorem kof17 : ∀ k, k < 178 → kof k < 17 := by decide +kernel
theorem n176 : kof 176 = 13 := by decide +kernel
theorem row_fl : ∀ kd, kd < 13 → ∀ j, j < (fTL.getD kd []).length → 3 ≤ (fTL.getD kd []).getD j 0 → rwL (rowKL.getD kd []) (1000 + j) = 1 := by decide +kernel
theorem sp_sh {ca : Nat → ClassId} {ad : Nat → Nat} {x : Int64} {k : Nat} (hk : k < 178) : shP ca ad (FR k) x k = shR ca ad (FR k) x k := by
  have h17 := kof17 k hk
  by_cases h13 : kof k = 13
  · rw [sp_13 h13, sh_13 h13]
  by_cases h14 : kof k = 14
  · rw [sp_14 h14, sh_14 h14]
  by_cases h15 : kof k = 15
  · rw [sp_15 h15, sh_15 h15, FR_a h15 (Or.inl rfl)]
    simp only [fgs_at]
  by_cases h16 : kof k = 16
  · rw [sp_16 h16, sh_16 h16, FR_a h16 (Or.inr rfl)]
    simp only [fgs_at]
  have h12 : kof k < 13 := by omega
  rw [sp_obj rfl h12, sh_obj rfl h12]
  congr 2
  apply List.ext_getElem?
  intro j
  rw [List.getElem?_mapIdx, List.getElem?_mapIdx]
  cases hL : (fTL.getD (kof k) [])[j]? with
  | none => rfl
  | some ty =>
    show some _ = some _
    congr 1
    show fP ad (FR k) x k (kof k) j ty = fV ad (FR k) x k (kof k) j ty
    unfold fP fV
    by_cases h1 : ty ≤ 1
    · rw [if_pos h1, if_pos h1]
    by_cases h2 : ty = 2
    · rw [if_neg h1, if_neg h1, if_pos h2, if_pos h2]
    have hj := (List.getElem?_eq_some_iff.mp hL).1
    have hg : (fTL.getD (kof k) []).getD j 0 = ty := by rw [List.getD_eq_getElem?_getD, hL]; rfl
    have hF : FR k (1000 + j) = 1 := by
      rw [FR_o rfl ⟨h15, h16, fun e => by subst e; exact h13 n176⟩]
      exact row_fl _ h12 j hj (by rw [hg]; omega)
    rw [if_neg h1, if_neg h2, if_pos hF, if_neg h1, if_neg h2]

theorem wq_wo {ca : Nat → ClassId} {ad : Nat → Nat} {M : mM} (h : ∀ k, k < 178 → M.1 k = FR k) : wq ca ad M 178 = wo ca ad M := by
  unfold wq wo
  apply List.map_congr_left
  intro k hk
  have hk' := List.mem_range.mp hk
  rw [h k hk', sp_sh hk']
theorem RR_0 {M : mM} (h : ∀ k, k < 178 → M.1 k = FR k) (h2 : M.2 = fun _ => 0) : RR 0 M M := by
  refine ⟨⟨fun k hk => ?_, fun u hu => ⟨0, by decide, ?_⟩⟩, 0, 1, ⟨⟨⟨by decide, ?_, ?_⟩, ⟨by decide, ?_, ?_⟩, ⟨1, by decide, by decide, ?_, ?_⟩, fun u hu => absurd hu (by omega)⟩, ⟨fun u hu => absurd hu (by omega), ?_, ?_⟩, 0, Nat.le_refl _, ?_⟩, ⟨0, by decide, ?_, ?_, fun i hi => absurd hi (by omega)⟩, ⟨0, 0, by decide, by decide, ?_, ?_, ?_, fun i hi => absurd hi (by omega)⟩, fun s hs => Or.inl ⟨?_, ?_⟩, ⟨0, by decide, ?_, ?_, fun i hi => absurd hi (by omega)⟩, ?_⟩
  · have hk' := kof_lt (k := k) (by omega)
    rw [h k hk', FR_z (ok10 k hk' hk)]
    exact Or.inl rfl
  · rw [h 6 (by decide), FR_z (i := 6) (by decide +kernel)]; rfl
  · rw [h 4 (by decide)]; decide +kernel
  · rw [h 158 (by decide)]; decide +kernel
  · rw [h 4 (by decide)]; decide +kernel
  · rw [h 158 (by decide)]; decide +kernel
  · rw [h 4 (by decide)]; decide +kernel
  · rw [h 158 (by decide)]; decide +kernel
  · rw [h 7 (by decide), h 165 (by decide)]; decide +kernel
  · rw [h 7 (by decide), h 165 (by decide)]; decide +kernel
  · rw [h 165 (by decide)]; decide +kernel
  · rw [h 1 (by decide)]; decide +kernel
  · rw [h 158 (by decide)]; decide +kernel
  · rw [h 26 (by decide)]; decide +kernel
  · rw [h 26 (by decide)]; decide +kernel
  · rw [h 158 (by decide)]; decide +kernel
  · rw [h 141 (by decide), FR_z (i := 141) (by decide +kernel)]
  · rw [h 170 (by decide), FR_z (i := 170) (by decide +kernel)]
  · rw [h 151 (by decide)]; decide +kernel
  · rw [h 158 (by decide)]; decide +kernel
  · rw [h2]
section GL
variable {p : Program} {l : Launch} {e : Env} {R : Room} {s : State} {m : MethodId} {args : Array Value} {below : List Frame} {meth : Method} {c : Code} {nL : Nat} {cc : ByteArray} {own : String} {D : va_G} {ca : Nat → ClassId} {ad : Nat → Nat} {sz : Nat} {Qf : State → Prop} {nc ns pc n : Nat} {lv : LV} {st : List mV} {M : mM}
theorem rd_astore_n (hX : CN p s m args meth c nL cc own D ca ad sz) {i : Fin 4} {j : Nat} {q : Nat × Nat} (hj : j < nL) (hd : decode cc pc = .ok (.astore_n i, 1)) (hi : (i : Nat) = j) (hnl : nl1 lv j) (k : GN p l e R s m args below meth c nL D ca ad sz Qf nc ns (pc + 1) (lv.set j (some (.inr (.inr q)))) st n M) : GN p l e R s m args below meth c nL D ca ad sz Qf nc ns pc lv (.inr (.inr q) :: st) n M := fun hn H locs ls hP hz hS hl =>
  lv_astore_n hX.1.1 hX.1.2.1 hd hi hl hj rfl fun ls2 hl2 => k hn H locs ls2 hP hz hS (has_set (v := .inr (.inr q)) hnl hl2)
theorem gn_gd (hk : ∀ k, k < 178 → M.1 k = FR k) (ho : ∀ v ∈ lv, okO v) (hs : ∀ v ∈ st, okV v) (k : Gd p l e R s m args below meth c nL D ca ad (AA sz) nc ns Qf pc lv st M) : GN p l e R s m args below meth c nL D ca ad sz Qf nc ns pc lv st 178 M := fun _ H locs ls hP _ hS hl =>
  k H locs ls (by rw [wq_wo hk] at hP; exact hP) hS hl ho hs
end GL
