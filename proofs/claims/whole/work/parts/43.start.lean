/-! the start of the law, and the claim -/
theorem no_16 : NOk "FairBlocksLaw" 7 11 12 := ⟨RX11, TX11, tyX11, rfl, inX11, tyX11_ok, fun j hj => by rcases (show j = 0 ∨ j = 1 ∨ j = 2 ∨ j = 3 ∨ j = 4 ∨ j = 5 ∨ j = 6 ∨ j = 7 ∨ j = 8 ∨ j = 9 ∨ j = 10 ∨ j = 11 by omega) with rfl | rfl | rfl | rfl | rfl | rfl | rfl | rfl | rfl | rfl | rfl | rfl <;> rfl, w_16, w_17, w_1, by decide⟩
theorem no_717 : NOk "FairBlocksLaw" 10 12 32 := ⟨RX12, TX12, tyX12, rfl, inX12, tyX12_ok, fun j hj => by rcases (show j = 0 ∨ j = 1 ∨ j = 2 ∨ j = 3 ∨ j = 4 ∨ j = 5 ∨ j = 6 ∨ j = 7 ∨ j = 8 ∨ j = 9 ∨ j = 10 ∨ j = 11 ∨ j = 12 ∨ j = 13 ∨ j = 14 ∨ j = 15 ∨ j = 16 ∨ j = 17 ∨ j = 18 ∨ j = 19 ∨ j = 20 ∨ j = 21 ∨ j = 22 ∨ j = 23 ∨ j = 24 ∨ j = 25 ∨ j = 26 ∨ j = 27 ∨ j = 28 ∨ j = 29 ∨ j = 30 ∨ j = 31 by omega) with rfl | rfl | rfl | rfl | rfl | rfl | rfl | rfl | rfl | rfl | rfl | rfl | rfl | rfl | rfl | rfl | rfl | rfl | rfl | rfl | rfl | rfl | rfl | rfl | rfl | rfl | rfl | rfl | rfl | rfl | rfl | rfl <;> rfl, w_717, w_718, w_13, by decide⟩
theorem mi_X11_init : MIk yX11_init cX11_init 2 0 := ⟨w_20, w_19, w_1, rfl, by decide +kernel, by decide +kernel, by decide +kernel⟩
theorem mi_X12_init : MIk yX12_init cX12_init 1 0 := ⟨w_721, w_720, w_13, rfl, by decide +kernel, by decide +kernel, by decide +kernel⟩
theorem kn_all {s : State} {args : Array Value} {m : MethodId} (hgw : ∀ w ∈ gw, w.before args s = true) : ∃ D : va_G, ∀ (k : Nat) (q : vw_C), vwCl[k]? = some q → u_Kn s q.1 q.2.1 q.2.2 (D.1 k) (D.2 k) := by
  have key : ∀ k : Nat, ∃ q : ClassId × (Nat → Nat), ∀ r : vw_C, vwCl[k]? = some r → u_Kn s r.1 r.2.1 r.2.2 q.1 q.2 := by
    intro k
    match k with
    | 0 =>
      obtain ⟨c0, i0, h0⟩ := u_known (C := RX0) (T := TX0) (N := 3) (n := 3) hgw inX0 (hgw _ w_215)
      exact ⟨(c0, i0), fun r hr => by cases hr; exact h0⟩
    | 1 =>
      obtain ⟨c0, i0, h0⟩ := u_known (C := RX1) (T := TX1) (N := 4) (n := 4) hgw inX1 (hgw _ w_40)
      exact ⟨(c0, i0), fun r hr => by cases hr; exact h0⟩
    | 2 =>
      obtain ⟨c0, i0, h0⟩ := u_known (C := RX2) (T := TX2) (N := 1) (n := 1) hgw inX2 (hgw _ w_292)
      exact ⟨(c0, i0), fun r hr => by cases hr; exact h0⟩
    | 3 =>
      obtain ⟨c0, i0, h0⟩ := u_known (C := RX3) (T := TX3) (N := 2) (n := 2) hgw inX3 (hgw _ w_248)
      exact ⟨(c0, i0), fun r hr => by cases hr; exact h0⟩
    | 4 =>
      obtain ⟨c0, i0, h0⟩ := u_known (C := RX4) (T := TX4) (N := 1) (n := 1) hgw inX4 (hgw _ w_237)
      exact ⟨(c0, i0), fun r hr => by cases hr; exact h0⟩
    | 5 =>
      obtain ⟨c0, i0, h0⟩ := u_known (C := RX5) (T := TX5) (N := 5) (n := 5) hgw inX5 (hgw _ w_46)
      exact ⟨(c0, i0), fun r hr => by cases hr; exact h0⟩
    | 6 =>
      obtain ⟨c0, i0, h0⟩ := u_known (C := RX6) (T := TX6) (N := 5) (n := 5) hgw inX6 (hgw _ w_166)
      exact ⟨(c0, i0), fun r hr => by cases hr; exact h0⟩
    | 7 =>
      obtain ⟨c0, i0, h0⟩ := u_known (C := RX7) (T := TX7) (N := 7) (n := 7) hgw inX7 (hgw _ w_263)
      exact ⟨(c0, i0), fun r hr => by cases hr; exact h0⟩
    | 8 =>
      obtain ⟨c0, i0, h0⟩ := u_known (C := RX8) (T := TX8) (N := 3) (n := 3) hgw inX8 (hgw _ w_81)
      exact ⟨(c0, i0), fun r hr => by cases hr; exact h0⟩
    | 9 =>
      obtain ⟨c0, i0, h0⟩ := u_known (C := RX9) (T := TX9) (N := 2) (n := 2) hgw inX9 (hgw _ w_25)
      exact ⟨(c0, i0), fun r hr => by cases hr; exact h0⟩
    | 10 =>
      obtain ⟨c0, i0, h0⟩ := u_known (C := RX10) (T := TX10) (N := 10) (n := 10) hgw inX10 (hgw _ w_88)
      exact ⟨(c0, i0), fun r hr => by cases hr; exact h0⟩
    | 11 =>
      obtain ⟨c0, i0, h0⟩ := u_known (C := RX11) (T := TX11) (N := 12) (n := 12) hgw inX11 (hgw _ w_17)
      exact ⟨(c0, i0), fun r hr => by cases hr; exact h0⟩
    | 12 =>
      obtain ⟨c0, i0, h0⟩ := u_known (C := RX12) (T := TX12) (N := 32) (n := 32) hgw inX12 (hgw _ w_718)
      exact ⟨(c0, i0), fun r hr => by cases hr; exact h0⟩
    | k + 13 => exact ⟨(m.cls, fun _ => 0), fun r hr => by simp [vwCl] at hr⟩
  obtain ⟨f, hf⟩ := Classical.axiomOfChoice key
  exact ⟨(fun k => (f k).1, fun k => (f k).2), fun k q hq => hf k q hq⟩
theorem ty_all {s : State} {args : Array Value} (hts : ∀ w ∈ lw_tbl, w.before args s = true) (hgw : ∀ w ∈ gw, w.before args s = true) : ∃ ca : Nat → ClassId, ∀ (k : Nat) (q : ClassId × FieldType), (tyL ca)[k]? = some q → ArrOfT s q.1 q.2 ∧ va_RA s q.1 q.2 := by
  obtain ⟨c0, k0, p0, f0, g0, e0⟩ := Cond.arrayClass_spec (hgw _ w_38)
  obtain ⟨c1, k1, p1, f1, g1, e1⟩ := Cond.arrayClass_spec (hgw _ w_246)
  obtain ⟨p2, c2, k2, a2, -, g2, e2, f2⟩ := Cond.arrayOver_spec (hts _ wt_221)
  obtain ⟨p3, c3, k3, a3, -, g3, e3, f3⟩ := Cond.arrayOver_spec (hts _ wt_87)
  refine ⟨fun k => if k = 0 then c0 else if k = 1 then c1 else if k = 2 then c2 else c3, fun k q hq => ?_⟩
  match k, hq with
  | 0, hq => cases hq; exact ⟨fun n z => ⟨fun k h => (by cases h), k0, g0, p0, e0⟩, f0⟩
  | 1, hq => cases hq; exact ⟨fun n z => ⟨fun k h => (by cases h), k1, g1, p1, e1⟩, f1⟩
  | 2, hq => cases hq; exact ⟨fun n z => ⟨fun k h => (by cases h), k2, g2, p2, e2⟩, k2, p2, g2, e2, a2, f2⟩
  | 3, hq => cases hq; exact ⟨fun n z => ⟨fun k h => (by cases h), k3, g3, p3, e3⟩, k3, p3, g3, e3, a3, f3⟩
  | k + 4, hq => simp [tyL] at hq
theorem zt_all {s : State} {args : Array Value} (hts : ∀ w ∈ lw_tbl, w.before args s = true) (hini : (Cond.initialized "FairBlocks").before args s = true) (hgv : (Jvm.Cond.and given_1 narrow_1).before args s = true) : ∃ t : Nat, va_Z "FairBlocks" "FACTORIALS" "[I" (.ref t) (AA s.heap.size) s s.heap ∧ va_T .int t 6 (fun j => .int (fcF j)) (AA s.heap.size) s s.heap := by
  have hs := flat_of_before _ hgv
  have hA : ∀ a : Nat, a < s.heap.size → ¬ AA s.heap.size a := fun a h => Nat.not_le.mpr h
  have harr : (Cond.arrayOf (.static "FairBlocks" "FACTORIALS" "[I") .int).before args s = true := hs _ (by decide +kernel)
  have hlen : (Cond.eq (.length (.static "FairBlocks" "FACTORIALS" "[I")) (.int 6)).before args s = true := hs _ (by decide +kernel)
  have he0 : (Cond.eq (.elem (.static "FairBlocks" "FACTORIALS" "[I") (.int 0)) (.int 1)).before args s = true := hs _ (by decide +kernel)
  have he1 : (Cond.eq (.elem (.static "FairBlocks" "FACTORIALS" "[I") (.int 1)) (.int 1)).before args s = true := hs _ (by decide +kernel)
  have he2 : (Cond.eq (.elem (.static "FairBlocks" "FACTORIALS" "[I") (.int 2)) (.int 2)).before args s = true := hs _ (by decide +kernel)
  have he3 : (Cond.eq (.elem (.static "FairBlocks" "FACTORIALS" "[I") (.int 3)) (.int 6)).before args s = true := hs _ (by decide +kernel)
  have he4 : (Cond.eq (.elem (.static "FairBlocks" "FACTORIALS" "[I") (.int 4)) (.int 24)).before args s = true := hs _ (by decide +kernel)
  have he5 : (Cond.eq (.elem (.static "FairBlocks" "FACTORIALS" "[I") (.int 5)) (.int 120)).before args s = true := hs _ (by decide +kernel)
  obtain ⟨t, ht, hT⟩ := va_Tof (N := 6) (f := fun j => .int (fcF j)) (A := AA s.heap.size) (by decide) harr (va_eqt hlen) (fun j hj => by
    rcases (show j = 0 ∨ j = 1 ∨ j = 2 ∨ j = 3 ∨ j = 4 ∨ j = 5 by omega) with rfl | rfl | rfl | rfl | rfl | rfl
    · exact va_eqt he0
    · exact va_eqt he1
    · exact va_eqt he2
    · exact va_eqt he3
    · exact va_eqt he4
    · exact va_eqt he5) hA
  exact ⟨t, va_Zof (hts _ wt_654) hini ht hA, hT⟩
set_option maxRecDepth 4000 in
set_option maxHeartbeats 1000000 in
/-- from the entry, for every script of at most 3072 ints, the law comes to its end with true -/
theorem whole_start {p : Program} {e : Env} {s : State} {m : MethodId} {below : List Frame} {meth : Method} {c : Code} (l : Launch) (hflags : l.flags = flags0) {b L : Nat} {xs : Nat → Int32} (hL : L ≤ 3072) (C0 : lw_At p s m meth c b L xs) : W p l e room_1 s m #[Value.ref b] below meth c s.heap [] 0 0 (lw_Z below #[Value.ref b] s) (entryFrame m ([Value.ref b] : List Value).toArray 4) := by
  obtain ⟨hx, hb, hr, hml, hown, hts, hXs, hbl, hlocks, hgv⟩ := id C0
  have hgw : ∀ w ∈ gw, w.before #[Value.ref b] s = true := fun w hw => hts w (List.mem_filter.mp hw).1
  obtain ⟨D, hKc⟩ := kn_all (m := m) hgw
  obtain ⟨ca, hKt⟩ := ty_all hts hgw
  obtain ⟨t0, hZ, hT⟩ := zt_all hts (hgw _ w_1) hgv
  obtain ⟨ad, had, had8, had9⟩ : ∃ ad : Nat → Nat, (∀ k, k < 178 → ad k = s.heap.size + k) ∧ ad 178 = t0 ∧ ad 179 = b := ⟨fun k => if k < 178 then s.heap.size + k else if k = 178 then t0 else b, fun k hk => if_pos hk, rfl, rfl⟩
  have hNW : ∀ w ∈ nwL, va_Nw w s := by
    intro w hw
    have g := hts w (nwL_in w hw)
    simp only [nwL, List.mem_cons, List.not_mem_nil, or_false] at hw
    rcases hw with rfl | rfl | rfl | rfl | rfl | rfl | rfl | rfl | rfl <;> exact va_Nw.of rfl g
  have hK : va_K D vwCl (tyL ca) s := ⟨hKc, hKt⟩
  have hX : CN p s m #[Value.ref b] meth c 4 cL_law "FairBlocksLaw" D ca ad s.heap.size := ⟨⟨hx, hb, hml, hown, hgw⟩, hK, had, hNW, hlocks, ⟨va_AO.of (hts _ wt_221), va_AO.of (hts _ wt_87)⟩, Nat.le_refl _⟩
  have hXL : CX p s m #[Value.ref b] meth c 4 cL_law "FairBlocksLaw" D ca ad (AA s.heap.size) := ⟨hx, hb, hml, hown, hgw, hK, wo_D (fun i j hi hj h => by rw [had i hi, had j hj] at h; omega) (fun k hk => by rw [had k hk]; exact Nat.le_add_right _ _), ⟨by rw [had8]; exact hZ, by rw [had8]; exact hT⟩, hNW, hlocks, fun q h => h⟩
  have hC : LWX ad b L xs s := ⟨had9, hXs, hbl⟩
  have hl := lv_entry ([.ref b]) (n := 4) (Nat.le_of_ble_eq_true rfl)
  rw [lg_entry_eq]
  have go : GN p l e room_1 s m #[Value.ref b] below meth c 4 D ca ad s.heap.size (lw_Z below #[Value.ref b] s) 0 0 0 [some (.inr (.inr (18, 179))), none, none, none] [] 0 ((fun _ _ => 0, fun _ => 0) : mM) := by
    refine rd_fz fun _ hzA => ?_
    refine rd_new hX no_16 (n := 0) (by decide +kernel) (by decide) ⟨Nat.le_of_ble_eq_true rfl, Nat.le_of_ble_eq_true rfl⟩ dL_law_0 ?_
    refine rd_dup hX dL_law_3 ?_
    refine rd_callI hX (as := []) (ct_X11_init l) rfl rfl (hzA.1 _ (Nat.le_refl _)) (by decide) mi_X11_init w_18 ⟨⟨Nat.le_of_ble_eq_true rfl, Nat.le_of_ble_eq_true rfl⟩, Nat.le_of_ble_eq_true rfl, Nat.le_of_ble_eq_true rfl⟩ (Nat.le_of_ble_eq_true rfl) dL_law_4 ?_
    refine rd_astore_n hX (by decide) dL_law_7 rfl trivial ?_
    refine rd_fz fun _ hzB => ?_
    refine rd_new hX no_717 (n := 158) (by decide +kernel) (by decide) ⟨Nat.le_of_ble_eq_true rfl, Nat.le_of_ble_eq_true rfl⟩ dL_law_8 ?_
    refine rd_dup hX dL_law_11 ?_
    refine rd_callI hX (as := []) (ct_X12_init l) rfl rfl (hzB.1 _ (Nat.le_refl _)) (by decide) mi_X12_init w_719 ⟨⟨Nat.le_of_ble_eq_true rfl, Nat.le_of_ble_eq_true rfl⟩, Nat.le_of_ble_eq_true rfl, Nat.le_of_ble_eq_true rfl⟩ (Nat.le_of_ble_eq_true rfl) dL_law_12 ?_
    refine rd_astore_n hX (by decide) dL_law_15 rfl trivial ?_
    refine rd_iconst hX (v := nI (6 * 0)) dL_law_16 rfl ?_
    refine rd_istore_n hX (by decide) dL_law_17 rfl trivial ?_
    refine rd_wide (nc' := 600000) (ns' := 7302250) (Nat.le_of_ble_eq_true rfl) (Nat.le_of_ble_eq_true rfl) ?_
    refine rd_lv (lv' := [some (.inr (.inr (18, 179))), some (.inr (.inr (11, 0))), some (.inr (.inr (12, 158))), some (.inl (nI (6 * 0)))]) rfl ?_
    have hFR : ∀ k, k < 178 → (ext (ext ((fun _ _ => 0, fun _ => 0) : mM) 0 158) 158 178).1 k = FR k := by
      intro k hk
      rw [ext_1, ext_1]
      by_cases g : 158 ≤ k ∧ k < 178
      · rw [if_pos g]
      · rw [if_neg g, if_pos (by omega)]
    refine gn_gd hFR (fun v hv => ?_) (fun v hv => by cases hv) ?_
    · simp only [List.mem_cons, List.not_mem_nil, or_false] at hv
      rcases hv with rfl | rfl | rfl | rfl
      · exact (by decide +kernel : kof 179 = 18)
      · exact (by decide +kernel : kof 0 = 11)
      · exact (by decide +kernel : kof 158 = 12)
      · trivial
    · exact law_loop (bsL_law_18 hXL hC hr) (bsL_law_156 hXL hC hr) (bsL_law_179 hXL hC hr) (bsL_law_192 hXL hC hr) (bsL_law_205 hXL hC hr) (bsL_law_218 hXL hC hr) (bsL_law_251 hXL hC hr) (bsL_law_274 hXL hC hr) (bsL_law_297 hXL hC hr) (bsL_law_320 hXL hC hr) (bsL_law_363 hXL hC hr) (bsL_law_386 hXL hC hr) (bsL_law_399 hXL hC hr) (bsL_law_442 hXL hC hr) (bsL_law_465 hXL hC hr) (bsL_law_498 hXL hC hr) (bsL_law_521 hXL hC hr) (bsL_law_544 hXL hC hr) (bsL_law_607 hXL hC hr) (bsL_law_670 hXL hC hr) (bsL_law_683 hXL hC hr) (bsL_law_696 hXL hC hr) (bsL_law_714 hXL hC hr) (bsL_law_715 hXL hC hr) (bsL_law_736 hXL hC hr) (bsL_law_737 hXL hC hr) (bsL_law_745 hXL hC hr) (bsL_law_773 hXL hC hr) (bsL_law_774 hXL hC hr) (bsL_law_805 hXL hC hr) (bsL_law_806 hXL hC hr) (bsL_law_814 hXL hC hr) (bsL_law_868 hXL hC hr) (bsL_law_891 hXL hC hr) (bsL_law_914 hXL hC hr) (bsL_law_937 hXL hC hr) (bsL_law_960 hXL hC hr) (bsL_law_966 hXL hC hr) hL L 0 _ (by omega) (by omega) (RR_0 hFR rfl)
  refine go ⟨by decide, fun _ _ => rfl, rfl⟩ s.heap [] _ (fun k q h => by simp [wq] at h) rfl va_S.rf (has_sub hl fun q hq => ?_)
  have : q ∈ [((0 : Nat), Value.ref (ad 179))] := hq
  rw [had9] at this
  exact this
set_option maxHeartbeats 4000000 in
theorem lw_walk (l : Launch) (hflags : l.flags = flags0) (b : Addr) (xs : List Int32) : MetFree l x (headSpec (Jvm.Cond.code x code maxLocals ret :: tables_1) room_1) (lw_P b xs) (fun _ _ _ _ _ => True) lw_Q := by
  refine MetFree.of_bodyS (code := code) (maxLocals := maxLocals) (ret := ret) (by decide) ?_ ?_
  · intro args s m h hn
    obtain ⟨meth, c, h1, h2, h3, h4, h5, h6, -, -⟩ := Cond.code_spec hn (atoms_spec (ws := Jvm.Cond.code x code maxLocals ret :: tables_1) h _ List.mem_cons_self)
    exact ⟨meth, c, h1, h2, h3, h4, h5, h6⟩
  · intro p e s m args below meth c s₁ B hml0 hP _
    obtain ⟨rfl, hx, hbd, hgv⟩ := hP
    obtain ⟨scr, harrAt, hlist, hof, hsmall⟩ := hx
    obtain ⟨hcb, hkn, -, -⟩ := State.arrayAt?_spec harrAt
    have hown : s.vm.findClass R_law = some m.cls := findClass_of_methodNamed B.named
    have hts0 : ∀ c ∈ (Jvm.Cond.code x code maxLocals ret :: tables_1), c.before #[Value.ref b] s = true := atoms_spec (ws := Jvm.Cond.code x code maxLocals ret :: tables_1) B.pre
    have hts : ∀ w ∈ lw_tbl, w.before #[Value.ref b] s = true := k2_hts_sels lw_privs (fun w hw => hts0 w (List.mem_cons_of_mem _ hw)) lw_privs_ok
    have hml : c.maxLocals = 4 := B.maxLocals_eq (hts0 _ List.mem_cons_self)
    have X₀ : Stand p l e room_1 s m #[Value.ref b] below meth c s₁ [] 0 0 := Stand.of_body B
    have hh0 : s₁.heap = s.heap := by rw [B.state]; rfl
    have hsz : scr.slots.size = xs.length := by rw [← Array.length_toList, hlist, List.length_map]
    have hval : ∀ j : Nat, j < xs.length → scr.slots[j]? = some (.int (xs.getD j 0)) := fun j hj => by
      rw [← Array.getElem?_toList, hlist]
      simp [hj]
    have hbl : b < s.heap.size := (Array.getElem?_eq_some_iff.mp hcb).1
    have hX : va_X b xs.length (fun j => xs.getD j 0) s s.heap := ⟨scr, hcb, hof, hkn, hsz, hval⟩
    have K : W p l e room_1 s m #[Value.ref b] below meth c s₁.heap [] 0 0 (lw_Z below #[Value.ref b] s) (entryFrame m ([Value.ref b] : List Value).toArray 4) := by
      rw [hh0]
      exact whole_start l hflags hbd ⟨B.exec, B.bytes, B.returns, hml, hown, hts, hX, hbl, B.notSynchronized, hgv⟩
    obtain ⟨t, a1, o, b1, b2, b3⟩ := K s₁ rfl X₀
    exact ⟨t, o, a1, b1, b2, b3⟩
theorem lw_pre_spec {args : Array Value} {s : State} (h : (Jvm.Cond.and given_1 narrow_1).before args s = true) (hr : rest_1_c.before args s = true) : ∃ (b : Addr) (xs : List Int32), lw_P b xs args s := by
  have hs := flat_of_before _ h
  have hq := flat_of_before _ hr
  have hc : (Cond.count 1).before args s = true := hs _ (by decide +kernel)
  have harr : (Cond.arrayOf (.arg 0) .int).before args s = true := hs _ (by decide +kernel)
  have hle : (Cond.le (.length (.arg 0)) (.int 3072)).before args s = true := hs _ (by decide +kernel)
  have hlen : (Cond.isInt (.length (.arg 0))).before args s = true := hq _ (by decide +kernel)
  have hall : (Cond.all (.arg 0) (.isInt (.elem (.arg 0) (.index 0)))).before args s = true := hq _ (by decide +kernel)
  obtain ⟨b, xs, hb, hx⟩ := State.ints_of_pre rfl harr hlen hall
  have hsm : xs.length < 2 ^ 31 := hx.choose_spec.2.2.2
  have hev : (Term.length (.arg 0)).eval args s none [] s = some (.int xs.length.toInt32) := hx.length_eval hb
  have hv := Cond.le_ints hev (show (Term.int 3072).eval args s none [] s = some (.int 3072) from rfl)
  have hd : xs.length.toInt32 ≤ 3072 := by
    simpa [Cond.before, Cond.holds, hv] using hle
  have hN : xs.length ≤ 3072 := (Int32.ofNat_le_ofNat hsm (by decide)).mp (show Int32.ofNat xs.length ≤ Int32.ofNat 3072 from hd)
  exact ⟨b, xs, Cond.one_arg hc (show args[0]? = some (.ref b) from hb), hx, hN, h⟩
theorem lw_comes (l : Launch) (hflags : l.flags = flags0) : Comes l x (Jvm.Cond.code x code maxLocals ret :: tables_1) room_1 (fun tb e args s => Calls_1 tb e args s ∧ rest_1 tb e args s ∧ Pre_1 tb e args s)
    (fun _ _ args s o t => lw_Q args s o t) := by
  intro p e ha hc hk s m args below hf hfit hheap happ hpre
  obtain ⟨b, xs, hP⟩ := lw_pre_spec hpre.2.2 hpre.2.1
  obtain ⟨k, o, h1, h2, h3, hQ⟩ := lw_walk l hflags b xs p e ha hc hk s m args below hf ((Spec.applies_iff_loose hf).mp happ).1 hP trivial
  exact ⟨k, o, h1, h2, h3, hQ⟩
theorem lw_frame {s t : State} {o : Outcome} {args : Array Value} (h : Framed s o t [] 600000 7302250) :
    Framed s o t (fieldLocs frame_1_writes args s ++ arrayLocs frame_1_arrays args s ++ staticLocs frame_1_statics s) 600000 7302250 := h
theorem lw_limb (L : Cond) (hL : ∀ (args : Array Value) (s t : State), L.after args s (.returned (some (.int 1))) t = true) :
    ArmFor flags0 classFile x code maxLocals ret World_1 tables_1 room_1 Calls_1 rest_1 Pre_1
      (fun tb e a s o t => postC L tb e a s o t ∧ Framed s o t (fieldLocs frame_1_writes a s ++ arrayLocs frame_1_arrays a s ++ staticLocs frame_1_statics s) 600000 7302250) := by
  intro l hflags _ _ p e ha hc hk s m args below hf hfit hheap happ hpre
  obtain ⟨k, o, h1, h2, h3, rfl, hF⟩ := lw_comes l hflags p e ha hc hk s m args below hf hfit hheap happ hpre
  exact ⟨k, _, h1, h2, h3, hL args s _, lw_frame hF⟩
theorem i_vc : Claimed_1_1 ∧ Claimed_1_2 := ⟨lw_limb limb_1_1 (fun args s t => by simp [limb_1_1, Cond.after, Cond.holds, Cond.value]), lw_limb limb_1_2 (fun args s t => Cond.after_iff.mpr (by
  first | (rw [show limb_1_2 = Cond.eq .result (.int 1) from rfl, Cond.eq_ints (x := 1) (y := 1) rfl rfl]; simp; done) | (simp [limb_1_2, Cond.value, Term.eval]; done)))⟩
