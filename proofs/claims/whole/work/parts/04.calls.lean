/-! returns, calls, contracts -/
def QC (D : va_G) (ca : Nat → ClassId) (ad : Nat → Nat) (A : Nat → Prop) (Q : Option mV → mM → Prop) : Array Value → State → Outcome → State → Prop := fun _ st oc t => (∃ (r : Option mV) (M' : mM), Q r M' ∧ oc = .returned (r.map (en ad)) ∧ va_P D vwCl (wo ca ad M') t.heap) ∧ va_F A st t
def rmD (d : Nat) : Room := { frames := d, cells := 0, slots := 0, locals := 40 * d }
def okR : Option mV → Prop
  | some v => okV v
  | none => True
def WD (D : va_G) (ca : Nat → ClassId) (ad : Nat → Nat) (M : mM) (sz : Nat) (U : State) : Prop := va_P D vwCl (wo ca ad M) U.heap ∧ va_K D vwCl (tyL ca) U ∧ (∀ i j, i < 178 → j < 178 → ad i = ad j → i = j) ∧ ZT ad (aA ad sz) U U.heap ∧ ∀ w ∈ nwL, va_Nw w U
/-- a method's contract: where 'pre' holds it answers fn, and the memory is fn's; d: how deep it calls -/
def Con (l : Launch) (y : MethodName) (bytes : ByteArray) (mL : Nat) (ret : Option FieldType) (d : Nat) (pre : List mV → mM → Prop) (fn : List mV → mM → Option mV × mM) : Prop :=
  ∀ (D : va_G) (ca : Nat → ClassId) (ad : Nat → Nat) (as : List mV) (M : mM) (sz : Nat), pre as M → (∀ v ∈ as, okV v) → okR (fn as M).1 ∧
    Met l y (.code y bytes mL ret :: gw) (rmD d) (va_Pc (as.map (en ad)) (fun U => U.heap.size = sz ∧ WD D ca ad M sz U)) (QC D ca ad (aA ad sz) (fun r M' => r = (fn as M).1 ∧ M' = (fn as M).2)) 0 0 (aA ad sz)
theorem wo_D {ca : Nat → ClassId} {ad : Nat → Nat} {A : Nat → Prop} (hi : ∀ i j, i < 178 → j < 178 → ad i = ad j → i = j) (hA : ∀ k, k < 178 → A (ad k)) (M : mM) : va_D A (wo ca ad M) := by
  have key : ∀ (k : Nat) (q : Nat × va_E), (wo ca ad M)[k]? = some q → k < 178 ∧ q.1 = ad k := by
    intro k q h
    rcases Nat.lt_or_ge k 178 with g | g
    · rw [wo_get g] at h; cases h; exact ⟨g, rfl⟩
    · rw [List.getElem?_eq_none (by simp [wo, g])] at h; cases h
  refine ⟨fun i j a b h1 h2 e => ?_, fun k q h => ?_⟩
  · obtain ⟨g1, e1⟩ := key i a h1
    obtain ⟨g2, e2⟩ := key j b h2
    exact hi i j g1 g2 (by rw [← e1, ← e2, e])
  · obtain ⟨g1, e1⟩ := key k q h
    rw [e1]; exact hA k g1
theorem wo_inj {ca : Nat → ClassId} {ad : Nat → Nat} {A : Nat → Prop} {M : mM} (h : va_D A (wo ca ad M)) : (∀ i j, i < 178 → j < 178 → ad i = ad j → i = j) ∧ ∀ k, k < 178 → A (ad k) :=
  ⟨fun i j hi hj e => h.1 i j _ _ (wo_get hi) (wo_get hj) e, fun k hk => h.2 k _ (wo_get hk)⟩
theorem nw_warm {s U : State} (hW : s.WarmedH U.vm) (h : ∀ w ∈ nwL, va_Nw w s) : ∀ w ∈ nwL, va_Nw w U := by
  intro w hw
  have g := h w hw
  simp only [nwL, List.mem_cons, List.not_mem_nil, or_false] at hw
  rcases hw with rfl | rfl | rfl | rfl | rfl | rfl | rfl | rfl | rfl <;> first | exact va_Nw.warmM hW g | exact va_Nw.warmF hW g
theorem nw_same {s U : State} (hv : s.vm = U.vm) (h : ∀ w ∈ nwL, va_Nw w s) : ∀ w ∈ nwL, va_Nw w U := by
  intro w hw
  have g := h w hw
  simp only [nwL, List.mem_cons, List.not_mem_nil, or_false] at hw
  rcases hw with rfl | rfl | rfl | rfl | rfl | rfl | rfl | rfl | rfl <;> exact va_Nw.same rfl hv g
theorem good_all {ws : List Cond} (h : ∀ w ∈ ws, w ∈ gw) : GoodIn gw ws := fun w hw => ⟨h w hw, good_of_word (gw_good _ (h w hw))⟩
def MVk (y : MethodName) (C : String) (bytes : ByteArray) (mL : Nat) (ret : Option FieldType) (n : Nat) : Prop := Cond.code y bytes mL ret ∈ gw ∧ Cond.instanceMethod y ∈ gw ∧ Cond.selects C y y ∈ gw ∧ Cond.initialized C ∈ gw ∧ (y.cls = C ∧ y.cls ≠ "java/lang/invoke/MethodHandle" ∧ y.cls ≠ "java/lang/invoke/VarHandle" ∧ (parseMethodDescriptor y.desc).map (fun d => d.parameters.length) = some n)
def MSk (y : MethodName) (bytes : ByteArray) (mL : Nat) (ret : Option FieldType) (n : Nat) : Prop := Cond.code y bytes mL ret ∈ gw ∧ Cond.static y ∈ gw ∧ Cond.initialized y.cls ∈ gw ∧ (y.cls ≠ "java/lang/invoke/MethodHandle" ∧ y.cls ≠ "java/lang/invoke/VarHandle" ∧ (parseMethodDescriptor y.desc).map (fun d => d.parameters.length) = some n)
section MC
variable {p : Program} {l : Launch} {e : Env} {R : Room} {s : State} {m : MethodId} {args : Array Value} {below : List Frame} {meth : Method} {c : Code} {nL : Nat} {cc : ByteArray} {own : String} {D : va_G} {ca : Nat → ClassId} {ad : Nat → Nat} {A : Nat → Prop} {nc ns : Nat} {Qf : State → Prop} {pc : Nat} {κ κt κf : KT}
theorem sd_iret (hX : CX p s m args meth c nL cc own D ca ad A) {Q : Option mV → mM → Prop} (hr : meth.sig.returnType = some .int) (hd : decode cc pc = .ok (.ireturn, 1)) : ∀ lv st M, s_iret Q lv st M → Gd p l e R s m args below meth c nL D ca ad A nc ns (MQ below (QC D ca ad A Q) args s nc ns A) pc lv st M := by
  intro lv st M h H locs ls hP hS hl ho hs
  unfold s_iret at h
  split at h
  · next x => exact W.iret (free := A) hX.1 hX.2.1 hr (fun t ht _ => ⟨⟨some (.inl x), M, h, rfl, by rw [ht]; exact hP⟩, hS.F ht⟩) hS.2.2 hd hX.2.2.2.2.2.2.2.2.2.1
  · exact h.elim
theorem sd_zret (hX : CX p s m args meth c nL cc own D ca ad A) {Q : Option mV → mM → Prop} (hr : meth.sig.returnType = some .boolean) (hd : decode cc pc = .ok (.ireturn, 1)) : ∀ lv st M, s_zret Q lv st M → Gd p l e R s m args below meth c nL D ca ad A nc ns (MQ below (QC D ca ad A Q) args s nc ns A) pc lv st M := by
  intro lv st M h H locs ls hP hS hl ho hs
  unfold s_zret at h
  split at h
  · next x => exact W.zret (free := A) hX.1 hX.2.1 hr (by rcases h.1 with rfl | rfl <;> rfl) (fun t ht _ => ⟨⟨some (.inl x), M, h.2, rfl, by rw [ht]; exact hP⟩, hS.F ht⟩) hS.2.2 hd hX.2.2.2.2.2.2.2.2.2.1
  · exact h.elim
theorem sd_lret (hX : CX p s m args meth c nL cc own D ca ad A) {Q : Option mV → mM → Prop} (hr : meth.sig.returnType = some .long) (hd : decode cc pc = .ok (.lreturn, 1)) : ∀ lv st M, s_lret Q lv st M → Gd p l e R s m args below meth c nL D ca ad A nc ns (MQ below (QC D ca ad A Q) args s nc ns A) pc lv st M := by
  intro lv st M h H locs ls hP hS hl ho hs
  unfold s_lret at h
  split at h
  · next x => exact W.lret (free := A) hX.1 hX.2.1 hr (fun t ht _ => ⟨⟨some (.inr (.inl x)), M, h, rfl, by rw [ht]; exact hP⟩, hS.F ht⟩) hS.2.2 hd hX.2.2.2.2.2.2.2.2.2.1
  · exact h.elim
theorem sd_vret (hX : CX p s m args meth c nL cc own D ca ad A) {Q : Option mV → mM → Prop} (hr : meth.sig.returnType = none) (hd : decode cc pc = .ok (.return_, 1)) : ∀ lv st M, s_vret Q lv st M → Gd p l e R s m args below meth c nL D ca ad A nc ns (MQ below (QC D ca ad A Q) args s nc ns A) pc lv st M := by
  intro lv st M h H locs ls hP hS hl ho hs
  unfold s_vret at h
  split at h
  · exact W.vret (free := A) hX.1 hX.2.1 hr (fun t ht _ => ⟨⟨none, M, h, rfl, by rw [ht]; exact hP⟩, hS.F ht⟩) hS.2.2 hd hX.2.2.2.2.2.2.2.2.2.1
  · exact h.elim
theorem sd_aret (hX : CX p s m args meth c nL cc own D ca ad A) {Q : Option mV → mM → Prop} {C : String} (hr : meth.sig.returnType = some (.object C)) (hd : decode cc pc = .ok (.areturn, 1)) : ∀ lv st M, s_aret Q lv st M → Gd p l e R s m args below meth c nL D ca ad A nc ns (MQ below (QC D ca ad A Q) args s nc ns A) pc lv st M := by
  intro lv st M h H locs ls hP hS hl ho hs
  unfold s_aret at h
  split at h
  · next x => exact W.aret (free := A) hX.1 hX.2.1 hr (Or.inl ⟨_, rfl⟩) (Or.inr ⟨_, rfl⟩) (fun t ht _ => ⟨⟨some (.inr (.inr x)), M, h, rfl, by rw [ht]; exact hP⟩, hS.F ht⟩) hS.2.2 hd hX.2.2.2.2.2.2.2.2.2.1
  · exact h.elim
theorem my_call {H : Heap} {locs : List Loc} {ls : Array Slot} {rest st0 : List Value} {A1 : Nat → Prop} {free : Addr → Prop} {Qx : Outcome → State → Prop} (hr : va_Run p l e R s m args below meth c H locs nc ns 0 0 (F0 m pc ls st0) rest (fun st oc t => Qx oc t ∧ va_F A1 st t) free) (hS : va_S A s.heap H locs) (hA : ∀ q, q < H.size → A1 q → A q) (hf : ∀ q, free q → A q)
    (kk : ∀ (v : Option Value) (t : State) (H1 : Heap) (locs1 : List Loc), t.heap = H1 → Qx (.returned v) t → va_S A s.heap H1 locs1 → W p l e R s m args below meth c H1 locs1 nc ns Qf (F0 m (pc + 3) ls (v.toList ++ rest))) : W p l e R s m args below meth c H locs nc ns Qf (F0 m pc ls st0) := by
  intro T hT X
  obtain ⟨v, st₀, t, T', L, h0, X', hL, e1, e2, ⟨hq, hz, hk⟩, st⟩ := hr T hT X
  rw [h0] at hz hk
  obtain ⟨t2, a1, b1⟩ := kk v t T'.heap (locs ++ L) e1.symm hq
    ⟨Nat.le_trans hS.1 (by rw [e1]; exact hz), fun q h1 h2 => by rw [e1, hk q (Nat.lt_of_lt_of_le h1 hS.1) (fun z => h2 (hA q (Nat.lt_of_lt_of_le h1 hS.1) z))]; exact hS.2.1 q h1 h2, fun q hq => by
      rcases List.mem_append.mp hq with h | h
      · exact hS.2.2 q h
      · exact hf _ (hL q h)⟩ T' rfl X'
  exact ⟨t2, st t2 a1, b1⟩
theorem aA_in (hX : CX p s m args meth c nL cc own D ca ad A) {M : mM} {H : Heap} {locs : List Loc} (hS : va_S A s.heap H locs) : ∀ q, aA ad H.size q → A q := by
  intro q h
  rcases h with ⟨k, hk, rfl⟩ | h
  · exact (wo_inj (hX.2.2.2.2.2.2.1 M)).2 k hk
  · exact hX.2.2.2.2.2.2.2.2.2.2 q (Nat.le_trans hS.1 h)
/-- what a callee asks for -/
theorem pre_of (hX : CX p s m args meth c nL cc own D ca ad A) {M : mM} {H : Heap} {locs : List Loc} (hP : va_P D vwCl (wo ca ad M) H) (hS : va_S A s.heap H locs) : ∀ U : State, U.heap = H → s.WarmedH U.vm → U.heap.size = H.size ∧ WD D ca ad M H.size U := by
  intro U hU hW
  have hin := aA_in hX (M := M) hS
  refine ⟨by rw [hU], by rw [hU]; exact hP, va_K.moved hW.alike hX.2.2.2.2.2.1, (wo_inj (hX.2.2.2.2.2.2.1 M)).1, ⟨?_, ?_⟩, nw_warm hW hX.2.2.2.2.2.2.2.2.1⟩
  · rw [hU]
    exact ((va_Z.kept hX.2.2.2.2.2.2.2.1.1 hS.2.1).moved hW.alike).narrow hin
  · rw [hU]
    exact ((va_T.kept hX.2.2.2.2.2.2.2.1.2 hS.2.1).moved hW.alike).narrow hin
theorem blind_of {M : mM} {sz : Nat} {av : List Value} : FrameBlind (va_Pc av (fun U => U.heap.size = sz ∧ WD D ca ad M sz U)) := by
  intro a U g mk h
  obtain ⟨h0, h1, h2, h3, h4, h5, h6⟩ := h
  exact ⟨h0, h1, h2, va_K.moved (u := U) (U := U.calling g mk a) (Vm.Alike.refl U.vm) h3, h4, ⟨va_Z.moved (u := U) (U := U.calling g mk a) (Vm.Alike.refl U.vm) h5.1, va_T.moved (u := U) (U := U.calling g mk a) (Vm.Alike.refl U.vm) h5.2⟩, nw_same (s := U) (U := U.calling g mk a) rfl h6⟩
theorem csum_en : ∀ (st : List mV), ((st.map (en ad)).map fun v => v.category).sum = csum st
  | [] => rfl
  | .inl x :: r => by simp only [List.map_cons, List.sum_cons, csum_en r, csum]; rfl
  | .inr (.inl x) :: r => by simp only [List.map_cons, List.sum_cons, csum_en r, csum]; rfl
  | .inr (.inr x) :: r => by simp only [List.map_cons, List.sum_cons, csum_en r, csum]; rfl
theorem push_en (r : Option mV) (st : List mV) : (r.map (en ad)).toList ++ st.map (en ad) = (pushR r st).map (en ad) := by cases r <;> rfl
/-- behind a call -/
theorem back_call (hX : CX p s m args meth c nL cc own D ca ad A) {lv : LV} {rest : List mV} {M M1 : mM} {r1 : Option mV} {H : Heap} {locs : List Loc} {ls : Array Slot} {st0 : List Value} (k : ∀ lv st M, κ lv st M → Gd p l e R s m args below meth c nL D ca ad A nc ns Qf (pc + 3) lv st M) (hk : κ lv (pushR r1 rest) M1) (hok : okR r1) (hS : va_S A s.heap H locs) (hl : lv_has ls nL (toL ad 0 lv)) (ho : ∀ v ∈ lv, okO v) (hs : ∀ v ∈ rest, okV v)
    (hr : va_Run p l e R s m args below meth c H locs nc ns 0 0 (F0 m pc ls st0) (rest.map (en ad)) (fun st oc t => (∃ (r : Option mV) (M' : mM), (r = r1 ∧ M' = M1) ∧ oc = .returned (r.map (en ad)) ∧ va_P D vwCl (wo ca ad M') t.heap) ∧ va_F (aA ad H.size) st t) (aA ad H.size)) : W p l e R s m args below meth c H locs nc ns Qf (F0 m pc ls st0) := by
  have hin := aA_in hX (M := M) hS
  refine my_call hr hS (fun q _ h => hin q h) hin fun v t H1 locs1 ht hq hS1 => ?_
  obtain ⟨r, M', ⟨rfl, rfl⟩, hv, hP1⟩ := hq
  cases hv
  rw [push_en]
  rw [ht] at hP1
  refine k lv _ M' hk H1 locs1 ls hP1 hS1 hl ho ?_
  cases r with
  | none => exact hs
  | some v => exact List.forall_mem_cons.mpr ⟨hok, hs⟩
theorem sd_callV (hX : CX p s m args meth c nL cc own D ca ad A) {kd n idx d mL N : Nat} {y : MethodName} {C : String} {T : u_T} {bytes : ByteArray} {ret : Option FieldType} {pre : List mV → mM → Prop} {fn : List mV → mM → Option mV × mM} (hc : vwCl[kd]? = some (C, T, N)) (h13 : kd < 13) (hM : Con l y bytes mL ret d pre fn) (hy : MVk y C bytes mL ret n) (hlk : Cond.methodLink own idx y ∈ gw) (hR : (d + 1 ≤ R.frames ∧ 8 + (mL + 11) + 40 * d ≤ R.locals) ∧ nc ≤ R.cells ∧ ns ≤ R.slots) (hd : decode cc pc = .ok (.invokevirtual idx, 3)) (k : ∀ lv st M, κ lv st M → Gd p l e R s m args below meth c nL D ca ad A nc ns Qf (pc + 3) lv st M) : ∀ lv st M, s_callV kd n pre fn κ lv st M → Gd p l e R s m args below meth c nL D ca ad A nc ns Qf pc lv st M := by
  intro lv st M h H locs ls hP hS hl ho hs
  unfold s_callV at h
  split at h
  · next k2 k0 as heq =>
    obtain ⟨rfl, hn, hcs, hpre, hk⟩ := h
    have hst : st = as.reverse ++ (.inr (.inr (k2, k0)) :: st.drop (n + 1)) := by
      have h1 := List.take_append_drop (n + 1) st
      have h2 : st.take (n + 1) = (.inr (.inr (k2, k0)) :: as).reverse := by rw [← heq, List.reverse_reverse]
      rw [h2, List.reverse_cons, List.append_assoc] at h1
      exact h1.symm
    generalize st.drop (n + 1) = rest at *
    subst hst
    have hoa : ∀ v ∈ (.inr (.inr (k2, k0)) :: as : List mV), okV v := by
      intro v hv
      apply hs
      rcases List.mem_cons.mp hv with rfl | hv
      · simp
      · simp [hv]
    have hk0 : kof k0 = k2 := hoa _ List.mem_cons_self
    obtain ⟨hok, hMet⟩ := hM D ca ad _ M H.size hpre hoa
    obtain ⟨y1, y2, y3, y4, y5⟩ := hy
    refine back_call hX (M := M) k hk hok hS hl ho (fun v hv => hs v (by simp [hv])) ?_
    exact va_runV (C := C) (b := ad k0) (As := as.map (en ad)) (rest := rest.map (en ad)) (Ts := gw) ⟨hX.1, hX.2.1, hX.2.2.1, hX.2.2.2.1, hX.2.2.2.2.1⟩ hMet
      (cwV n hX.2.2.2.2.1 (good_all (fun w hw => by
        simp only [wsV, List.mem_append, List.mem_cons, List.not_mem_nil, or_false] at hw
        rcases hw with (rfl | rfl | rfl | rfl) | rfl | hw
        · exact hlk
        · exact y2
        · exact y3
        · exact y4
        · exact y1
        · exact hw)) rfl rfl rfl y5 hR.1)
      ⟨blind_of, va_recv hX.2.2.2.2.2.1 hP hc (q0 := k0) ((wo_get (kof_lt (by omega))).trans (by rw [sh_obj hk0 h13])), fun U hU hW => ⟨rfl, pre_of hX hP hS U hU hW⟩⟩ rfl (by rw [List.length_map]; exact hn) hl.1 (by simp [en]) (lv_room (by rw [csum_en]; exact hcs)) hd ⟨hR.2.1, hR.2.2⟩
  · exact h.elim
theorem sd_callS (hX : CX p s m args meth c nL cc own D ca ad A) {n idx d mL : Nat} {y : MethodName} {bytes : ByteArray} {ret : Option FieldType} {pre : List mV → mM → Prop} {fn : List mV → mM → Option mV × mM} (hM : Con l y bytes mL ret d pre fn) (hy : MSk y bytes mL ret n) (hlk : Cond.methodLink own idx y ∈ gw) (hR : (d + 1 ≤ R.frames ∧ 8 + (mL + 11) + 40 * d ≤ R.locals) ∧ nc ≤ R.cells ∧ ns ≤ R.slots) (hd : decode cc pc = .ok (.invokestatic idx, 3)) (k : ∀ lv st M, κ lv st M → Gd p l e R s m args below meth c nL D ca ad A nc ns Qf (pc + 3) lv st M) : ∀ lv st M, s_callS n pre fn κ lv st M → Gd p l e R s m args below meth c nL D ca ad A nc ns Qf pc lv st M := by
  intro lv st M h H locs ls hP hS hl ho hs
  unfold s_callS at h
  obtain ⟨hn, hcs, hpre, hk⟩ := h
  have hst : st = (st.take n).reverse.reverse ++ st.drop n := by rw [List.reverse_reverse, List.take_append_drop]
  have hlen : (st.take n).reverse.length = n := by simp; omega
  have hoa : ∀ v ∈ (st.take n).reverse, okV v := fun v hv => hs v (List.mem_of_mem_take (List.mem_reverse.mp hv))
  have hor : ∀ v ∈ st.drop n, okV v := fun v hv => hs v (List.mem_of_mem_drop hv)
  generalize st.drop n = rest at *
  generalize (st.take n).reverse = as at *
  subst hst
  obtain ⟨hok, hMet⟩ := hM D ca ad _ M H.size hpre hoa
  obtain ⟨y1, y2, y3, y5⟩ := hy
  refine back_call hX (M := M) k hk hok hS hl ho hor ?_
  exact va_runS (As := as.map (en ad)) (rest := rest.map (en ad)) (Ts := gw) ⟨hX.1, hX.2.1, hX.2.2.1, hX.2.2.2.1, hX.2.2.2.2.1⟩ hMet
    (va_cwS n hX.2.2.2.2.1 (good_all (fun w hw => by
      simp only [va_wsS, List.mem_append, List.mem_cons, List.not_mem_nil, or_false] at hw
      rcases hw with (rfl | rfl | rfl) | rfl | hw
      · exact hlk
      · exact y2
      · exact y3
      · exact y1
      · exact hw)) rfl rfl rfl y5 hR.1)
    ⟨blind_of, fun U hU hW => ⟨rfl, pre_of hX hP hS U hU hW⟩⟩ rfl (by rw [List.length_map]; exact hlen) hl.1 (by simp) (lv_room (by rw [csum_en]; exact hcs)) hd ⟨hR.2.1, hR.2.2⟩
theorem sd_callSN (hX : CX p s m args meth c nL cc own D ca ad A) {n idx d mL : Nat} {host : String} {y : MethodName} {bytes : ByteArray} {ret : Option FieldType} {pre : List mV → mM → Prop} {fn : List mV → mM → Option mV × mM} (hM : Con l y bytes mL ret d pre fn) (hy : MSk y bytes mL ret n) (hlk : Cond.methodLinkNest own idx y host ∈ nwL) (hR : (d + 1 ≤ R.frames ∧ 8 + (mL + 11) + 40 * d ≤ R.locals) ∧ nc ≤ R.cells ∧ ns ≤ R.slots) (hd : decode cc pc = .ok (.invokestatic idx, 3)) (k : ∀ lv st M, κ lv st M → Gd p l e R s m args below meth c nL D ca ad A nc ns Qf (pc + 3) lv st M) : ∀ lv st M, s_callS n pre fn κ lv st M → Gd p l e R s m args below meth c nL D ca ad A nc ns Qf pc lv st M := by
  intro lv st M h H locs ls hP hS hl ho hs
  unfold s_callS at h
  obtain ⟨hn, hcs, hpre, hk⟩ := h
  have hst : st = (st.take n).reverse.reverse ++ st.drop n := by rw [List.reverse_reverse, List.take_append_drop]
  have hlen : (st.take n).reverse.length = n := by simp; omega
  have hoa : ∀ v ∈ (st.take n).reverse, okV v := fun v hv => hs v (List.mem_of_mem_take (List.mem_reverse.mp hv))
  have hor : ∀ v ∈ st.drop n, okV v := fun v hv => hs v (List.mem_of_mem_drop hv)
  generalize st.drop n = rest at *
  generalize (st.take n).reverse = as at *
  subst hst
  obtain ⟨hok, hMet⟩ := hM D ca ad _ M H.size hpre hoa
  obtain ⟨y1, y2, y3, y5⟩ := hy
  refine back_call hX (M := M) k hk hok hS hl ho hor ?_
  exact va_runSN (host := host) (As := as.map (en ad)) (rest := rest.map (en ad)) (Ts := gw) ⟨hX.1, hX.2.1, hX.2.2.1, hX.2.2.2.1, hX.2.2.2.2.1⟩ hMet
    ⟨va_cnB n hX.2.2.2.2.1 (gw_in y1) rfl rfl rfl (hX.2.2.2.2.2.2.2.2.1 _ hlk) (hX.2.2.2.2.1 _ y3) y5 hR.1, hX.2.2.2.2.1 _ y2, trivial⟩
    ⟨blind_of, fun U hU hW => ⟨rfl, pre_of hX hP hS U hU hW⟩⟩ rfl (by rw [List.length_map]; exact hlen) hl.1 (by simp) (lv_room (by rw [csum_en]; exact hcs)) hd ⟨hR.2.1, hR.2.2⟩
theorem sd_mth (hX : CX p s m args meth c nL cc own D ca ad A) {idx : Nat} {f : Int32 → Int32 → Int32} {y : MethodName} {bt : ByteArray} (hf : (f = mn ∧ y = Lib.Math.min.name ∧ bt = Lib.Math.min.code) ∨ (f = mx ∧ y = Lib.Math.max.name ∧ bt = Lib.Math.max.code)) (hlk : Cond.methodLink own idx y ∈ gw) (hst : Cond.static y ∈ gw) (hin : Cond.initialized "java/lang/Math" ∈ gw) (hcd : Cond.code y bt 2 (some .int) ∈ gw) (hR : (1 ≤ R.frames ∧ 21 ≤ R.locals) ∧ nc ≤ R.cells ∧ ns ≤ R.slots) (hd : decode cc pc = .ok (.invokestatic idx, 3)) (k : ∀ lv st M, κ lv st M → Gd p l e R s m args below meth c nL D ca ad A nc ns Qf (pc + 3) lv st M) : ∀ lv st M, s_mth f κ lv st M → Gd p l e R s m args below meth c nL D ca ad A nc ns Qf pc lv st M := by
  intro lv st M h H locs ls hP hS hl ho hs
  unfold s_mth at h
  split at h
  · next v u r =>
    have hroom : ((r.map (en ad)).map fun v => v.category).sum + 13 ≤ R.locals := by rw [csum_en]; have := h.1; have := hR.1.2; omega
    have kk := k lv _ M h.2 H locs ls hP hS hl ho (List.forall_mem_cons.mpr ⟨trivial, fun v hv => hs v (List.mem_cons_of_mem _ (List.mem_cons_of_mem _ hv))⟩)
    rcases hf with ⟨rfl, rfl, rfl⟩ | ⟨rfl, rfl, rfl⟩
    · exact va_mmin hX.1 hX.2.1 (hX.2.2.1.trans hl.1.symm) hX.2.2.2.1 (hX.2.2.2.2.1 _ hlk) (hX.2.2.2.2.1 _ hst) (hX.2.2.2.2.1 _ hin) (hX.2.2.2.2.1 _ hcd) hR.1.1 hroom hR.2.1 hR.2.2 hd kk
    · exact va_mmax hX.1 hX.2.1 (hX.2.2.1.trans hl.1.symm) hX.2.2.2.1 (hX.2.2.2.2.1 _ hlk) (hX.2.2.2.2.1 _ hst) (hX.2.2.2.2.1 _ hin) (hX.2.2.2.2.1 _ hcd) hR.1.1 hroom hR.2.1 hR.2.2 hd kk
  · exact h.elim
theorem sd_mab (hX : CX p s m args meth c nL cc own D ca ad A) {idx : Nat} (hlk : Cond.methodLink own idx Lib.Math.abs.name ∈ gw) (hst : Cond.static Lib.Math.abs.name ∈ gw) (hin : Cond.initialized "java/lang/Math" ∈ gw) (hcd : Cond.code Lib.Math.abs.name Lib.Math.abs.code 1 (some .int) ∈ gw) (hR : (1 ≤ R.frames ∧ 21 ≤ R.locals) ∧ nc ≤ R.cells ∧ ns ≤ R.slots) (hd : decode cc pc = .ok (.invokestatic idx, 3)) (k : ∀ lv st M, κ lv st M → Gd p l e R s m args below meth c nL D ca ad A nc ns Qf (pc + 3) lv st M) : ∀ lv st M, s_mab κ lv st M → Gd p l e R s m args below meth c nL D ca ad A nc ns Qf pc lv st M := by
  intro lv st M h H locs ls hP hS hl ho hs
  unfold s_mab at h
  split at h
  · next u r =>
    have hroom : ((r.map (en ad)).map fun v => v.category).sum + 13 ≤ R.locals := by rw [csum_en]; have := h.1; have := hR.1.2; omega
    exact va_mabs hX.1 hX.2.1 (hX.2.2.1.trans hl.1.symm) hX.2.2.2.1 (hX.2.2.2.2.1 _ hlk) (hX.2.2.2.2.1 _ hst) (hX.2.2.2.2.1 _ hin) (hX.2.2.2.2.1 _ hcd) hR.1.1 hroom hR.2.1 hR.2.2 hd (k lv _ M h.2 H locs ls hP hS hl ho (List.forall_mem_cons.mpr ⟨trivial, fun v hv => hs v (List.mem_cons_of_mem _ hv)⟩))
  · exact h.elim
end MC
theorem sl_len {ad : Nat → Nat} : ∀ (as : List mV), (lg_sl (as.map (en ad))).length = (inL as).length
  | [] => rfl
  | .inl x :: r => by
    show (([Slot.val (Value.int x)] : List Slot) ++ lg_sl (r.map (en ad))).length = _
    rw [List.length_append, sl_len r]; simp [inL]; omega
  | .inr (.inl x) :: r => by
    show (([Slot.val (Value.long x), Slot.second] : List Slot) ++ lg_sl (r.map (en ad))).length = _
    rw [List.length_append, sl_len r]; simp [inL]; omega
  | .inr (.inr x) :: r => by
    show (([Slot.val (Value.ref (ad x.2))] : List Slot) ++ lg_sl (r.map (en ad))).length = _
    rw [List.length_append, sl_len r]; simp [inL]; omega
/-- a contract out of a walk -/
theorem con_of {l : Launch} {y : MethodName} {bytes : ByteArray} {mL : Nat} {ret : Option FieldType} {d : Nat} {pre : List mV → mM → Prop} {fn : List mV → mM → Option mV × mM} (hy : plainName y.cls = true) (hok : ∀ as M, pre as M → (∀ v ∈ as, okV v) → okR (fn as M).1) (hlen : ∀ as M, pre as M → (inL as).length ≤ mL)
    (body : ∀ (p : Program) (e : Env) (s : State) (m : MethodId) (args : Array Value) (below : List Frame) (meth : Method) (c : Code) (D : va_G) (ca : Nat → ClassId) (ad : Nat → Nat) (A : Nat → Prop) (as : List mV) (M : mM), CX p s m args meth c mL bytes y.cls D ca ad A → meth.sig.returnType = ret → pre as M → (∀ v ∈ as, okV v) → Gd p l e (rmD d) s m args below meth c mL D ca ad A 0 0 (MQ below (QC D ca ad A (fun r M' => r = (fn as M).1 ∧ M' = (fn as M).2)) args s 0 0 A) 0 (inL as ++ List.replicate (mL - (inL as).length) none) [] M) : Con l y bytes mL ret d pre fn := by
  intro D ca ad as M sz hpre hoa
  refine ⟨hok as M hpre hoa, Met.ofW (cc := bytes) (maxL := mL) (ret := ret) hy rfl ?_⟩
  intro p e s m args below meth c s₁ B hml hv
  obtain ⟨rfl, hsz, hP, hK, hinj, hZT, hNW⟩ := hv
  subst hsz
  have hts := atoms_spec (ws := .code y bytes mL ret :: gw) B.pre
  have hown : s.vm.findClass y.cls = some m.cls := findClass_of_methodNamed B.named
  have hX : CX p s m (as.map (en ad)).toArray meth c mL bytes y.cls D ca ad (aA ad s.heap.size) := ⟨B.exec, B.bytes, hml, hown, fun w hw => hts w (List.mem_cons_of_mem _ hw), hK, wo_D hinj (fun k hk => Or.inl ⟨k, hk, rfl⟩), hZT, hNW, B.notSynchronized, fun q h => Or.inr h⟩
  have hl := lv_entry (as.map (en ad)) (n := mL) (by rw [sl_len]; exact hlen as M hpre)
  rw [lg_entry_eq]
  refine body p e s m _ below meth c D ca ad _ as M hX B.returns hpre hoa s.heap [] _ hP va_S.rf (has_sub hl fun q hq => ?_) (fun v hv => ?_) (fun v hv => by cases hv)
  · rw [toL_pad] at hq
    exact inL_args as 0 hq
  · rcases List.mem_append.mp hv with h | h
    · exact inL_ok as hoa v h
    · rw [(List.mem_replicate.mp h).2]; trivial
