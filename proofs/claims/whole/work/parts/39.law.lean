def R_law : String := "FairBlocksLaw"
def lw_P (b : Addr) (xs : List Int32) (args : Array Value) (s : State) : Prop := args = #[.ref b] ∧ s.IntsAt b xs ∧ xs.length ≤ 3072 ∧ (Jvm.Cond.and given_1 narrow_1).before args s = true
def lw_Q (_ : Array Value) (s : State) (o : Outcome) (t : State) : Prop := o = .returned (some (.int 1)) ∧ Framed s o t [] 600000 7302250
def lw_Z (below : List Frame) (a : Array Value) (s : State) : State → Prop := fun t => ∃ o, t.status = .running ∧ Ended t below o ∧ lw_Q a s o t
/-- the law's own end, with 1 on the stack, nothing written that was there before, its room as the claim has it -/
theorem lw_ret {p : Program} {l : Launch} {e : Env} {s : State} {m : MethodId} {below : List Frame} {meth : Method} {c : Code} {b : Nat} (hx : p.tables.exec = Jvm.exec) (hb : c.code = code) (hr : meth.sig.returnType = ret) (hlocks : meth.locks = false) {pc : Nat} {H : Heap} {ls : Array Slot} (hdg : decode code pc = .ok (.ireturn, 1)) : W p l e room_1 s m #[Value.ref b] below meth c H [] 600000 7302250 (lw_Z below #[Value.ref b] s) (F0 m pc ls [.int 1]) := by
  intro T hT X
  obtain ⟨fs, hret, hrun, hended, hW, hframe⟩ := X.leave (v := some (.int 1)) (hlocks := hlocks) (fun h => by rw [hr] at h; cases h)
  have hmeth' : T.vm.method? m = some meth := X.method'
  refine ⟨T.setFrames fs, ?_, .returned (some (.int 1)), hrun, hended, rfl, ⟨_, rfl⟩, hW, hframe⟩
  jvm_step X.here [X.here.top, hx, hb, hdg, hmeth', hr, ret, narrow_b1]
  (try refine ⟨rfl, ?_⟩); (try refine ⟨rfl, ?_⟩)
  first | (intro acts; rw [hret _ acts rfl rfl rfl]) | rw [hret _ _ rfl rfl rfl]
  exact Steps.refl _
/-- what holds at the law's entry: the machine, the code, the tables' words (any of lw_tbl by 'hts w (by decide +kernel)'), the script of L ints xs at the cell b, what the Statement gives of the start (any of its parts by flat_of_before) -/
def lw_At (p : Program) (s : State) (m : MethodId) (meth : Method) (c : Code) (b L : Nat) (xs : Nat → Int32) : Prop :=
  p.tables.exec = Jvm.exec ∧ c.code = code ∧ meth.sig.returnType = ret ∧ c.maxLocals = 4 ∧ s.vm.findClass R_law = some m.cls ∧ (∀ w ∈ lw_tbl, w.before #[Value.ref b] s = true) ∧ va_X b L xs s s.heap ∧ b < s.heap.size ∧ meth.locks = false ∧ (Jvm.Cond.and given_1 narrow_1).before #[Value.ref b] s = true
/-! the law's own instructions, over the world behind the constructors -/
def LWX (ad : Nat → Nat) (b L : Nat) (xs : Nat → Int32) (s : State) : Prop := ad 179 = b ∧ va_X b L xs s s.heap ∧ b < s.heap.size
def s_sald (L : Nat) (xs : Nat → Int32) (κ : KT) : KT := fun lv st M => match st with
  | .inl i :: .inr (.inr (k2, k)) :: r => (k2 = 18 ∧ k = 179) ∧ vp_in i L ∧ κ lv (.inl (xs i.toNatClampNeg) :: r) M
  | _ => False
def s_slen (L : Nat) (κ : KT) : KT := fun lv st M => match st with
  | .inr (.inr (k2, k)) :: r => (k2 = 18 ∧ k = 179) ∧ κ lv (.inl (nI L) :: r) M
  | _ => False
def s_law1 : KT := fun _ st _ => st = [.inl 1]
section LW
variable {p : Program} {l : Launch} {e : Env} {R : Room} {s : State} {m : MethodId} {args : Array Value} {below : List Frame} {meth : Method} {c : Code} {nL : Nat} {cc : ByteArray} {own : String} {D : va_G} {ca : Nat → ClassId} {ad : Nat → Nat} {nc ns : Nat} {Qf : State → Prop} {pc b L : Nat} {xs : Nat → Int32} {κ : KT}
theorem sd_sald (hX : CX p s m args meth c nL cc own D ca ad (AA s.heap.size)) (hC : LWX ad b L xs s) (hd : decode cc pc = .ok (.iaload, 1)) (k : ∀ lv st M, κ lv st M → Gd p l e R s m args below meth c nL D ca ad (AA s.heap.size) nc ns Qf (pc + 1) lv st M) : ∀ lv st M, s_sald L xs κ lv st M → Gd p l e R s m args below meth c nL D ca ad (AA s.heap.size) nc ns Qf pc lv st M := by
  intro lv st M h H locs ls hP hS hl ho hs
  unfold s_sald at h
  split at h
  · next i k2 k0 r =>
    obtain ⟨⟨rfl, rfl⟩, hi, h⟩ := h
    obtain ⟨hb, hx, hbl⟩ := hC
    show W p l e R s m args below meth c H locs nc ns Qf (F0 m pc ls (.int i :: .ref (ad 179) :: r.map (en ad)))
    rw [hb]
    exact va_sld hX.1 hX.2.1 hx hbl (Nat.not_le.mpr hbl) hS hi hd (k lv (.inl (xs i.toNatClampNeg) :: r) M h H locs ls hP hS hl ho (List.forall_mem_cons.mpr ⟨trivial, fun v hv => hs v (List.mem_cons_of_mem _ (List.mem_cons_of_mem _ hv))⟩))
  · exact h.elim
theorem sd_slen (hX : CX p s m args meth c nL cc own D ca ad (AA s.heap.size)) (hC : LWX ad b L xs s) (hd : decode cc pc = .ok (.arraylength, 1)) (k : ∀ lv st M, κ lv st M → Gd p l e R s m args below meth c nL D ca ad (AA s.heap.size) nc ns Qf (pc + 1) lv st M) : ∀ lv st M, s_slen L κ lv st M → Gd p l e R s m args below meth c nL D ca ad (AA s.heap.size) nc ns Qf pc lv st M := by
  intro lv st M h H locs ls hP hS hl ho hs
  unfold s_slen at h
  split at h
  · next k2 k0 r =>
    obtain ⟨⟨rfl, rfl⟩, h⟩ := h
    obtain ⟨hb, hx, hbl⟩ := hC
    show W p l e R s m args below meth c H locs nc ns Qf (F0 m pc ls (.ref (ad 179) :: r.map (en ad)))
    rw [hb]
    exact va_slen hX.1 hX.2.1 hx hbl (Nat.not_le.mpr hbl) hS hd (k lv (.inl (nI L) :: r) M h H locs ls hP hS hl ho (List.forall_mem_cons.mpr ⟨trivial, fun v hv => hs v (List.mem_cons_of_mem _ hv)⟩))
  · exact h.elim
theorem sd_law1 (hX : CX p s m #[Value.ref b] meth c 4 code own D ca ad (AA s.heap.size)) (hr : meth.sig.returnType = ret) (hd : decode code pc = .ok (.ireturn, 1)) : ∀ lv st M, s_law1 lv st M → Gd p l e room_1 s m #[Value.ref b] below meth c 4 D ca ad (AA s.heap.size) 600000 7302250 (lw_Z below #[Value.ref b] s) pc lv st M := by
  intro lv st M h H locs ls hP hS hl ho hs
  unfold s_law1 at h
  subst h
  exact va_forget (fun q hq => hS.2.2 q hq) (lw_ret hX.1 hX.2.1 hr hX.2.2.2.2.2.2.2.2.2.1 hd)
end LW
