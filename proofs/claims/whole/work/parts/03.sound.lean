/-! instructions as turns of predicates, each sound over the machine -/
def s_iconst (v : Int32) (κ : KT) : KT := fun lv st M => κ lv (.inl v :: st) M
def s_lconst (v : Int64) (κ : KT) : KT := fun lv st M => κ lv (.inr (.inl v) :: st) M
def s_iload (i : Nat) (κ : KT) : KT := fun lv st M => match lv.getD i none with
  | some (.inl x) => κ lv (.inl x :: st) M
  | _ => False
def s_lload (i : Nat) (κ : KT) : KT := fun lv st M => match lv.getD i none with
  | some (.inr (.inl x)) => κ lv (.inr (.inl x) :: st) M
  | _ => False
def s_aload (i : Nat) (κ : KT) : KT := fun lv st M => match lv.getD i none with
  | some (.inr (.inr x)) => κ lv (.inr (.inr x) :: st) M
  | _ => False
def s_istore (i : Nat) (κ : KT) : KT := fun lv st M => match st with
  | .inl x :: r => nl1 lv i ∧ κ (lv.set i (some (.inl x))) r M
  | _ => False
def s_lstore (i : Nat) (κ : KT) : KT := fun lv st M => match st with
  | .inr (.inl x) :: r => nl1 lv i ∧ κ ((lv.set i (some (.inr (.inl x)))).set (i + 1) none) r M
  | _ => False
def s_astore (i : Nat) (κ : KT) : KT := fun lv st M => match st with
  | .inr (.inr x) :: r => nl1 lv i ∧ κ (lv.set i (some (.inr (.inr x)))) r M
  | _ => False
def s_iinc (i : Nat) (n : Int32) (κ : KT) : KT := fun lv st M => match lv.getD i none with
  | some (.inl x) => nl1 lv i ∧ κ (lv.set i (some (.inl (x + n)))) st M
  | _ => False
def s_bin (f : Int32 → Int32 → Int32) (κ : KT) : KT := fun lv st M => match st with
  | .inl y :: .inl x :: r => κ lv (.inl (f x y) :: r) M
  | _ => False
def s_binG (f : Int32 → Int32 → Int32) (κ : KT) : KT := fun lv st M => match st with
  | .inl y :: .inl x :: r => ¬ y = 0 ∧ κ lv (.inl (f x y) :: r) M
  | _ => False
def s_un (f : Int32 → Int32) (κ : KT) : KT := fun lv st M => match st with
  | .inl x :: r => κ lv (.inl (f x) :: r) M
  | _ => False
def s_lbin (f : Int64 → Int64 → Int64) (κ : KT) : KT := fun lv st M => match st with
  | .inr (.inl y) :: .inr (.inl x) :: r => κ lv (.inr (.inl (f x y)) :: r) M
  | _ => False
def s_lbinG (f : Int64 → Int64 → Int64) (κ : KT) : KT := fun lv st M => match st with
  | .inr (.inl y) :: .inr (.inl x) :: r => ¬ y = 0 ∧ κ lv (.inr (.inl (f x y)) :: r) M
  | _ => False
def s_lsh (f : Int64 → Int32 → Int64) (κ : KT) : KT := fun lv st M => match st with
  | .inl y :: .inr (.inl x) :: r => κ lv (.inr (.inl (f x y)) :: r) M
  | _ => False
def s_lcmp (κ : KT) : KT := fun lv st M => match st with
  | .inr (.inl y) :: .inr (.inl x) :: r => κ lv (.inl (lg_cmp x y) :: r) M
  | _ => False
def mn (x y : Int32) : Int32 := if y < x then y else x
def mx (x y : Int32) : Int32 := if x < y then y else x
def ab (x : Int32) : Int32 := if 0 ≤ x then x else 0 - x
def csum : List mV → Nat
  | [] => 0
  | .inr (.inl _) :: r => 2 + csum r
  | _ :: r => 1 + csum r
def s_mth (f : Int32 → Int32 → Int32) (κ : KT) : KT := fun lv st M => match st with
  | .inl y :: .inl x :: r => csum r ≤ 8 ∧ κ lv (.inl (f x y) :: r) M
  | _ => False
def s_mab (κ : KT) : KT := fun lv st M => match st with
  | .inl x :: r => csum r ≤ 8 ∧ κ lv (.inl (ab x) :: r) M
  | _ => False
def s_i2l (κ : KT) : KT := fun lv st M => match st with
  | .inl x :: r => κ lv (.inr (.inl x.toInt64) :: r) M
  | _ => False
def s_l2i (κ : KT) : KT := fun lv st M => match st with
  | .inr (.inl x) :: r => κ lv (.inl x.toInt32 :: r) M
  | _ => False
def c1 : mV → Prop
  | .inr (.inl _) => False
  | _ => True
def s_dup (κ : KT) : KT := fun lv st M => match st with
  | v :: r => c1 v ∧ κ lv (v :: v :: r) M
  | _ => False
def s_dup2 (κ : KT) : KT := fun lv st M => match st with
  | v :: w :: r => (c1 v ∧ c1 w) ∧ κ lv (v :: w :: v :: w :: r) M
  | _ => False
def s_pop (κ : KT) : KT := fun lv st M => match st with
  | v :: r => c1 v ∧ κ lv r M
  | _ => False
def s_if (c : Int32 → Prop) (κt κf : KT) : KT := fun lv st M => match st with
  | .inl x :: r => (c x → κt lv r M) ∧ (¬ c x → κf lv r M)
  | _ => False
def s_icmp (c : Int32 → Int32 → Prop) (κt κf : KT) : KT := fun lv st M => match st with
  | .inl y :: .inl x :: r => (c x y → κt lv r M) ∧ (¬ c x y → κf lv r M)
  | _ => False
def s_geti (kd j : Nat) (κ : KT) : KT := fun lv st M => match st with
  | .inr (.inr (k2, k)) :: r => k2 = kd ∧ κ lv (.inl (M.1 k j) :: r) M
  | _ => False
def s_getl (kd : Nat) (κ : KT) : KT := fun lv st M => match st with
  | .inr (.inr (k2, k)) :: r => k2 = kd ∧ κ lv (.inr (.inl (M.2 k)) :: r) M
  | _ => False
def s_getr (kd kt : Nat) (f : Nat → Nat) (κ : KT) : KT := fun lv st M => match st with
  | .inr (.inr (k2, k)) :: r => k2 = kd ∧ κ lv (.inr (.inr (kt, f k)) :: r) M
  | _ => False
def s_puti (kd j : Nat) (κ : KT) : KT := fun lv st M => match st with
  | .inl v :: .inr (.inr (k2, k)) :: r => k2 = kd ∧ κ lv r (mset M k j v)
  | _ => False
def s_putz (kd j : Nat) (κ : KT) : KT := fun lv st M => match st with
  | .inl v :: .inr (.inr (k2, k)) :: r => k2 = kd ∧ (v = 0 ∨ v = 1) ∧ κ lv r (mset M k j v)
  | _ => False
def s_putl (kd : Nat) (κ : KT) : KT := fun lv st M => match st with
  | .inr (.inl v) :: .inr (.inr (k2, k)) :: r => k2 = kd ∧ κ lv r (lset M k v)
  | _ => False
def s_iald (κ : KT) : KT := fun lv st M => match st with
  | .inl i :: .inr (.inr (k2, k)) :: r => k2 = 13 ∧ vp_in i (ln k) ∧ κ lv (.inl (M.1 k i.toNatClampNeg) :: r) M
  | _ => False
def s_zald (κ : KT) : KT := fun lv st M => match st with
  | .inl i :: .inr (.inr (k2, k)) :: r => k2 = 14 ∧ vp_in i (ln k) ∧ κ lv (.inl (M.1 k i.toNatClampNeg) :: r) M
  | _ => False
def s_iast (κ : KT) : KT := fun lv st M => match st with
  | .inl x :: .inl i :: .inr (.inr (k2, k)) :: r => k2 = 13 ∧ vp_in i (ln k) ∧ κ lv r (mset M k i.toNatClampNeg x)
  | _ => False
def s_zast (κ : KT) : KT := fun lv st M => match st with
  | .inl x :: .inl i :: .inr (.inr (k2, k)) :: r => k2 = 14 ∧ vp_in i (ln k) ∧ κ lv r (mset M k i.toNatClampNeg (x &&& 1))
  | _ => False
def s_aaldS (κ : KT) : KT := fun lv st M => match st with
  | .inl i :: .inr (.inr (k2, k)) :: r => k2 = 15 ∧ vp_in i (ln k) ∧ κ lv (.inr (.inr (8, k + 1 + 7 * i.toNatClampNeg)) :: r) M
  | _ => False
def s_aaldU (κ : KT) : KT := fun lv st M => match st with
  | .inl i :: .inr (.inr (k2, k)) :: r => k2 = 16 ∧ vp_in i (ln k) ∧ κ lv (.inr (.inr (10, k + 1 + i.toNatClampNeg)) :: r) M
  | _ => False
def fcF (n : Nat) : Int32 := ([1, 1, 2, 6, 24, 120] : List Int32).getD n 0
def s_gets (κ : KT) : KT := fun lv st M => κ lv (.inr (.inr (17, 178)) :: st) M
def s_tald (κ : KT) : KT := fun lv st M => match st with
  | .inl i :: .inr (.inr (k2, k)) :: r => (k2 = 17 ∧ k = 178) ∧ vp_in i 6 ∧ κ lv (.inl (fcF i.toNatClampNeg) :: r) M
  | _ => False
def tsw (x : Int32) (lv : LV) (r : List mV) (M : mM) : Int → List KT → Prop
  | _, [] => True
  | lo, κ :: ks => (x.toInt = lo → κ lv r M) ∧ tsw x lv r M (lo + 1) ks
def s_tsw (lo hi : Int) (ks : List KT) (κd : KT) : KT := fun lv st M => match st with
  | .inl x :: r => ((x.toInt < lo ∨ hi < x.toInt) → κd lv r M) ∧ tsw x lv r M lo ks
  | _ => False
def s_iret (Q : Option mV → mM → Prop) : KT := fun _ st M => match st with
  | [.inl x] => Q (some (.inl x)) M
  | _ => False
def s_zret (Q : Option mV → mM → Prop) : KT := fun _ st M => match st with
  | [.inl x] => (x = 0 ∨ x = 1) ∧ Q (some (.inl x)) M
  | _ => False
def s_lret (Q : Option mV → mM → Prop) : KT := fun _ st M => match st with
  | [.inr (.inl x)] => Q (some (.inr (.inl x))) M
  | _ => False
def s_aret (Q : Option mV → mM → Prop) : KT := fun _ st M => match st with
  | [.inr (.inr x)] => Q (some (.inr (.inr x))) M
  | _ => False
def s_vret (Q : Option mV → mM → Prop) : KT := fun _ st M => match st with
  | [] => Q none M
  | _ => False
def pushR : Option mV → List mV → List mV
  | none, r => r
  | some v, r => v :: r
def s_callV (kd n : Nat) (pre : List mV → mM → Prop) (fn : List mV → mM → Option mV × mM) (κ : KT) : KT := fun lv st M => match (st.take (n + 1)).reverse with
  | .inr (.inr (k2, k)) :: as => k2 = kd ∧ as.length = n ∧ csum (st.drop (n + 1)) ≤ 8 ∧ pre (.inr (.inr (kd, k)) :: as) M ∧ κ lv (pushR (fn (.inr (.inr (kd, k)) :: as) M).1 (st.drop (n + 1))) (fn (.inr (.inr (kd, k)) :: as) M).2
  | _ => False
def s_callS (n : Nat) (pre : List mV → mM → Prop) (fn : List mV → mM → Option mV × mM) (κ : KT) : KT := fun lv st M => n ≤ st.length ∧ csum (st.drop n) ≤ 8 ∧ pre (st.take n).reverse M ∧ κ lv (pushR (fn (st.take n).reverse M).1 (st.drop n)) (fn (st.take n).reverse M).2
/-- at a label: the locals that are alive there -/
def keepL : List Bool → LV → LV
  | true :: b, v :: r => v :: keepL b r
  | false :: b, _ :: r => none :: keepL b r
  | _, _ => []
theorem keepL_le : ∀ (b : List Bool) (lv : LV), le1 (keepL b lv) lv
  | true :: b, none :: r => by simp only [keepL, le1]; exact keepL_le b r
  | true :: b, some v :: r => by simp only [keepL, le1]; exact ⟨trivial, keepL_le b r⟩
  | false :: b, _ :: r => by simp only [keepL, le1]; exact keepL_le b r
  | [], lv => by simp [keepL, le1]
  | true :: b, [] => by simp [keepL, le1]
  | false :: b, [] => by simp [keepL, le1]
def s_at (G : Nat → KT) (pc : Nat) (b : List Bool) : KT := fun lv st M => G pc (keepL b lv) st M
/-! the machine's side -/
def aA (ad : Nat → Nat) (sz : Nat) : Nat → Prop := fun q => (∃ k, k < 178 ∧ q = ad k) ∨ sz ≤ q
def tyL (ca : Nat → ClassId) : List (ClassId × FieldType) := [(ca 0, .int), (ca 1, .boolean), (ca 2, .object "FairBlocks$Standing"), (ca 3, .object "FairBlocks$User")]
def ZT (ad : Nat → Nat) (A : Nat → Prop) (U : State) (H : Heap) : Prop := va_Z "FairBlocks" "FACTORIALS" "[I" (.ref (ad 178)) A U H ∧ va_T .int (ad 178) 6 (fun j => .int (fcF j)) A U H
def CX (p : Program) (s : State) (m : MethodId) (args : Array Value) (meth : Method) (c : Code) (nL : Nat) (cc : ByteArray) (own : String) (D : va_G) (ca : Nat → ClassId) (ad : Nat → Nat) (A : Nat → Prop) : Prop :=
  p.tables.exec = Jvm.exec ∧ c.code = cc ∧ c.maxLocals = nL ∧ s.vm.findClass own = some m.cls ∧ (∀ w ∈ gw, w.before args s = true) ∧ va_K D vwCl (tyL ca) s ∧ (∀ M, va_D A (wo ca ad M)) ∧ ZT ad A s s.heap ∧ (∀ w ∈ nwL, va_Nw w s) ∧ meth.locks = false ∧ (∀ q : Nat, s.heap.size ≤ q → A q)
def Gd (p : Program) (l : Launch) (e : Env) (R : Room) (s : State) (m : MethodId) (args : Array Value) (below : List Frame) (meth : Method) (c : Code) (nL : Nat) (D : va_G) (ca : Nat → ClassId) (ad : Nat → Nat) (A : Nat → Prop) (nc ns : Nat) (Qf : State → Prop) (pc : Nat) (lv : LV) (st : List mV) (M : mM) : Prop :=
  ∀ (H : Heap) (locs : List Loc) (ls : Array Slot), va_P D vwCl (wo ca ad M) H → va_S A s.heap H locs → lv_has ls nL (toL ad 0 lv) → (∀ v ∈ lv, okO v) → (∀ v ∈ st, okV v) → W p l e R s m args below meth c H locs nc ns Qf (F0 m pc ls (st.map (en ad)))
/-- what a field's link says of it: its class, its place, its kind -/
def FLk (own : String) (idx kd j ty : Nat) : Prop := ∃ (C : String) (T : u_T) (N : Nat), vwCl[kd]? = some (C, T, N) ∧ (∀ w ∈ u_ws C T N, w ∈ gw) ∧ j < N ∧ Cond.fieldLink own idx (T j).1 (T j).2.1 (T j).2.2.1 ∈ gw ∧ kd < 13 ∧ (fTL.getD kd [])[j]? = some ty
def FPk (own : String) (idx kd j ty : Nat) (ft : FieldType) : Prop := ∃ (C : String) (T : u_T) (N : Nat) (ty0 : Nat → FieldType), vwCl[kd]? = some (C, T, N) ∧ (∀ w ∈ u_ws C T N, w ∈ gw) ∧ j < N ∧ Cond.fieldLink own idx (T j).1 (T j).2.1 (T j).2.2.1 ∈ gw ∧ kd < 13 ∧ (fTL.getD kd [])[j]? = some ty ∧ (∀ k, k < N → parseFieldDescriptor (T k).2.2.1 = some (ty0 k)) ∧ (∀ a, a < N → ∀ b, b < N → a ≠ b → (T a).2.1 ≠ (T b).2.1) ∧ (T j).2.2.2 = false ∧ parseFieldDescriptor (T j).2.2.1 = some ft
section MS
variable {p : Program} {l : Launch} {e : Env} {R : Room} {s : State} {m : MethodId} {args : Array Value} {below : List Frame} {meth : Method} {c : Code} {nL : Nat} {cc : ByteArray} {own : String} {D : va_G} {ca : Nat → ClassId} {ad : Nat → Nat} {A : Nat → Prop} {nc ns : Nat} {Qf : State → Prop} {pc : Nat} {κ κt κf : KT}
theorem sd_at {b : List Bool} : ∀ lv st M, s_at (Gd p l e R s m args below meth c nL D ca ad A nc ns Qf) pc b lv st M → Gd p l e R s m args below meth c nL D ca ad A nc ns Qf pc lv st M := fun lv st M h H locs ls hP hS hl ho hs => h H locs ls hP hS (le1_has (keepL_le b lv) hl) (le1_ok (keepL_le b lv) ho) hs
theorem sd_iconst (hX : CX p s m args meth c nL cc own D ca ad A) {n : Int} {v : Int32} (hd : decode cc pc = .ok (.iconst n, 1)) (hv : Int32.ofInt n = v) (k : ∀ lv st M, κ lv st M → Gd p l e R s m args below meth c nL D ca ad A nc ns Qf (pc + 1) lv st M) : ∀ lv st M, s_iconst v κ lv st M → Gd p l e R s m args below meth c nL D ca ad A nc ns Qf pc lv st M := fun lv st M h H locs ls hP hS hl ho hs =>
  lv_iconst hX.1 hX.2.1 hd hv (k lv _ M h H locs ls hP hS hl ho (List.forall_mem_cons.mpr ⟨trivial, hs⟩))
theorem sd_bipush (hX : CX p s m args meth c nL cc own D ca ad A) {n : Int} {v : Int32} (hd : decode cc pc = .ok (.bipush n, 2)) (hv : (Int8.ofInt n).toInt32 = v) (k : ∀ lv st M, κ lv st M → Gd p l e R s m args below meth c nL D ca ad A nc ns Qf (pc + 2) lv st M) : ∀ lv st M, s_iconst v κ lv st M → Gd p l e R s m args below meth c nL D ca ad A nc ns Qf pc lv st M := fun lv st M h H locs ls hP hS hl ho hs =>
  lv_bipush hX.1 hX.2.1 hd hv (k lv _ M h H locs ls hP hS hl ho (List.forall_mem_cons.mpr ⟨trivial, hs⟩))
theorem sd_sipush (hX : CX p s m args meth c nL cc own D ca ad A) {n : Int} {v : Int32} (hd : decode cc pc = .ok (.sipush n, 3)) (hv : (Int16.ofInt n).toInt32 = v) (k : ∀ lv st M, κ lv st M → Gd p l e R s m args below meth c nL D ca ad A nc ns Qf (pc + 3) lv st M) : ∀ lv st M, s_iconst v κ lv st M → Gd p l e R s m args below meth c nL D ca ad A nc ns Qf pc lv st M := fun lv st M h H locs ls hP hS hl ho hs =>
  lv_sipush hX.1 hX.2.1 hd hv (k lv _ M h H locs ls hP hS hl ho (List.forall_mem_cons.mpr ⟨trivial, hs⟩))
theorem sd_ldc (hX : CX p s m args meth c nL cc own D ca ad A) {idx : Nat} {v : Int32} (hw : Cond.constant own idx v ∈ gw) (hd : decode cc pc = .ok (.ldc idx, 2)) (k : ∀ lv st M, κ lv st M → Gd p l e R s m args below meth c nL D ca ad A nc ns Qf (pc + 2) lv st M) : ∀ lv st M, s_iconst v κ lv st M → Gd p l e R s m args below meth c nL D ca ad A nc ns Qf pc lv st M := fun lv st M h H locs ls hP hS hl ho hs =>
  lv_ldc hX.1 hX.2.1 hX.2.2.2.1 (hX.2.2.2.2.1 _ hw) hd (k lv _ M h H locs ls hP hS hl ho (List.forall_mem_cons.mpr ⟨trivial, hs⟩))
theorem sd_ldcw (hX : CX p s m args meth c nL cc own D ca ad A) {idx : Nat} {v : Int32} (hw : Cond.constant own idx v ∈ gw) (hd : decode cc pc = .ok (.ldc_w idx, 3)) (k : ∀ lv st M, κ lv st M → Gd p l e R s m args below meth c nL D ca ad A nc ns Qf (pc + 3) lv st M) : ∀ lv st M, s_iconst v κ lv st M → Gd p l e R s m args below meth c nL D ca ad A nc ns Qf pc lv st M := fun lv st M h H locs ls hP hS hl ho hs =>
  lv_ldcw hX.1 hX.2.1 hX.2.2.2.1 (hX.2.2.2.2.1 _ hw) hd (k lv _ M h H locs ls hP hS hl ho (List.forall_mem_cons.mpr ⟨trivial, hs⟩))
theorem sd_ldc2 (hX : CX p s m args meth c nL cc own D ca ad A) {idx : Nat} {v : Int64} (hw : Cond.constantLong own idx v ∈ gw) (hd : decode cc pc = .ok (.ldc2_w idx, 3)) (k : ∀ lv st M, κ lv st M → Gd p l e R s m args below meth c nL D ca ad A nc ns Qf (pc + 3) lv st M) : ∀ lv st M, s_lconst v κ lv st M → Gd p l e R s m args below meth c nL D ca ad A nc ns Qf pc lv st M := fun lv st M h H locs ls hP hS hl ho hs =>
  lv_ldc2 hX.1 hX.2.1 hX.2.2.2.1 (hX.2.2.2.2.1 _ hw) hd (k lv _ M h H locs ls hP hS hl ho (List.forall_mem_cons.mpr ⟨trivial, hs⟩))
theorem sd_lconst (hX : CX p s m args meth c nL cc own D ca ad A) {n : Fin 2} {v : Int64} (hd : decode cc pc = .ok (.lconst n, 1)) (hv : Int64.ofNat (n : Nat) = v) (k : ∀ lv st M, κ lv st M → Gd p l e R s m args below meth c nL D ca ad A nc ns Qf (pc + 1) lv st M) : ∀ lv st M, s_lconst v κ lv st M → Gd p l e R s m args below meth c nL D ca ad A nc ns Qf pc lv st M := fun lv st M h H locs ls hP hS hl ho hs =>
  lv_lconst hX.1 hX.2.1 hd hv (k lv _ M h H locs ls hP hS hl ho (List.forall_mem_cons.mpr ⟨trivial, hs⟩))
theorem sd_iload_n (hX : CX p s m args meth c nL cc own D ca ad A) {n : Fin 4} {i : Nat} (hd : decode cc pc = .ok (.iload_n n, 1)) (hi : (n : Nat) = i) (k : ∀ lv st M, κ lv st M → Gd p l e R s m args below meth c nL D ca ad A nc ns Qf (pc + 1) lv st M) : ∀ lv st M, s_iload i κ lv st M → Gd p l e R s m args below meth c nL D ca ad A nc ns Qf pc lv st M := by
  intro lv st M h H locs ls hP hS hl ho hs
  unfold s_iload at h
  split at h
  · next x hx => exact lv_iload_n hX.1 hX.2.1 hd hi (ls_of hl hx) (k lv _ M h H locs ls hP hS hl ho (List.forall_mem_cons.mpr ⟨trivial, hs⟩))
  · exact h.elim
theorem sd_iload (hX : CX p s m args meth c nL cc own D ca ad A) {i : Nat} (hd : decode cc pc = .ok (.iload i, 2)) (k : ∀ lv st M, κ lv st M → Gd p l e R s m args below meth c nL D ca ad A nc ns Qf (pc + 2) lv st M) : ∀ lv st M, s_iload i κ lv st M → Gd p l e R s m args below meth c nL D ca ad A nc ns Qf pc lv st M := by
  intro lv st M h H locs ls hP hS hl ho hs
  unfold s_iload at h
  split at h
  · next x hx => exact lv_iload hX.1 hX.2.1 hd (ls_of hl hx) (k lv _ M h H locs ls hP hS hl ho (List.forall_mem_cons.mpr ⟨trivial, hs⟩))
  · exact h.elim
theorem sd_lload_n (hX : CX p s m args meth c nL cc own D ca ad A) {n : Fin 4} {i : Nat} (hd : decode cc pc = .ok (.lload_n n, 1)) (hi : (n : Nat) = i) (k : ∀ lv st M, κ lv st M → Gd p l e R s m args below meth c nL D ca ad A nc ns Qf (pc + 1) lv st M) : ∀ lv st M, s_lload i κ lv st M → Gd p l e R s m args below meth c nL D ca ad A nc ns Qf pc lv st M := by
  intro lv st M h H locs ls hP hS hl ho hs
  unfold s_lload at h
  split at h
  · next x hx => exact lv_lload_n hX.1 hX.2.1 hd hi (ls_of hl hx) (k lv _ M h H locs ls hP hS hl ho (List.forall_mem_cons.mpr ⟨trivial, hs⟩))
  · exact h.elim
theorem sd_lload (hX : CX p s m args meth c nL cc own D ca ad A) {i : Nat} (hd : decode cc pc = .ok (.lload i, 2)) (k : ∀ lv st M, κ lv st M → Gd p l e R s m args below meth c nL D ca ad A nc ns Qf (pc + 2) lv st M) : ∀ lv st M, s_lload i κ lv st M → Gd p l e R s m args below meth c nL D ca ad A nc ns Qf pc lv st M := by
  intro lv st M h H locs ls hP hS hl ho hs
  unfold s_lload at h
  split at h
  · next x hx => exact lv_lload hX.1 hX.2.1 hd (ls_of hl hx) (k lv _ M h H locs ls hP hS hl ho (List.forall_mem_cons.mpr ⟨trivial, hs⟩))
  · exact h.elim
theorem sd_aload_n (hX : CX p s m args meth c nL cc own D ca ad A) {n : Fin 4} {i : Nat} (hd : decode cc pc = .ok (.aload_n n, 1)) (hi : (n : Nat) = i) (k : ∀ lv st M, κ lv st M → Gd p l e R s m args below meth c nL D ca ad A nc ns Qf (pc + 1) lv st M) : ∀ lv st M, s_aload i κ lv st M → Gd p l e R s m args below meth c nL D ca ad A nc ns Qf pc lv st M := by
  intro lv st M h H locs ls hP hS hl ho hs
  unfold s_aload at h
  split at h
  · next x hx => exact lv_aload_n hX.1 hX.2.1 hd hi (ls_of hl hx) (k lv _ M h H locs ls hP hS hl ho (List.forall_mem_cons.mpr ⟨(ok_of ho hx), hs⟩))
  · exact h.elim
theorem sd_aload (hX : CX p s m args meth c nL cc own D ca ad A) {i : Nat} (hd : decode cc pc = .ok (.aload i, 2)) (k : ∀ lv st M, κ lv st M → Gd p l e R s m args below meth c nL D ca ad A nc ns Qf (pc + 2) lv st M) : ∀ lv st M, s_aload i κ lv st M → Gd p l e R s m args below meth c nL D ca ad A nc ns Qf pc lv st M := by
  intro lv st M h H locs ls hP hS hl ho hs
  unfold s_aload at h
  split at h
  · next x hx => exact lv_aload hX.1 hX.2.1 hd (ls_of hl hx) (k lv _ M h H locs ls hP hS hl ho (List.forall_mem_cons.mpr ⟨(ok_of ho hx), hs⟩))
  · exact h.elim
theorem sd_istore_n (hX : CX p s m args meth c nL cc own D ca ad A) {n : Fin 4} {i : Nat} (hn : i < nL) (hd : decode cc pc = .ok (.istore_n n, 1)) (hi : (n : Nat) = i) (k : ∀ lv st M, κ lv st M → Gd p l e R s m args below meth c nL D ca ad A nc ns Qf (pc + 1) lv st M) : ∀ lv st M, s_istore i κ lv st M → Gd p l e R s m args below meth c nL D ca ad A nc ns Qf pc lv st M := by
  intro lv st M h H locs ls hP hS hl ho hs
  unfold s_istore at h
  split at h
  · next x r => exact lv_istore_n hX.1 hX.2.1 hd hi hl hn rfl fun ls2 hl2 => k _ _ M h.2 H locs ls2 hP hS (has_set (v := .inl x) h.1 hl2) (ok_set ho trivial) (fun v hv => hs v (List.mem_cons_of_mem _ hv))
  · exact h.elim
theorem sd_istore (hX : CX p s m args meth c nL cc own D ca ad A) {i : Nat} (hn : i < nL) (hd : decode cc pc = .ok (.istore i, 2)) (k : ∀ lv st M, κ lv st M → Gd p l e R s m args below meth c nL D ca ad A nc ns Qf (pc + 2) lv st M) : ∀ lv st M, s_istore i κ lv st M → Gd p l e R s m args below meth c nL D ca ad A nc ns Qf pc lv st M := by
  intro lv st M h H locs ls hP hS hl ho hs
  unfold s_istore at h
  split at h
  · next x r => exact lv_istore hX.1 hX.2.1 hd hl hn rfl fun ls2 hl2 => k _ _ M h.2 H locs ls2 hP hS (has_set (v := .inl x) h.1 hl2) (ok_set ho trivial) (fun v hv => hs v (List.mem_cons_of_mem _ hv))
  · exact h.elim
theorem sd_astore_n (hX : CX p s m args meth c nL cc own D ca ad A) {n : Fin 4} {i : Nat} (hn : i < nL) (hd : decode cc pc = .ok (.astore_n n, 1)) (hi : (n : Nat) = i) (k : ∀ lv st M, κ lv st M → Gd p l e R s m args below meth c nL D ca ad A nc ns Qf (pc + 1) lv st M) : ∀ lv st M, s_astore i κ lv st M → Gd p l e R s m args below meth c nL D ca ad A nc ns Qf pc lv st M := by
  intro lv st M h H locs ls hP hS hl ho hs
  unfold s_astore at h
  split at h
  · next x r => exact lv_astore_n hX.1 hX.2.1 hd hi hl hn rfl fun ls2 hl2 => k _ _ M h.2 H locs ls2 hP hS (has_set (v := .inr (.inr x)) h.1 hl2) (ok_set ho (hs _ List.mem_cons_self)) (fun v hv => hs v (List.mem_cons_of_mem _ hv))
  · exact h.elim
theorem sd_astore (hX : CX p s m args meth c nL cc own D ca ad A) {i : Nat} (hn : i < nL) (hd : decode cc pc = .ok (.astore i, 2)) (k : ∀ lv st M, κ lv st M → Gd p l e R s m args below meth c nL D ca ad A nc ns Qf (pc + 2) lv st M) : ∀ lv st M, s_astore i κ lv st M → Gd p l e R s m args below meth c nL D ca ad A nc ns Qf pc lv st M := by
  intro lv st M h H locs ls hP hS hl ho hs
  unfold s_astore at h
  split at h
  · next x r => exact lv_astore hX.1 hX.2.1 hd hl hn rfl fun ls2 hl2 => k _ _ M h.2 H locs ls2 hP hS (has_set (v := .inr (.inr x)) h.1 hl2) (ok_set ho (hs _ List.mem_cons_self)) (fun v hv => hs v (List.mem_cons_of_mem _ hv))
  · exact h.elim
theorem sd_lstore_n (hX : CX p s m args meth c nL cc own D ca ad A) {n : Fin 4} {i : Nat} (hn : i + 1 < nL) (hd : decode cc pc = .ok (.lstore_n n, 1)) (hi : (n : Nat) = i) (k : ∀ lv st M, κ lv st M → Gd p l e R s m args below meth c nL D ca ad A nc ns Qf (pc + 1) lv st M) : ∀ lv st M, s_lstore i κ lv st M → Gd p l e R s m args below meth c nL D ca ad A nc ns Qf pc lv st M := by
  intro lv st M h H locs ls hP hS hl ho hs
  unfold s_lstore at h
  split at h
  · next x r => exact lv_lstore_n hX.1 hX.2.1 hd hi hl hn rfl fun ls2 hl2 => k _ _ M h.2 H locs ls2 hP hS (has_setL (v := .inr (.inl x)) h.1 hl2) (ok_setN (ok_set ho trivial)) (fun v hv => hs v (List.mem_cons_of_mem _ hv))
  · exact h.elim
theorem sd_lstore (hX : CX p s m args meth c nL cc own D ca ad A) {i : Nat} (hn : i + 1 < nL) (hd : decode cc pc = .ok (.lstore i, 2)) (k : ∀ lv st M, κ lv st M → Gd p l e R s m args below meth c nL D ca ad A nc ns Qf (pc + 2) lv st M) : ∀ lv st M, s_lstore i κ lv st M → Gd p l e R s m args below meth c nL D ca ad A nc ns Qf pc lv st M := by
  intro lv st M h H locs ls hP hS hl ho hs
  unfold s_lstore at h
  split at h
  · next x r => exact lv_lstore hX.1 hX.2.1 hd hl hn rfl fun ls2 hl2 => k _ _ M h.2 H locs ls2 hP hS (has_setL (v := .inr (.inl x)) h.1 hl2) (ok_setN (ok_set ho trivial)) (fun v hv => hs v (List.mem_cons_of_mem _ hv))
  · exact h.elim
theorem sd_iinc (hX : CX p s m args meth c nL cc own D ca ad A) {i : Nat} {n : Int} {v : Int32} (hi : i < nL) (hd : decode cc pc = .ok (.iinc i n, 3)) (hv : Int32.ofInt n = v) (k : ∀ lv st M, κ lv st M → Gd p l e R s m args below meth c nL D ca ad A nc ns Qf (pc + 3) lv st M) : ∀ lv st M, s_iinc i v κ lv st M → Gd p l e R s m args below meth c nL D ca ad A nc ns Qf pc lv st M := by
  intro lv st M h H locs ls hP hS hl ho hs
  unfold s_iinc at h
  split at h
  · next x hx =>
    obtain ⟨j, hj⟩ := List.getElem?_of_mem ((mem_toL (ad := ad) lv 0).mpr ⟨i, .inl x, getD_some hx, rfl⟩)
    rw [Nat.zero_add] at hj
    refine lv_iinc (k := j) (x := x) hX.1 hX.2.1 hd hl hj (by rw [hv]) hi rfl fun ls' hl' => ?_
    exact k _ _ M h.2 H locs ls' hP hS (has_set (v := .inl (x + v)) h.1 hl') (ok_set ho trivial) hs
  · exact h.elim
theorem sd_iadd (hX : CX p s m args meth c nL cc own D ca ad A) (hd : decode cc pc = .ok (.iadd, 1)) (k : ∀ lv st M, κ lv st M → Gd p l e R s m args below meth c nL D ca ad A nc ns Qf (pc + 1) lv st M) : ∀ lv st M, s_bin (fun x y => x + y) κ lv st M → Gd p l e R s m args below meth c nL D ca ad A nc ns Qf pc lv st M := by
  intro lv st M h H locs ls hP hS hl ho hs
  unfold s_bin at h
  split at h
  · next y x r => exact lv_iadd hX.1 hX.2.1 hd (k lv _ M h H locs ls hP hS hl ho (List.forall_mem_cons.mpr ⟨trivial, (fun v hv => hs v (List.mem_cons_of_mem _ (List.mem_cons_of_mem _ hv)))⟩))
  · exact h.elim
theorem sd_isub (hX : CX p s m args meth c nL cc own D ca ad A) (hd : decode cc pc = .ok (.isub, 1)) (k : ∀ lv st M, κ lv st M → Gd p l e R s m args below meth c nL D ca ad A nc ns Qf (pc + 1) lv st M) : ∀ lv st M, s_bin (fun x y => x - y) κ lv st M → Gd p l e R s m args below meth c nL D ca ad A nc ns Qf pc lv st M := by
  intro lv st M h H locs ls hP hS hl ho hs
  unfold s_bin at h
  split at h
  · next y x r => exact lv_isub hX.1 hX.2.1 hd (k lv _ M h H locs ls hP hS hl ho (List.forall_mem_cons.mpr ⟨trivial, (fun v hv => hs v (List.mem_cons_of_mem _ (List.mem_cons_of_mem _ hv)))⟩))
  · exact h.elim
theorem sd_imul (hX : CX p s m args meth c nL cc own D ca ad A) (hd : decode cc pc = .ok (.imul, 1)) (k : ∀ lv st M, κ lv st M → Gd p l e R s m args below meth c nL D ca ad A nc ns Qf (pc + 1) lv st M) : ∀ lv st M, s_bin (fun x y => x * y) κ lv st M → Gd p l e R s m args below meth c nL D ca ad A nc ns Qf pc lv st M := by
  intro lv st M h H locs ls hP hS hl ho hs
  unfold s_bin at h
  split at h
  · next y x r => exact lv_imul hX.1 hX.2.1 hd (k lv _ M h H locs ls hP hS hl ho (List.forall_mem_cons.mpr ⟨trivial, (fun v hv => hs v (List.mem_cons_of_mem _ (List.mem_cons_of_mem _ hv)))⟩))
  · exact h.elim
theorem sd_iand (hX : CX p s m args meth c nL cc own D ca ad A) (hd : decode cc pc = .ok (.iand, 1)) (k : ∀ lv st M, κ lv st M → Gd p l e R s m args below meth c nL D ca ad A nc ns Qf (pc + 1) lv st M) : ∀ lv st M, s_bin (fun x y => x &&& y) κ lv st M → Gd p l e R s m args below meth c nL D ca ad A nc ns Qf pc lv st M := by
  intro lv st M h H locs ls hP hS hl ho hs
  unfold s_bin at h
  split at h
  · next y x r => exact lv_iand hX.1 hX.2.1 hd (k lv _ M h H locs ls hP hS hl ho (List.forall_mem_cons.mpr ⟨trivial, (fun v hv => hs v (List.mem_cons_of_mem _ (List.mem_cons_of_mem _ hv)))⟩))
  · exact h.elim
theorem sd_ior (hX : CX p s m args meth c nL cc own D ca ad A) (hd : decode cc pc = .ok (.ior, 1)) (k : ∀ lv st M, κ lv st M → Gd p l e R s m args below meth c nL D ca ad A nc ns Qf (pc + 1) lv st M) : ∀ lv st M, s_bin (fun x y => x ||| y) κ lv st M → Gd p l e R s m args below meth c nL D ca ad A nc ns Qf pc lv st M := by
  intro lv st M h H locs ls hP hS hl ho hs
  unfold s_bin at h
  split at h
  · next y x r => exact lv_ior hX.1 hX.2.1 hd (k lv _ M h H locs ls hP hS hl ho (List.forall_mem_cons.mpr ⟨trivial, (fun v hv => hs v (List.mem_cons_of_mem _ (List.mem_cons_of_mem _ hv)))⟩))
  · exact h.elim
theorem sd_ixor (hX : CX p s m args meth c nL cc own D ca ad A) (hd : decode cc pc = .ok (.ixor, 1)) (k : ∀ lv st M, κ lv st M → Gd p l e R s m args below meth c nL D ca ad A nc ns Qf (pc + 1) lv st M) : ∀ lv st M, s_bin (fun x y => x ^^^ y) κ lv st M → Gd p l e R s m args below meth c nL D ca ad A nc ns Qf pc lv st M := by
  intro lv st M h H locs ls hP hS hl ho hs
  unfold s_bin at h
  split at h
  · next y x r => exact lv_ixor hX.1 hX.2.1 hd (k lv _ M h H locs ls hP hS hl ho (List.forall_mem_cons.mpr ⟨trivial, (fun v hv => hs v (List.mem_cons_of_mem _ (List.mem_cons_of_mem _ hv)))⟩))
  · exact h.elim
theorem sd_ishl (hX : CX p s m args meth c nL cc own D ca ad A) (hd : decode cc pc = .ok (.ishl, 1)) (k : ∀ lv st M, κ lv st M → Gd p l e R s m args below meth c nL D ca ad A nc ns Qf (pc + 1) lv st M) : ∀ lv st M, s_bin (fun x y => x <<< (y &&& 31)) κ lv st M → Gd p l e R s m args below meth c nL D ca ad A nc ns Qf pc lv st M := by
  intro lv st M h H locs ls hP hS hl ho hs
  unfold s_bin at h
  split at h
  · next y x r => exact lv_ishl hX.1 hX.2.1 hd (k lv _ M h H locs ls hP hS hl ho (List.forall_mem_cons.mpr ⟨trivial, (fun v hv => hs v (List.mem_cons_of_mem _ (List.mem_cons_of_mem _ hv)))⟩))
  · exact h.elim
theorem sd_ishr (hX : CX p s m args meth c nL cc own D ca ad A) (hd : decode cc pc = .ok (.ishr, 1)) (k : ∀ lv st M, κ lv st M → Gd p l e R s m args below meth c nL D ca ad A nc ns Qf (pc + 1) lv st M) : ∀ lv st M, s_bin (fun x y => x >>> (y &&& 31)) κ lv st M → Gd p l e R s m args below meth c nL D ca ad A nc ns Qf pc lv st M := by
  intro lv st M h H locs ls hP hS hl ho hs
  unfold s_bin at h
  split at h
  · next y x r => exact lv_ishr hX.1 hX.2.1 hd (k lv _ M h H locs ls hP hS hl ho (List.forall_mem_cons.mpr ⟨trivial, (fun v hv => hs v (List.mem_cons_of_mem _ (List.mem_cons_of_mem _ hv)))⟩))
  · exact h.elim
theorem sd_iushr (hX : CX p s m args meth c nL cc own D ca ad A) (hd : decode cc pc = .ok (.iushr, 1)) (k : ∀ lv st M, κ lv st M → Gd p l e R s m args below meth c nL D ca ad A nc ns Qf (pc + 1) lv st M) : ∀ lv st M, s_bin (fun x y => (x.toUInt32 >>> (y.toUInt32 &&& Int32.toUInt32 31)).toInt32) κ lv st M → Gd p l e R s m args below meth c nL D ca ad A nc ns Qf pc lv st M := by
  intro lv st M h H locs ls hP hS hl ho hs
  unfold s_bin at h
  split at h
  · next y x r => exact lv_iushr hX.1 hX.2.1 hd rfl (k lv _ M h H locs ls hP hS hl ho (List.forall_mem_cons.mpr ⟨trivial, (fun v hv => hs v (List.mem_cons_of_mem _ (List.mem_cons_of_mem _ hv)))⟩))
  · exact h.elim
theorem sd_idiv (hX : CX p s m args meth c nL cc own D ca ad A) (hd : decode cc pc = .ok (.idiv, 1)) (k : ∀ lv st M, κ lv st M → Gd p l e R s m args below meth c nL D ca ad A nc ns Qf (pc + 1) lv st M) : ∀ lv st M, s_binG (fun x y => x / y) κ lv st M → Gd p l e R s m args below meth c nL D ca ad A nc ns Qf pc lv st M := by
  intro lv st M h H locs ls hP hS hl ho hs
  unfold s_binG at h
  split at h
  · next y x r => exact lv_idiv hX.1 hX.2.1 hd h.1 (k lv _ M h.2 H locs ls hP hS hl ho (List.forall_mem_cons.mpr ⟨trivial, (fun v hv => hs v (List.mem_cons_of_mem _ (List.mem_cons_of_mem _ hv)))⟩))
  · exact h.elim
theorem sd_irem (hX : CX p s m args meth c nL cc own D ca ad A) (hd : decode cc pc = .ok (.irem, 1)) (k : ∀ lv st M, κ lv st M → Gd p l e R s m args below meth c nL D ca ad A nc ns Qf (pc + 1) lv st M) : ∀ lv st M, s_binG (fun x y => x - x / y * y) κ lv st M → Gd p l e R s m args below meth c nL D ca ad A nc ns Qf pc lv st M := by
  intro lv st M h H locs ls hP hS hl ho hs
  unfold s_binG at h
  split at h
  · next y x r => exact lv_irem hX.1 hX.2.1 hd h.1 (k lv _ M h.2 H locs ls hP hS hl ho (List.forall_mem_cons.mpr ⟨trivial, (fun v hv => hs v (List.mem_cons_of_mem _ (List.mem_cons_of_mem _ hv)))⟩))
  · exact h.elim
theorem sd_ineg (hX : CX p s m args meth c nL cc own D ca ad A) (hd : decode cc pc = .ok (.ineg, 1)) (k : ∀ lv st M, κ lv st M → Gd p l e R s m args below meth c nL D ca ad A nc ns Qf (pc + 1) lv st M) : ∀ lv st M, s_un (fun x => -x) κ lv st M → Gd p l e R s m args below meth c nL D ca ad A nc ns Qf pc lv st M := by
  intro lv st M h H locs ls hP hS hl ho hs
  unfold s_un at h
  split at h
  · next x r => exact lv_ineg hX.1 hX.2.1 hd (k lv _ M h H locs ls hP hS hl ho (List.forall_mem_cons.mpr ⟨trivial, (fun v hv => hs v (List.mem_cons_of_mem _ hv))⟩))
  · exact h.elim
theorem sd_ladd (hX : CX p s m args meth c nL cc own D ca ad A) (hd : decode cc pc = .ok (.ladd, 1)) (k : ∀ lv st M, κ lv st M → Gd p l e R s m args below meth c nL D ca ad A nc ns Qf (pc + 1) lv st M) : ∀ lv st M, s_lbin (fun x y => x + y) κ lv st M → Gd p l e R s m args below meth c nL D ca ad A nc ns Qf pc lv st M := by
  intro lv st M h H locs ls hP hS hl ho hs
  unfold s_lbin at h
  split at h
  · next y x r => exact lv_ladd hX.1 hX.2.1 hd (k lv _ M h H locs ls hP hS hl ho (List.forall_mem_cons.mpr ⟨trivial, (fun v hv => hs v (List.mem_cons_of_mem _ (List.mem_cons_of_mem _ hv)))⟩))
  · exact h.elim
theorem sd_lsub (hX : CX p s m args meth c nL cc own D ca ad A) (hd : decode cc pc = .ok (.lsub, 1)) (k : ∀ lv st M, κ lv st M → Gd p l e R s m args below meth c nL D ca ad A nc ns Qf (pc + 1) lv st M) : ∀ lv st M, s_lbin (fun x y => x - y) κ lv st M → Gd p l e R s m args below meth c nL D ca ad A nc ns Qf pc lv st M := by
  intro lv st M h H locs ls hP hS hl ho hs
  unfold s_lbin at h
  split at h
  · next y x r => exact lv_lsub hX.1 hX.2.1 hd (k lv _ M h H locs ls hP hS hl ho (List.forall_mem_cons.mpr ⟨trivial, (fun v hv => hs v (List.mem_cons_of_mem _ (List.mem_cons_of_mem _ hv)))⟩))
  · exact h.elim
theorem sd_lmul (hX : CX p s m args meth c nL cc own D ca ad A) (hd : decode cc pc = .ok (.lmul, 1)) (k : ∀ lv st M, κ lv st M → Gd p l e R s m args below meth c nL D ca ad A nc ns Qf (pc + 1) lv st M) : ∀ lv st M, s_lbin (fun x y => x * y) κ lv st M → Gd p l e R s m args below meth c nL D ca ad A nc ns Qf pc lv st M := by
  intro lv st M h H locs ls hP hS hl ho hs
  unfold s_lbin at h
  split at h
  · next y x r => exact lv_lmul hX.1 hX.2.1 hd (k lv _ M h H locs ls hP hS hl ho (List.forall_mem_cons.mpr ⟨trivial, (fun v hv => hs v (List.mem_cons_of_mem _ (List.mem_cons_of_mem _ hv)))⟩))
  · exact h.elim
theorem sd_land (hX : CX p s m args meth c nL cc own D ca ad A) (hd : decode cc pc = .ok (.land, 1)) (k : ∀ lv st M, κ lv st M → Gd p l e R s m args below meth c nL D ca ad A nc ns Qf (pc + 1) lv st M) : ∀ lv st M, s_lbin (fun x y => x &&& y) κ lv st M → Gd p l e R s m args below meth c nL D ca ad A nc ns Qf pc lv st M := by
  intro lv st M h H locs ls hP hS hl ho hs
  unfold s_lbin at h
  split at h
  · next y x r => exact lv_land hX.1 hX.2.1 hd (k lv _ M h H locs ls hP hS hl ho (List.forall_mem_cons.mpr ⟨trivial, (fun v hv => hs v (List.mem_cons_of_mem _ (List.mem_cons_of_mem _ hv)))⟩))
  · exact h.elim
theorem sd_lor (hX : CX p s m args meth c nL cc own D ca ad A) (hd : decode cc pc = .ok (.lor, 1)) (k : ∀ lv st M, κ lv st M → Gd p l e R s m args below meth c nL D ca ad A nc ns Qf (pc + 1) lv st M) : ∀ lv st M, s_lbin (fun x y => x ||| y) κ lv st M → Gd p l e R s m args below meth c nL D ca ad A nc ns Qf pc lv st M := by
  intro lv st M h H locs ls hP hS hl ho hs
  unfold s_lbin at h
  split at h
  · next y x r => exact lv_lor hX.1 hX.2.1 hd (k lv _ M h H locs ls hP hS hl ho (List.forall_mem_cons.mpr ⟨trivial, (fun v hv => hs v (List.mem_cons_of_mem _ (List.mem_cons_of_mem _ hv)))⟩))
  · exact h.elim
theorem sd_ldiv (hX : CX p s m args meth c nL cc own D ca ad A) (hd : decode cc pc = .ok (.ldiv, 1)) (k : ∀ lv st M, κ lv st M → Gd p l e R s m args below meth c nL D ca ad A nc ns Qf (pc + 1) lv st M) : ∀ lv st M, s_lbinG (fun x y => x / y) κ lv st M → Gd p l e R s m args below meth c nL D ca ad A nc ns Qf pc lv st M := by
  intro lv st M h H locs ls hP hS hl ho hs
  unfold s_lbinG at h
  split at h
  · next y x r => exact lv_ldiv hX.1 hX.2.1 hd h.1 (k lv _ M h.2 H locs ls hP hS hl ho (List.forall_mem_cons.mpr ⟨trivial, (fun v hv => hs v (List.mem_cons_of_mem _ (List.mem_cons_of_mem _ hv)))⟩))
  · exact h.elim
theorem sd_lrem (hX : CX p s m args meth c nL cc own D ca ad A) (hd : decode cc pc = .ok (.lrem, 1)) (k : ∀ lv st M, κ lv st M → Gd p l e R s m args below meth c nL D ca ad A nc ns Qf (pc + 1) lv st M) : ∀ lv st M, s_lbinG (fun x y => x - x / y * y) κ lv st M → Gd p l e R s m args below meth c nL D ca ad A nc ns Qf pc lv st M := by
  intro lv st M h H locs ls hP hS hl ho hs
  unfold s_lbinG at h
  split at h
  · next y x r => exact lv_lrem hX.1 hX.2.1 hd h.1 (k lv _ M h.2 H locs ls hP hS hl ho (List.forall_mem_cons.mpr ⟨trivial, (fun v hv => hs v (List.mem_cons_of_mem _ (List.mem_cons_of_mem _ hv)))⟩))
  · exact h.elim
theorem sd_lshl (hX : CX p s m args meth c nL cc own D ca ad A) (hd : decode cc pc = .ok (.lshl, 1)) (k : ∀ lv st M, κ lv st M → Gd p l e R s m args below meth c nL D ca ad A nc ns Qf (pc + 1) lv st M) : ∀ lv st M, s_lsh (fun x y => x <<< (y.toInt64 &&& 63)) κ lv st M → Gd p l e R s m args below meth c nL D ca ad A nc ns Qf pc lv st M := by
  intro lv st M h H locs ls hP hS hl ho hs
  unfold s_lsh at h
  split at h
  · next y x r => exact lv_lshl hX.1 hX.2.1 hd rfl (k lv _ M h H locs ls hP hS hl ho (List.forall_mem_cons.mpr ⟨trivial, (fun v hv => hs v (List.mem_cons_of_mem _ (List.mem_cons_of_mem _ hv)))⟩))
  · exact h.elim
theorem sd_lushr (hX : CX p s m args meth c nL cc own D ca ad A) (hd : decode cc pc = .ok (.lushr, 1)) (k : ∀ lv st M, κ lv st M → Gd p l e R s m args below meth c nL D ca ad A nc ns Qf (pc + 1) lv st M) : ∀ lv st M, s_lsh (fun x y => (x.toUInt64 >>> (y.toInt64.toUInt64 &&& Int64.toUInt64 63)).toInt64) κ lv st M → Gd p l e R s m args below meth c nL D ca ad A nc ns Qf pc lv st M := by
  intro lv st M h H locs ls hP hS hl ho hs
  unfold s_lsh at h
  split at h
  · next y x r => exact lv_lushr hX.1 hX.2.1 hd rfl (k lv _ M h H locs ls hP hS hl ho (List.forall_mem_cons.mpr ⟨trivial, (fun v hv => hs v (List.mem_cons_of_mem _ (List.mem_cons_of_mem _ hv)))⟩))
  · exact h.elim
theorem sd_lcmp (hX : CX p s m args meth c nL cc own D ca ad A) (hd : decode cc pc = .ok (.lcmp, 1)) (k : ∀ lv st M, κ lv st M → Gd p l e R s m args below meth c nL D ca ad A nc ns Qf (pc + 1) lv st M) : ∀ lv st M, s_lcmp κ lv st M → Gd p l e R s m args below meth c nL D ca ad A nc ns Qf pc lv st M := by
  intro lv st M h H locs ls hP hS hl ho hs
  unfold s_lcmp at h
  split at h
  · next y x r => exact W.lcmp hX.1 hX.2.1 hd (k lv _ M h H locs ls hP hS hl ho (List.forall_mem_cons.mpr ⟨trivial, (fun v hv => hs v (List.mem_cons_of_mem _ (List.mem_cons_of_mem _ hv)))⟩))
  · exact h.elim
theorem sd_i2l (hX : CX p s m args meth c nL cc own D ca ad A) (hd : decode cc pc = .ok (.i2l, 1)) (k : ∀ lv st M, κ lv st M → Gd p l e R s m args below meth c nL D ca ad A nc ns Qf (pc + 1) lv st M) : ∀ lv st M, s_i2l κ lv st M → Gd p l e R s m args below meth c nL D ca ad A nc ns Qf pc lv st M := by
  intro lv st M h H locs ls hP hS hl ho hs
  unfold s_i2l at h
  split at h
  · next x r => exact lv_i2l hX.1 hX.2.1 hd rfl (k lv _ M h H locs ls hP hS hl ho (List.forall_mem_cons.mpr ⟨trivial, (fun v hv => hs v (List.mem_cons_of_mem _ hv))⟩))
  · exact h.elim
theorem sd_l2i (hX : CX p s m args meth c nL cc own D ca ad A) (hd : decode cc pc = .ok (.l2i, 1)) (k : ∀ lv st M, κ lv st M → Gd p l e R s m args below meth c nL D ca ad A nc ns Qf (pc + 1) lv st M) : ∀ lv st M, s_l2i κ lv st M → Gd p l e R s m args below meth c nL D ca ad A nc ns Qf pc lv st M := by
  intro lv st M h H locs ls hP hS hl ho hs
  unfold s_l2i at h
  split at h
  · next x r => exact lv_l2i hX.1 hX.2.1 hd rfl (k lv _ M h H locs ls hP hS hl ho (List.forall_mem_cons.mpr ⟨trivial, (fun v hv => hs v (List.mem_cons_of_mem _ hv))⟩))
  · exact h.elim
theorem c1_cat {v : mV} (h : c1 v) : (en ad v).category = 1 := by
  rcases v with x | x | q
  · rfl
  · exact h.elim
  · rfl
theorem sd_dup (hX : CX p s m args meth c nL cc own D ca ad A) (hd : decode cc pc = .ok (.dup, 1)) (k : ∀ lv st M, κ lv st M → Gd p l e R s m args below meth c nL D ca ad A nc ns Qf (pc + 1) lv st M) : ∀ lv st M, s_dup κ lv st M → Gd p l e R s m args below meth c nL D ca ad A nc ns Qf pc lv st M := by
  intro lv st M h H locs ls hP hS hl ho hs
  unfold s_dup at h
  split at h
  · next v r => exact lv_dup hX.1 hX.2.1 hd (c1_cat h.1) (k lv _ M h.2 H locs ls hP hS hl ho (List.forall_mem_cons.mpr ⟨hs _ List.mem_cons_self, hs⟩))
  · exact h.elim
theorem sd_dup2 (hX : CX p s m args meth c nL cc own D ca ad A) (hd : decode cc pc = .ok (.dup2, 1)) (k : ∀ lv st M, κ lv st M → Gd p l e R s m args below meth c nL D ca ad A nc ns Qf (pc + 1) lv st M) : ∀ lv st M, s_dup2 κ lv st M → Gd p l e R s m args below meth c nL D ca ad A nc ns Qf pc lv st M := by
  intro lv st M h H locs ls hP hS hl ho hs
  unfold s_dup2 at h
  split at h
  · next v w r => exact lv_dup2_11 hX.1 hX.2.1 hd (c1_cat h.1.1) (c1_cat h.1.2) (k lv _ M h.2 H locs ls hP hS hl ho (List.forall_mem_cons.mpr ⟨hs _ List.mem_cons_self, (List.forall_mem_cons.mpr ⟨hs _ (List.mem_cons_of_mem _ List.mem_cons_self), hs⟩)⟩))
  · exact h.elim
theorem sd_pop (hX : CX p s m args meth c nL cc own D ca ad A) (hd : decode cc pc = .ok (.pop, 1)) (k : ∀ lv st M, κ lv st M → Gd p l e R s m args below meth c nL D ca ad A nc ns Qf (pc + 1) lv st M) : ∀ lv st M, s_pop κ lv st M → Gd p l e R s m args below meth c nL D ca ad A nc ns Qf pc lv st M := by
  intro lv st M h H locs ls hP hS hl ho hs
  unfold s_pop at h
  split at h
  · next v r => exact lv_pop hX.1 hX.2.1 hd (c1_cat h.1) (k lv _ M h.2 H locs ls hP hS hl ho (fun v hv => hs v (List.mem_cons_of_mem _ hv)))
  · exact h.elim
theorem sd_if_eq (hX : CX p s m args meth c nL cc own D ca ad A) {off : Int} {tgt : Nat} (hd : decode cc pc = .ok (.ifCond .eq off, 3)) (ht : (pc : Int) + off = (tgt : Int)) (kt : ∀ lv st M, κt lv st M → Gd p l e R s m args below meth c nL D ca ad A nc ns Qf tgt lv st M) (kf : ∀ lv st M, κf lv st M → Gd p l e R s m args below meth c nL D ca ad A nc ns Qf (pc + 3) lv st M) : ∀ lv st M, s_if (fun x => x = 0) κt κf lv st M → Gd p l e R s m args below meth c nL D ca ad A nc ns Qf pc lv st M := by
  intro lv st M h H locs ls hP hS hl ho hs
  unfold s_if at h
  split at h
  · next x r => exact lv_if_eq hX.1 hX.2.1 hd ht (fun g => kt lv _ M (h.1 g) H locs ls hP hS hl ho (fun v hv => hs v (List.mem_cons_of_mem _ hv))) (fun g => kf lv _ M (h.2 g) H locs ls hP hS hl ho (fun v hv => hs v (List.mem_cons_of_mem _ hv)))
  · exact h.elim
theorem sd_if_lt (hX : CX p s m args meth c nL cc own D ca ad A) {off : Int} {tgt : Nat} (hd : decode cc pc = .ok (.ifCond .lt off, 3)) (ht : (pc : Int) + off = (tgt : Int)) (kt : ∀ lv st M, κt lv st M → Gd p l e R s m args below meth c nL D ca ad A nc ns Qf tgt lv st M) (kf : ∀ lv st M, κf lv st M → Gd p l e R s m args below meth c nL D ca ad A nc ns Qf (pc + 3) lv st M) : ∀ lv st M, s_if (fun x => x < 0) κt κf lv st M → Gd p l e R s m args below meth c nL D ca ad A nc ns Qf pc lv st M := by
  intro lv st M h H locs ls hP hS hl ho hs
  unfold s_if at h
  split at h
  · next x r => exact lv_if_lt hX.1 hX.2.1 hd ht (fun g => kt lv _ M (h.1 g) H locs ls hP hS hl ho (fun v hv => hs v (List.mem_cons_of_mem _ hv))) (fun g => kf lv _ M (h.2 g) H locs ls hP hS hl ho (fun v hv => hs v (List.mem_cons_of_mem _ hv)))
  · exact h.elim
theorem sd_if_ge (hX : CX p s m args meth c nL cc own D ca ad A) {off : Int} {tgt : Nat} (hd : decode cc pc = .ok (.ifCond .ge off, 3)) (ht : (pc : Int) + off = (tgt : Int)) (kt : ∀ lv st M, κt lv st M → Gd p l e R s m args below meth c nL D ca ad A nc ns Qf tgt lv st M) (kf : ∀ lv st M, κf lv st M → Gd p l e R s m args below meth c nL D ca ad A nc ns Qf (pc + 3) lv st M) : ∀ lv st M, s_if (fun x => 0 ≤ x) κt κf lv st M → Gd p l e R s m args below meth c nL D ca ad A nc ns Qf pc lv st M := by
  intro lv st M h H locs ls hP hS hl ho hs
  unfold s_if at h
  split at h
  · next x r => exact lv_if_ge hX.1 hX.2.1 hd ht (fun g => kt lv _ M (h.1 g) H locs ls hP hS hl ho (fun v hv => hs v (List.mem_cons_of_mem _ hv))) (fun g => kf lv _ M (h.2 g) H locs ls hP hS hl ho (fun v hv => hs v (List.mem_cons_of_mem _ hv)))
  · exact h.elim
theorem sd_if_gt (hX : CX p s m args meth c nL cc own D ca ad A) {off : Int} {tgt : Nat} (hd : decode cc pc = .ok (.ifCond .gt off, 3)) (ht : (pc : Int) + off = (tgt : Int)) (kt : ∀ lv st M, κt lv st M → Gd p l e R s m args below meth c nL D ca ad A nc ns Qf tgt lv st M) (kf : ∀ lv st M, κf lv st M → Gd p l e R s m args below meth c nL D ca ad A nc ns Qf (pc + 3) lv st M) : ∀ lv st M, s_if (fun x => 0 < x) κt κf lv st M → Gd p l e R s m args below meth c nL D ca ad A nc ns Qf pc lv st M := by
  intro lv st M h H locs ls hP hS hl ho hs
  unfold s_if at h
  split at h
  · next x r => exact lv_if_gt hX.1 hX.2.1 hd ht (fun g => kt lv _ M (h.1 g) H locs ls hP hS hl ho (fun v hv => hs v (List.mem_cons_of_mem _ hv))) (fun g => kf lv _ M (h.2 g) H locs ls hP hS hl ho (fun v hv => hs v (List.mem_cons_of_mem _ hv)))
  · exact h.elim
theorem sd_if_le (hX : CX p s m args meth c nL cc own D ca ad A) {off : Int} {tgt : Nat} (hd : decode cc pc = .ok (.ifCond .le off, 3)) (ht : (pc : Int) + off = (tgt : Int)) (kt : ∀ lv st M, κt lv st M → Gd p l e R s m args below meth c nL D ca ad A nc ns Qf tgt lv st M) (kf : ∀ lv st M, κf lv st M → Gd p l e R s m args below meth c nL D ca ad A nc ns Qf (pc + 3) lv st M) : ∀ lv st M, s_if (fun x => x ≤ 0) κt κf lv st M → Gd p l e R s m args below meth c nL D ca ad A nc ns Qf pc lv st M := by
  intro lv st M h H locs ls hP hS hl ho hs
  unfold s_if at h
  split at h
  · next x r => exact lv_if_le hX.1 hX.2.1 hd ht (fun g => kt lv _ M (h.1 g) H locs ls hP hS hl ho (fun v hv => hs v (List.mem_cons_of_mem _ hv))) (fun g => kf lv _ M (h.2 g) H locs ls hP hS hl ho (fun v hv => hs v (List.mem_cons_of_mem _ hv)))
  · exact h.elim
theorem sd_if_ne (hX : CX p s m args meth c nL cc own D ca ad A) {off : Int} {tgt : Nat} (hd : decode cc pc = .ok (.ifCond .ne off, 3)) (ht : (pc : Int) + off = (tgt : Int)) (kt : ∀ lv st M, κt lv st M → Gd p l e R s m args below meth c nL D ca ad A nc ns Qf tgt lv st M) (kf : ∀ lv st M, κf lv st M → Gd p l e R s m args below meth c nL D ca ad A nc ns Qf (pc + 3) lv st M) : ∀ lv st M, s_if (fun x => x = 0) κf κt lv st M → Gd p l e R s m args below meth c nL D ca ad A nc ns Qf pc lv st M := by
  intro lv st M h H locs ls hP hS hl ho hs
  unfold s_if at h
  split at h
  · next x r => exact lv_if_ne hX.1 hX.2.1 hd ht (fun g => kt lv _ M (h.2 g) H locs ls hP hS hl ho (fun v hv => hs v (List.mem_cons_of_mem _ hv))) (fun g => kf lv _ M (h.1 g) H locs ls hP hS hl ho (fun v hv => hs v (List.mem_cons_of_mem _ hv)))
  · exact h.elim
theorem sd_icmp_eq (hX : CX p s m args meth c nL cc own D ca ad A) {off : Int} {tgt : Nat} (hd : decode cc pc = .ok (.if_icmp .eq off, 3)) (ht : (pc : Int) + off = (tgt : Int)) (kt : ∀ lv st M, κt lv st M → Gd p l e R s m args below meth c nL D ca ad A nc ns Qf tgt lv st M) (kf : ∀ lv st M, κf lv st M → Gd p l e R s m args below meth c nL D ca ad A nc ns Qf (pc + 3) lv st M) : ∀ lv st M, s_icmp (fun x y => x = y) κt κf lv st M → Gd p l e R s m args below meth c nL D ca ad A nc ns Qf pc lv st M := by
  intro lv st M h H locs ls hP hS hl ho hs
  unfold s_icmp at h
  split at h
  · next y x r => exact lv_icmp_eq hX.1 hX.2.1 hd ht (fun g => kt lv _ M (h.1 g) H locs ls hP hS hl ho (fun v hv => hs v (List.mem_cons_of_mem _ (List.mem_cons_of_mem _ hv)))) (fun g => kf lv _ M (h.2 g) H locs ls hP hS hl ho (fun v hv => hs v (List.mem_cons_of_mem _ (List.mem_cons_of_mem _ hv))))
  · exact h.elim
theorem sd_icmp_lt (hX : CX p s m args meth c nL cc own D ca ad A) {off : Int} {tgt : Nat} (hd : decode cc pc = .ok (.if_icmp .lt off, 3)) (ht : (pc : Int) + off = (tgt : Int)) (kt : ∀ lv st M, κt lv st M → Gd p l e R s m args below meth c nL D ca ad A nc ns Qf tgt lv st M) (kf : ∀ lv st M, κf lv st M → Gd p l e R s m args below meth c nL D ca ad A nc ns Qf (pc + 3) lv st M) : ∀ lv st M, s_icmp (fun x y => x < y) κt κf lv st M → Gd p l e R s m args below meth c nL D ca ad A nc ns Qf pc lv st M := by
  intro lv st M h H locs ls hP hS hl ho hs
  unfold s_icmp at h
  split at h
  · next y x r => exact lv_icmp_lt hX.1 hX.2.1 hd ht (fun g => kt lv _ M (h.1 g) H locs ls hP hS hl ho (fun v hv => hs v (List.mem_cons_of_mem _ (List.mem_cons_of_mem _ hv)))) (fun g => kf lv _ M (h.2 g) H locs ls hP hS hl ho (fun v hv => hs v (List.mem_cons_of_mem _ (List.mem_cons_of_mem _ hv))))
  · exact h.elim
theorem sd_icmp_ge (hX : CX p s m args meth c nL cc own D ca ad A) {off : Int} {tgt : Nat} (hd : decode cc pc = .ok (.if_icmp .ge off, 3)) (ht : (pc : Int) + off = (tgt : Int)) (kt : ∀ lv st M, κt lv st M → Gd p l e R s m args below meth c nL D ca ad A nc ns Qf tgt lv st M) (kf : ∀ lv st M, κf lv st M → Gd p l e R s m args below meth c nL D ca ad A nc ns Qf (pc + 3) lv st M) : ∀ lv st M, s_icmp (fun x y => y ≤ x) κt κf lv st M → Gd p l e R s m args below meth c nL D ca ad A nc ns Qf pc lv st M := by
  intro lv st M h H locs ls hP hS hl ho hs
  unfold s_icmp at h
  split at h
  · next y x r => exact lv_icmp_ge hX.1 hX.2.1 hd ht (fun g => kt lv _ M (h.1 g) H locs ls hP hS hl ho (fun v hv => hs v (List.mem_cons_of_mem _ (List.mem_cons_of_mem _ hv)))) (fun g => kf lv _ M (h.2 g) H locs ls hP hS hl ho (fun v hv => hs v (List.mem_cons_of_mem _ (List.mem_cons_of_mem _ hv))))
  · exact h.elim
theorem sd_icmp_gt (hX : CX p s m args meth c nL cc own D ca ad A) {off : Int} {tgt : Nat} (hd : decode cc pc = .ok (.if_icmp .gt off, 3)) (ht : (pc : Int) + off = (tgt : Int)) (kt : ∀ lv st M, κt lv st M → Gd p l e R s m args below meth c nL D ca ad A nc ns Qf tgt lv st M) (kf : ∀ lv st M, κf lv st M → Gd p l e R s m args below meth c nL D ca ad A nc ns Qf (pc + 3) lv st M) : ∀ lv st M, s_icmp (fun x y => y < x) κt κf lv st M → Gd p l e R s m args below meth c nL D ca ad A nc ns Qf pc lv st M := by
  intro lv st M h H locs ls hP hS hl ho hs
  unfold s_icmp at h
  split at h
  · next y x r => exact lv_icmp_gt hX.1 hX.2.1 hd ht (fun g => kt lv _ M (h.1 g) H locs ls hP hS hl ho (fun v hv => hs v (List.mem_cons_of_mem _ (List.mem_cons_of_mem _ hv)))) (fun g => kf lv _ M (h.2 g) H locs ls hP hS hl ho (fun v hv => hs v (List.mem_cons_of_mem _ (List.mem_cons_of_mem _ hv))))
  · exact h.elim
theorem sd_icmp_le (hX : CX p s m args meth c nL cc own D ca ad A) {off : Int} {tgt : Nat} (hd : decode cc pc = .ok (.if_icmp .le off, 3)) (ht : (pc : Int) + off = (tgt : Int)) (kt : ∀ lv st M, κt lv st M → Gd p l e R s m args below meth c nL D ca ad A nc ns Qf tgt lv st M) (kf : ∀ lv st M, κf lv st M → Gd p l e R s m args below meth c nL D ca ad A nc ns Qf (pc + 3) lv st M) : ∀ lv st M, s_icmp (fun x y => x ≤ y) κt κf lv st M → Gd p l e R s m args below meth c nL D ca ad A nc ns Qf pc lv st M := by
  intro lv st M h H locs ls hP hS hl ho hs
  unfold s_icmp at h
  split at h
  · next y x r => exact lv_icmp_le hX.1 hX.2.1 hd ht (fun g => kt lv _ M (h.1 g) H locs ls hP hS hl ho (fun v hv => hs v (List.mem_cons_of_mem _ (List.mem_cons_of_mem _ hv)))) (fun g => kf lv _ M (h.2 g) H locs ls hP hS hl ho (fun v hv => hs v (List.mem_cons_of_mem _ (List.mem_cons_of_mem _ hv))))
  · exact h.elim
theorem sd_icmp_ne (hX : CX p s m args meth c nL cc own D ca ad A) {off : Int} {tgt : Nat} (hd : decode cc pc = .ok (.if_icmp .ne off, 3)) (ht : (pc : Int) + off = (tgt : Int)) (kt : ∀ lv st M, κt lv st M → Gd p l e R s m args below meth c nL D ca ad A nc ns Qf tgt lv st M) (kf : ∀ lv st M, κf lv st M → Gd p l e R s m args below meth c nL D ca ad A nc ns Qf (pc + 3) lv st M) : ∀ lv st M, s_icmp (fun x y => x = y) κf κt lv st M → Gd p l e R s m args below meth c nL D ca ad A nc ns Qf pc lv st M := by
  intro lv st M h H locs ls hP hS hl ho hs
  unfold s_icmp at h
  split at h
  · next y x r => exact lv_icmp_ne hX.1 hX.2.1 hd ht (fun g => kt lv _ M (h.2 g) H locs ls hP hS hl ho (fun v hv => hs v (List.mem_cons_of_mem _ (List.mem_cons_of_mem _ hv)))) (fun g => kf lv _ M (h.1 g) H locs ls hP hS hl ho (fun v hv => hs v (List.mem_cons_of_mem _ (List.mem_cons_of_mem _ hv))))
  · exact h.elim
theorem sd_goto (hX : CX p s m args meth c nL cc own D ca ad A) {off : Int} {tgt : Nat} (hd : decode cc pc = .ok (.goto off, 3)) (ht : (pc : Int) + off = (tgt : Int)) (k : ∀ lv st M, κ lv st M → Gd p l e R s m args below meth c nL D ca ad A nc ns Qf tgt lv st M) : ∀ lv st M, κ lv st M → Gd p l e R s m args below meth c nL D ca ad A nc ns Qf pc lv st M := fun lv st M h H locs ls hP hS hl ho hs => lv_goto hX.1 hX.2.1 hd ht (k lv st M h H locs ls hP hS hl ho hs)
-- fields
theorem okU : ∀ k, k < 178 → kof k = 16 → ∀ i, i < ln k → kof (k + 1 + i) = 10 := by decide +kernel
theorem okS : ∀ k, k < 178 → kof k = 15 → ∀ i, i < ln k → kof (k + 1 + 7 * i) = 8 := by decide +kernel
theorem okA : ∀ k, k < 178 → kof k = 8 → kof (k + 1) = 16 := by decide +kernel
theorem sd_geti (hX : CX p s m args meth c nL cc own D ca ad A) {idx kd j ty : Nat} (hf : FLk own idx kd j ty) (hty : ty ≤ 1) (hd : decode cc pc = .ok (.getfield idx, 3)) (k : ∀ lv st M, κ lv st M → Gd p l e R s m args below meth c nL D ca ad A nc ns Qf (pc + 3) lv st M) : ∀ lv st M, s_geti kd j κ lv st M → Gd p l e R s m args below meth c nL D ca ad A nc ns Qf pc lv st M := by
  intro lv st M h H locs ls hP hS hl ho hs
  unfold s_geti at h
  split at h
  · next k2 k0 r =>
    obtain ⟨rfl, h⟩ := h
    obtain ⟨C, T, N, hc, hin, hj, hlk, h13, ht⟩ := hf
    have hk : kof k0 = k2 := hs _ List.mem_cons_self
    exact va_get (D := D) (ws := wo ca ad M) hX.1 hX.2.1 hX.2.2.2.2.1 hin hX.2.2.2.1 hX.2.2.2.2.2.1 hP k0 ((wo_get (kof_lt (by omega))).trans (by rw [sh_obj hk h13])) hc j hj (hX.2.2.2.2.1 _ hlk) (fun _ h => h) ((fs_at ht).trans (by rw [fV, if_pos hty]; rfl)) hd (k lv (.inl (M.1 k0 j) :: r) M h H locs ls hP hS hl ho (List.forall_mem_cons.mpr ⟨trivial, (fun v hv => hs v (List.mem_cons_of_mem _ hv))⟩))
  · exact h.elim
theorem sd_getl (hX : CX p s m args meth c nL cc own D ca ad A) {idx kd j : Nat} (hf : FLk own idx kd j 2) (hd : decode cc pc = .ok (.getfield idx, 3)) (k : ∀ lv st M, κ lv st M → Gd p l e R s m args below meth c nL D ca ad A nc ns Qf (pc + 3) lv st M) : ∀ lv st M, s_getl kd κ lv st M → Gd p l e R s m args below meth c nL D ca ad A nc ns Qf pc lv st M := by
  intro lv st M h H locs ls hP hS hl ho hs
  unfold s_getl at h
  split at h
  · next k2 k0 r =>
    obtain ⟨rfl, h⟩ := h
    obtain ⟨C, T, N, hc, hin, hj, hlk, h13, ht⟩ := hf
    have hk : kof k0 = k2 := hs _ List.mem_cons_self
    exact va_get (D := D) (ws := wo ca ad M) hX.1 hX.2.1 hX.2.2.2.2.1 hin hX.2.2.2.1 hX.2.2.2.2.2.1 hP k0 ((wo_get (kof_lt (by omega))).trans (by rw [sh_obj hk h13])) hc j hj (hX.2.2.2.2.1 _ hlk) (fun _ h => h) ((fs_at ht).trans (by rw [fV, if_neg (by decide), if_pos rfl]; rfl)) hd (k lv (.inr (.inl (M.2 k0)) :: r) M h H locs ls hP hS hl ho (List.forall_mem_cons.mpr ⟨trivial, (fun v hv => hs v (List.mem_cons_of_mem _ hv))⟩))
  · exact h.elim
theorem sd_getr (hX : CX p s m args meth c nL cc own D ca ad A) {idx kd j kt : Nat} {f : Nat → Nat} (hf : FLk own idx kd j (3 + kt)) (hT : ∀ k, tg kd j k = f k) (hO : ∀ k, k < 178 → kof k = kd → kof (f k) = kt) (hd : decode cc pc = .ok (.getfield idx, 3)) (k : ∀ lv st M, κ lv st M → Gd p l e R s m args below meth c nL D ca ad A nc ns Qf (pc + 3) lv st M) : ∀ lv st M, s_getr kd kt f κ lv st M → Gd p l e R s m args below meth c nL D ca ad A nc ns Qf pc lv st M := by
  intro lv st M h H locs ls hP hS hl ho hs
  unfold s_getr at h
  split at h
  · next k2 k0 r =>
    obtain ⟨rfl, h⟩ := h
    obtain ⟨C, T, N, hc, hin, hj, hlk, h13, ht⟩ := hf
    have hk : kof k0 = k2 := hs _ List.mem_cons_self
    have hlt : k0 < 178 := kof_lt (by omega)
    exact va_get (D := D) (ws := wo ca ad M) hX.1 hX.2.1 hX.2.2.2.2.1 hin hX.2.2.2.1 hX.2.2.2.2.2.1 hP k0 ((wo_get hlt).trans (by rw [sh_obj hk h13])) hc j hj (hX.2.2.2.2.1 _ hlk) (fun _ h => h) ((fs_at ht).trans (by rw [fV, if_neg (by omega), if_neg (by omega), hT]; rfl)) hd (k lv (.inr (.inr (kt, f k0)) :: r) M h H locs ls hP hS hl ho (List.forall_mem_cons.mpr ⟨hO k0 hlt hk, (fun v hv => hs v (List.mem_cons_of_mem _ hv))⟩))
  · exact h.elim
theorem sd_puti (hX : CX p s m args meth c nL cc own D ca ad A) {idx kd j : Nat} (hf : FPk own idx kd j 0 .int) (hd : decode cc pc = .ok (.putfield idx, 3)) (k : ∀ lv st M, κ lv st M → Gd p l e R s m args below meth c nL D ca ad A nc ns Qf (pc + 3) lv st M) : ∀ lv st M, s_puti kd j κ lv st M → Gd p l e R s m args below meth c nL D ca ad A nc ns Qf pc lv st M := by
  intro lv st M h H locs ls hP hS hl ho hs
  unfold s_puti at h
  split at h
  · next v k2 k0 r =>
    obtain ⟨rfl, h⟩ := h
    obtain ⟨C, T, N, ty0, hc, hin, hj, hlk, h13, ht, hty, hnm, hfin, hpd⟩ := hf
    have hk : kof k0 = k2 := hs _ (List.mem_cons_of_mem _ List.mem_cons_self)
    have hlt : k0 < 178 := kof_lt (by omega)
    have e : (wo ca ad M).set k0 (ad k0, .inr (k2, ((fTL.getD k2 []).mapIdx (fun j ty => fV ad (M.1 k0) (M.2 k0) k0 k2 j ty)).set j (.int v))) = wo ca ad (mset M k0 j v) := wo_set hlt (by rw [mset_1, mset_2, sh_obj hk h13, fs_set ht (by decide)]) (fun i hi => mset_n hi) (fun _ _ => rfl)
    refine va_put (D := D) (ws := wo ca ad M) hX.1 hX.2.1 hX.2.2.2.2.1 hin ty0 hty hnm hX.2.2.2.1 hX.2.2.2.2.2.1 hP (hX.2.2.2.2.2.2.1 M) hS k0 ((wo_get hlt).trans (by rw [sh_obj hk h13])) hc j hj (hX.2.2.2.2.1 _ hlk) (fun _ h => h) hfin hpd (v := .int v) rfl rfl (by simpa using (List.getElem?_eq_some_iff.mp ht).1) hd fun H1 locs1 hP1 _ hS1 => ?_
    rw [e] at hP1
    exact k lv r (mset M k0 j v) h H1 locs1 ls hP1 hS1 hl ho (fun v hv => hs v (List.mem_cons_of_mem _ (List.mem_cons_of_mem _ hv)))
  · exact h.elim
theorem sd_putz (hX : CX p s m args meth c nL cc own D ca ad A) {idx kd j : Nat} (hf : FPk own idx kd j 1 .boolean) (hd : decode cc pc = .ok (.putfield idx, 3)) (k : ∀ lv st M, κ lv st M → Gd p l e R s m args below meth c nL D ca ad A nc ns Qf (pc + 3) lv st M) : ∀ lv st M, s_putz kd j κ lv st M → Gd p l e R s m args below meth c nL D ca ad A nc ns Qf pc lv st M := by
  intro lv st M h H locs ls hP hS hl ho hs
  unfold s_putz at h
  split at h
  · next v k2 k0 r =>
    obtain ⟨rfl, hv, h⟩ := h
    obtain ⟨C, T, N, ty0, hc, hin, hj, hlk, h13, ht, hty, hnm, hfin, hpd⟩ := hf
    have hk : kof k0 = k2 := hs _ (List.mem_cons_of_mem _ List.mem_cons_self)
    have hlt : k0 < 178 := kof_lt (by omega)
    have e : (wo ca ad M).set k0 (ad k0, .inr (k2, ((fTL.getD k2 []).mapIdx (fun j ty => fV ad (M.1 k0) (M.2 k0) k0 k2 j ty)).set j (.int v))) = wo ca ad (mset M k0 j v) := wo_set hlt (by rw [mset_1, mset_2, sh_obj hk h13, fs_set ht (by decide)]) (fun i hi => mset_n hi) (fun _ _ => rfl)
    refine va_put (D := D) (ws := wo ca ad M) hX.1 hX.2.1 hX.2.2.2.2.1 hin ty0 hty hnm hX.2.2.2.1 hX.2.2.2.2.2.1 hP (hX.2.2.2.2.2.2.1 M) hS k0 ((wo_get hlt).trans (by rw [sh_obj hk h13])) hc j hj (hX.2.2.2.2.1 _ hlk) (fun _ h => h) hfin hpd (v := .int v) (by rcases hv with rfl | rfl <;> rfl) (by rcases hv with rfl | rfl <;> rfl) (by simpa using (List.getElem?_eq_some_iff.mp ht).1) hd fun H1 locs1 hP1 _ hS1 => ?_
    rw [e] at hP1
    exact k lv r (mset M k0 j v) h H1 locs1 ls hP1 hS1 hl ho (fun v hv => hs v (List.mem_cons_of_mem _ (List.mem_cons_of_mem _ hv)))
  · exact h.elim
theorem sd_putl (hX : CX p s m args meth c nL cc own D ca ad A) {idx kd j : Nat} (hf : FPk own idx kd j 2 .long) (h1L : ∀ i, i ≠ j → (fTL.getD kd [])[i]? ≠ some 2) (hd : decode cc pc = .ok (.putfield idx, 3)) (k : ∀ lv st M, κ lv st M → Gd p l e R s m args below meth c nL D ca ad A nc ns Qf (pc + 3) lv st M) : ∀ lv st M, s_putl kd κ lv st M → Gd p l e R s m args below meth c nL D ca ad A nc ns Qf pc lv st M := by
  intro lv st M h H locs ls hP hS hl ho hs
  unfold s_putl at h
  split at h
  · next v k2 k0 r =>
    obtain ⟨rfl, h⟩ := h
    obtain ⟨C, T, N, ty0, hc, hin, hj, hlk, h13, ht, hty, hnm, hfin, hpd⟩ := hf
    have hk : kof k0 = k2 := hs _ (List.mem_cons_of_mem _ List.mem_cons_self)
    have hlt : k0 < 178 := kof_lt (by omega)
    have e : (wo ca ad M).set k0 (ad k0, .inr (k2, ((fTL.getD k2 []).mapIdx (fun j ty => fV ad (M.1 k0) (M.2 k0) k0 k2 j ty)).set j (.long v))) = wo ca ad (lset M k0 v) := wo_set hlt (by rw [lset_1, lset_2, if_pos rfl, sh_obj hk h13, fs_setL ht h1L]) (fun _ _ => rfl) (fun i hi => by rw [lset_2, if_neg hi])
    refine va_put (D := D) (ws := wo ca ad M) hX.1 hX.2.1 hX.2.2.2.2.1 hin ty0 hty hnm hX.2.2.2.1 hX.2.2.2.2.2.1 hP (hX.2.2.2.2.2.2.1 M) hS k0 ((wo_get hlt).trans (by rw [sh_obj hk h13])) hc j hj (hX.2.2.2.2.1 _ hlk) (fun _ h => h) hfin hpd (v := .long v) rfl rfl (by simpa using (List.getElem?_eq_some_iff.mp ht).1) hd fun H1 locs1 hP1 _ hS1 => ?_
    rw [e] at hP1
    exact k lv r (lset M k0 v) h H1 locs1 ls hP1 hS1 hl ho (fun v hv => hs v (List.mem_cons_of_mem _ (List.mem_cons_of_mem _ hv)))
  · exact h.elim
-- arrays
theorem sd_iald (hX : CX p s m args meth c nL cc own D ca ad A) (hd : decode cc pc = .ok (.iaload, 1)) (k : ∀ lv st M, κ lv st M → Gd p l e R s m args below meth c nL D ca ad A nc ns Qf (pc + 1) lv st M) : ∀ lv st M, s_iald κ lv st M → Gd p l e R s m args below meth c nL D ca ad A nc ns Qf pc lv st M := by
  intro lv st M h H locs ls hP hS hl ho hs
  unfold s_iald at h
  split at h
  · next i k2 k0 r =>
    obtain ⟨rfl, hi, h⟩ := h
    have hk : kof k0 = 13 := hs _ (List.mem_cons_of_mem _ List.mem_cons_self)
    exact va_iald (D := D) (ws := wo ca ad M) hX.1 hX.2.1 hX.2.2.2.2.2.1 hP k0 0 ((wo_get (kof_lt (by omega))).trans (by rw [sh_13 hk])) rfl hi hd (k lv (.inl (M.1 k0 i.toNatClampNeg) :: r) M h H locs ls hP hS hl ho (List.forall_mem_cons.mpr ⟨trivial, (fun v hv => hs v (List.mem_cons_of_mem _ (List.mem_cons_of_mem _ hv)))⟩))
  · exact h.elim
theorem sd_zald (hX : CX p s m args meth c nL cc own D ca ad A) (hd : decode cc pc = .ok (.baload, 1)) (k : ∀ lv st M, κ lv st M → Gd p l e R s m args below meth c nL D ca ad A nc ns Qf (pc + 1) lv st M) : ∀ lv st M, s_zald κ lv st M → Gd p l e R s m args below meth c nL D ca ad A nc ns Qf pc lv st M := by
  intro lv st M h H locs ls hP hS hl ho hs
  unfold s_zald at h
  split at h
  · next i k2 k0 r =>
    obtain ⟨rfl, hi, h⟩ := h
    have hk : kof k0 = 14 := hs _ (List.mem_cons_of_mem _ List.mem_cons_self)
    exact va_zald (D := D) (ws := wo ca ad M) hX.1 hX.2.1 hX.2.2.2.2.2.1 hP k0 1 ((wo_get (kof_lt (by omega))).trans (by rw [sh_14 hk])) rfl hi hd (k lv (.inl (M.1 k0 i.toNatClampNeg) :: r) M h H locs ls hP hS hl ho (List.forall_mem_cons.mpr ⟨trivial, (fun v hv => hs v (List.mem_cons_of_mem _ (List.mem_cons_of_mem _ hv)))⟩))
  · exact h.elim
theorem sd_iast (hX : CX p s m args meth c nL cc own D ca ad A) (hd : decode cc pc = .ok (.iastore, 1)) (k : ∀ lv st M, κ lv st M → Gd p l e R s m args below meth c nL D ca ad A nc ns Qf (pc + 1) lv st M) : ∀ lv st M, s_iast κ lv st M → Gd p l e R s m args below meth c nL D ca ad A nc ns Qf pc lv st M := by
  intro lv st M h H locs ls hP hS hl ho hs
  unfold s_iast at h
  split at h
  · next x i k2 k0 r =>
    obtain ⟨rfl, hi, h⟩ := h
    have hk : kof k0 = 13 := hs _ (List.mem_cons_of_mem _ (List.mem_cons_of_mem _ List.mem_cons_self))
    have hlt : k0 < 178 := kof_lt (by omega)
    have e : (wo ca ad M).set k0 (ad k0, .inl (ca 0, ln k0, .inl (upd (M.1 k0) i.toNatClampNeg x))) = wo ca ad (mset M k0 i.toNatClampNeg x) := wo_set hlt (by rw [mset_1, mset_2, sh_13 hk]) (fun i hi => mset_n hi) (fun _ _ => rfl)
    refine va_iast (D := D) (ws := wo ca ad M) hX.1 hX.2.1 hX.2.2.2.2.2.1 hP (hX.2.2.2.2.2.2.1 M) hS k0 0 ((wo_get hlt).trans (by rw [sh_13 hk])) rfl hi hd fun H1 locs1 hP1 _ hS1 => ?_
    rw [e] at hP1
    exact k lv r _ h H1 locs1 ls hP1 hS1 hl ho (fun v hv => hs v (List.mem_cons_of_mem _ (List.mem_cons_of_mem _ (List.mem_cons_of_mem _ hv))))
  · exact h.elim
theorem sd_zast (hX : CX p s m args meth c nL cc own D ca ad A) (hd : decode cc pc = .ok (.bastore, 1)) (k : ∀ lv st M, κ lv st M → Gd p l e R s m args below meth c nL D ca ad A nc ns Qf (pc + 1) lv st M) : ∀ lv st M, s_zast κ lv st M → Gd p l e R s m args below meth c nL D ca ad A nc ns Qf pc lv st M := by
  intro lv st M h H locs ls hP hS hl ho hs
  unfold s_zast at h
  split at h
  · next x i k2 k0 r =>
    obtain ⟨rfl, hi, h⟩ := h
    have hk : kof k0 = 14 := hs _ (List.mem_cons_of_mem _ (List.mem_cons_of_mem _ List.mem_cons_self))
    have hlt : k0 < 178 := kof_lt (by omega)
    have e : (wo ca ad M).set k0 (ad k0, .inl (ca 1, ln k0, .inl (upd (M.1 k0) i.toNatClampNeg (vp_nar .boolean x)))) = wo ca ad (mset M k0 i.toNatClampNeg (x &&& 1)) := wo_set hlt (by rw [mset_1, mset_2, sh_14 hk]; rfl) (fun i hi => mset_n hi) (fun _ _ => rfl)
    refine va_zast (D := D) (ws := wo ca ad M) hX.1 hX.2.1 hX.2.2.2.2.2.1 hP (hX.2.2.2.2.2.2.1 M) hS k0 1 ((wo_get hlt).trans (by rw [sh_14 hk])) rfl hi hd fun H1 locs1 hP1 _ hS1 => ?_
    rw [e] at hP1
    exact k lv r _ h H1 locs1 ls hP1 hS1 hl ho (fun v hv => hs v (List.mem_cons_of_mem _ (List.mem_cons_of_mem _ (List.mem_cons_of_mem _ hv))))
  · exact h.elim
theorem in_lt {i : Int32} {n : Nat} (h : vp_in i n) : i.toNatClampNeg < n := by
  unfold vp_in at h
  omega
theorem sd_aaldS (hX : CX p s m args meth c nL cc own D ca ad A) (hd : decode cc pc = .ok (.aaload, 1)) (k : ∀ lv st M, κ lv st M → Gd p l e R s m args below meth c nL D ca ad A nc ns Qf (pc + 1) lv st M) : ∀ lv st M, s_aaldS κ lv st M → Gd p l e R s m args below meth c nL D ca ad A nc ns Qf pc lv st M := by
  intro lv st M h H locs ls hP hS hl ho hs
  unfold s_aaldS at h
  split at h
  · next i k2 k0 r =>
    obtain ⟨rfl, hi, h⟩ := h
    have hk : kof k0 = 15 := hs _ (List.mem_cons_of_mem _ List.mem_cons_self)
    have hlt : k0 < 178 := kof_lt (by omega)
    refine va_aldq (D := D) (ws := wo ca ad M) hX.1 hX.2.1 hX.2.2.2.2.2.1 hP k0 2 ((wo_get hlt).trans (by rw [sh_15 hk])) rfl hi hd ?_
    rw [if_pos (in_lt hi)]
    exact k lv (.inr (.inr (8, k0 + 1 + 7 * i.toNatClampNeg)) :: r) M h H locs ls hP hS hl ho (List.forall_mem_cons.mpr ⟨okS k0 hlt hk _ (in_lt hi), (fun v hv => hs v (List.mem_cons_of_mem _ (List.mem_cons_of_mem _ hv)))⟩)
  · exact h.elim
theorem sd_aaldU (hX : CX p s m args meth c nL cc own D ca ad A) (hd : decode cc pc = .ok (.aaload, 1)) (k : ∀ lv st M, κ lv st M → Gd p l e R s m args below meth c nL D ca ad A nc ns Qf (pc + 1) lv st M) : ∀ lv st M, s_aaldU κ lv st M → Gd p l e R s m args below meth c nL D ca ad A nc ns Qf pc lv st M := by
  intro lv st M h H locs ls hP hS hl ho hs
  unfold s_aaldU at h
  split at h
  · next i k2 k0 r =>
    obtain ⟨rfl, hi, h⟩ := h
    have hk : kof k0 = 16 := hs _ (List.mem_cons_of_mem _ List.mem_cons_self)
    have hlt : k0 < 178 := kof_lt (by omega)
    refine va_aldq (D := D) (ws := wo ca ad M) hX.1 hX.2.1 hX.2.2.2.2.2.1 hP k0 3 ((wo_get hlt).trans (by rw [sh_16 hk])) rfl hi hd ?_
    rw [if_pos (in_lt hi)]
    exact k lv (.inr (.inr (10, k0 + 1 + i.toNatClampNeg)) :: r) M h H locs ls hP hS hl ho (List.forall_mem_cons.mpr ⟨okU k0 hlt hk _ (in_lt hi), (fun v hv => hs v (List.mem_cons_of_mem _ (List.mem_cons_of_mem _ hv)))⟩)
  · exact h.elim
theorem sd_gets (hX : CX p s m args meth c nL cc own D ca ad A) {idx : Nat} {host : String} (hw : Cond.fieldLinkNest own idx "FairBlocks" "FACTORIALS" "[I" host ∈ nwL) (hd : decode cc pc = .ok (.getstatic idx, 3)) (k : ∀ lv st M, κ lv st M → Gd p l e R s m args below meth c nL D ca ad A nc ns Qf (pc + 3) lv st M) : ∀ lv st M, s_gets κ lv st M → Gd p l e R s m args below meth c nL D ca ad A nc ns Qf pc lv st M := by
  intro lv st M h H locs ls hP hS hl ho hs
  exact va_getsN hX.1 hX.2.1 hX.2.2.2.2.2.2.2.1.1 hS hX.2.2.2.1 (va_Nw.use rfl (hX.2.2.2.2.2.2.2.2.1 _ hw)) (fun _ h => h) hd (k lv (.inr (.inr (17, 178)) :: st) M h H locs ls hP hS hl ho (List.forall_mem_cons.mpr ⟨(by decide +kernel : kof 178 = 17), hs⟩))
theorem sd_tald (hX : CX p s m args meth c nL cc own D ca ad A) (hd : decode cc pc = .ok (.iaload, 1)) (k : ∀ lv st M, κ lv st M → Gd p l e R s m args below meth c nL D ca ad A nc ns Qf (pc + 1) lv st M) : ∀ lv st M, s_tald κ lv st M → Gd p l e R s m args below meth c nL D ca ad A nc ns Qf pc lv st M := by
  intro lv st M h H locs ls hP hS hl ho hs
  unfold s_tald at h
  split at h
  · next i k2 k0 r =>
    obtain ⟨⟨rfl, rfl⟩, hi, h⟩ := h
    exact va_ti hX.1 hX.2.1 hX.2.2.2.2.2.2.2.1.2 hS hi rfl hd (k lv (.inl (fcF i.toNatClampNeg) :: r) M h H locs ls hP hS hl ho (List.forall_mem_cons.mpr ⟨trivial, (fun v hv => hs v (List.mem_cons_of_mem _ (List.mem_cons_of_mem _ hv)))⟩))
  · exact h.elim
-- the table of a switch
theorem tsw_at {x : Int32} {lv : LV} {r : List mV} {M : mM} : ∀ (ks : List KT) (lo : Int), tsw x lv r M lo ks → ∀ (j : Nat) (κ : KT), ks[j]? = some κ → x.toInt = lo + j → κ lv r M
  | [], lo, _, j, κ, h, _ => by simp at h
  | κ0 :: ks, lo, h, j, κ, hj, hx => by
    cases j with
    | zero => simp at hj; subst hj; exact h.1 (by simpa using hx)
    | succ j => exact tsw_at ks (lo + 1) h.2 j κ (by simpa using hj) (by rw [hx]; omega)
def KS (G : Nat → KT) : List KT → List Nat → Prop
  | [], [] => True
  | κ :: ks, t :: ts => (∀ lv st M, κ lv st M → G t lv st M) ∧ KS G ks ts
  | _, _ => False
theorem KS_at {G : Nat → KT} : ∀ (ks : List KT) (ts : List Nat), KS G ks ts → ks.length = ts.length ∧ ∀ (j t : Nat) (κ : KT), ks[j]? = some κ → ts[j]? = some t → ∀ lv st M, κ lv st M → G t lv st M
  | [], [], _ => ⟨rfl, fun j t κ h => by simp at h⟩
  | κ0 :: ks, t0 :: ts, h => by
    obtain ⟨h1, h2⟩ := KS_at ks ts h.2
    refine ⟨by simp [h1], fun j t κ hk ht => ?_⟩
    cases j with
    | zero => simp at hk ht; subst hk; subst ht; exact h.1
    | succ j => exact h2 j t κ (by simpa using hk) (by simpa using ht)
  | [], _ :: _, h => h.elim
  | _ :: _, [], h => h.elim
theorem sd_tsw (hX : CX p s m args meth c nL cc own D ca ad A) {dflt lo hi : Int} {offs : Array Int} {len td : Nat} {ts : List Nat} {ks : List KT} {κd : KT} (hd : decode cc pc = .ok (.tableswitch dflt lo hi offs, len)) (ho1 : offs.toList.map (fun o => (pc : Int) + o) = ts.map (fun (t : Nat) => (t : Int))) (hdf : (pc : Int) + dflt = (td : Int)) (hhi : hi = lo + ks.length - 1) (hks : KS (Gd p l e R s m args below meth c nL D ca ad A nc ns Qf) ks ts) (kd : ∀ lv st M, κd lv st M → Gd p l e R s m args below meth c nL D ca ad A nc ns Qf td lv st M) : ∀ lv st M, s_tsw lo hi ks κd lv st M → Gd p l e R s m args below meth c nL D ca ad A nc ns Qf pc lv st M := by
  intro lv st M h H locs ls hP hS hl ho hs
  unfold s_tsw at h
  split at h
  · next x r =>
    obtain ⟨hlen, hat⟩ := KS_at ks ts hks
    by_cases hout : x.toInt < lo ∨ hi < x.toInt
    · exact lv_tableOut hX.1 hX.2.1 hd hout hdf (kd lv r M (h.1 hout) H locs ls hP hS hl ho (fun v hv => hs v (List.mem_cons_of_mem _ hv)))
    · have h1 : ¬ x.toInt < lo := fun g => hout (Or.inl g)
      have h2 : ¬ hi < x.toInt := fun g => hout (Or.inr g)
      obtain ⟨j, hj⟩ : ∃ j : Nat, x.toInt = lo + j := ⟨(x.toInt - lo).toNat, by omega⟩
      have hjl : j < ks.length := by omega
      have hjt : j < ts.length := by omega
      have hso : offs.toList.length = ts.length := by simpa using congrArg List.length ho1
      have e1 : (offs.toList.map (fun o => (pc : Int) + o))[j]? = some ((ts[j] : Nat) : Int) := by rw [ho1]; simp [hjt]
      rw [List.getElem?_map] at e1
      have hoj : offs.toList[j]? = some (offs.toList[j]'(by omega)) := List.getElem?_eq_getElem _
      rw [hoj] at e1
      have e2 : (pc : Int) + offs.toList[j]'(by omega) = ((ts[j] : Nat) : Int) := by simpa using e1
      refine lv_tableIn (off := offs.toList[j]'(by omega)) (tgt := ts[j]) hX.1 hX.2.1 hd h1 h2 ?_ e2 ?_
      · have : (x.toInt - lo).toNat = j := by omega
        rw [this, ← Array.getElem?_toList]
        exact hoj
      · exact hat j ts[j] ks[j] (List.getElem?_eq_getElem hjl) (List.getElem?_eq_getElem hjt) lv r M (tsw_at ks lo h.2 j ks[j] (List.getElem?_eq_getElem hjl) hj) H locs ls hP hS hl ho (fun v hv => hs v (List.mem_cons_of_mem _ hv))
  · exact h.elim

end MS
