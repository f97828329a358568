/-! worlds that grow: the constructors. Place 1000 + j of a cell is 1 once its j-th reference is set -/
def fP (ad : Nat → Nat) (r : Nat → Int32) (x : Int64) (k kd j ty : Nat) : Value := if ty ≤ 1 then .int (r j) else if ty = 2 then .long x else if r (1000 + j) = 1 then .ref (ad (tg kd j k)) else .null
def shP (ca : Nat → ClassId) (ad : Nat → Nat) (r : Nat → Int32) (x : Int64) (k : Nat) : va_E :=
  if kof k = 13 then .inl (ca 0, ln k, .inl r) else if kof k = 14 then .inl (ca 1, ln k, .inl r)
  else if kof k = 15 then .inl (ca 2, ln k, .inr (.inr (.inr (.inr (fun i => if r (1000 + i) = 1 then some (ad (k + 1 + 7 * i)) else none)))))
  else if kof k = 16 then .inl (ca 3, ln k, .inr (.inr (.inr (.inr (fun i => if r (1000 + i) = 1 then some (ad (k + 1 + i)) else none)))))
  else .inr (kof k, (fTL.getD (kof k) []).mapIdx (fun j ty => fP ad r x k (kof k) j ty))
def wq (ca : Nat → ClassId) (ad : Nat → Nat) (M : mM) (n : Nat) : va_W := (List.range n).map fun k => (ad k, shP ca ad (M.1 k) (M.2 k) k)
theorem wq_get {ca : Nat → ClassId} {ad : Nat → Nat} {M : mM} {k n : Nat} (h : k < n) : (wq ca ad M n)[k]? = some (ad k, shP ca ad (M.1 k) (M.2 k) k) := by
  simp [wq, h]
theorem wq_push {ca : Nat → ClassId} {ad : Nat → Nat} {M : mM} {n : Nat} : wq ca ad M (n + 1) = wq ca ad M n ++ [(ad n, shP ca ad (M.1 n) (M.2 n) n)] := by
  unfold wq
  rw [List.range_succ, List.map_append]
  rfl
theorem wq_set {ca : Nat → ClassId} {ad : Nat → Nat} {M M' : mM} {k n : Nat} {e : va_E} (h : k < n) (he : shP ca ad (M'.1 k) (M'.2 k) k = e) (h1 : ∀ j, j ≠ k → M'.1 j = M.1 j) (h2 : ∀ j, j ≠ k → M'.2 j = M.2 j) : (wq ca ad M n).set k (ad k, e) = wq ca ad M' n := by
  apply List.ext_getElem?
  intro j
  by_cases hj : j = k
  · subst hj
    rw [List.getElem?_set_self (by simp [wq, h]), wq_get h, he]
  · rw [List.getElem?_set_ne (Ne.symm hj)]
    rcases Nat.lt_or_ge j n with g | g
    · rw [wq_get g, wq_get g, h1 j hj, h2 j hj]
    · rw [List.getElem?_eq_none (by simp [wq, g]), List.getElem?_eq_none (by simp [wq, g])]
theorem sp_obj {ca : Nat → ClassId} {ad : Nat → Nat} {r : Nat → Int32} {x : Int64} {k kd : Nat} (h : kof k = kd) (h13 : kd < 13) : shP ca ad r x k = .inr (kd, (fTL.getD kd []).mapIdx (fun j ty => fP ad r x k kd j ty)) := by
  subst h
  unfold shP
  rw [if_neg (by omega), if_neg (by omega), if_neg (by omega), if_neg (by omega)]
theorem sp_13 {ca : Nat → ClassId} {ad : Nat → Nat} {r : Nat → Int32} {x : Int64} {k : Nat} (h : kof k = 13) : shP ca ad r x k = .inl (ca 0, ln k, .inl r) := by unfold shP; rw [if_pos h]
theorem sp_14 {ca : Nat → ClassId} {ad : Nat → Nat} {r : Nat → Int32} {x : Int64} {k : Nat} (h : kof k = 14) : shP ca ad r x k = .inl (ca 1, ln k, .inl r) := by unfold shP; rw [if_neg (by omega), if_pos h]
theorem sp_15 {ca : Nat → ClassId} {ad : Nat → Nat} {r : Nat → Int32} {x : Int64} {k : Nat} (h : kof k = 15) : shP ca ad r x k = .inl (ca 2, ln k, .inr (.inr (.inr (.inr (fun i => if r (1000 + i) = 1 then some (ad (k + 1 + 7 * i)) else none))))) := by unfold shP; rw [if_neg (by omega), if_neg (by omega), if_pos h]
theorem sp_16 {ca : Nat → ClassId} {ad : Nat → Nat} {r : Nat → Int32} {x : Int64} {k : Nat} (h : kof k = 16) : shP ca ad r x k = .inl (ca 3, ln k, .inr (.inr (.inr (.inr (fun i => if r (1000 + i) = 1 then some (ad (k + 1 + i)) else none))))) := by unfold shP; rw [if_neg (by omega), if_neg (by omega), if_neg (by omega), if_pos h]
theorem fp_at {ad : Nat → Nat} {r : Nat → Int32} {x : Int64} {k kd j ty : Nat} {L : List Nat} (h : L[j]? = some ty) : (L.mapIdx (fun j ty => fP ad r x k kd j ty))[j]? = some (fP ad r x k kd j ty) := by
  rw [List.getElem?_mapIdx, h]; rfl
theorem fp_set {ad : Nat → Nat} {r : Nat → Int32} {x : Int64} {k kd j ty : Nat} {v : Int32} {L : List Nat} (h : L[j]? = some ty) (ht : ty ≤ 1) (hj : j < 1000) : (L.mapIdx (fun j ty => fP ad r x k kd j ty)).set j (.int v) = L.mapIdx (fun i ty => fP ad (upd r j v) x k kd i ty) := by
  apply List.ext_getElem?
  intro i
  by_cases hi : i = j
  · subst hi
    have hl := (List.getElem?_eq_some_iff.mp h).1
    rw [List.getElem?_set_self (by simpa using hl), List.getElem?_mapIdx, h]
    simp [fP, ht, upd]
  · rw [List.getElem?_set_ne (Ne.symm hi), List.getElem?_mapIdx, List.getElem?_mapIdx]
    have hne : 1000 + i ≠ j := by omega
    cases L[i]? with
    | none => rfl
    | some t => simp [fP, upd, hi, hne]
theorem fp_setR {ad : Nat → Nat} {r : Nat → Int32} {x : Int64} {k kd j ty : Nat} {L : List Nat} (h : L[j]? = some ty) (ht : 3 ≤ ty) (hL : L.length ≤ 1000) : (L.mapIdx (fun j ty => fP ad r x k kd j ty)).set j (.ref (ad (tg kd j k))) = L.mapIdx (fun i ty => fP ad (upd r (1000 + j) 1) x k kd i ty) := by
  apply List.ext_getElem?
  intro i
  by_cases hi : i = j
  · subst hi
    have hl := (List.getElem?_eq_some_iff.mp h).1
    rw [List.getElem?_set_self (by simpa using hl), List.getElem?_mapIdx, h]
    have h1 : ¬ ty ≤ 1 := by omega
    have h2 : ¬ ty = 2 := by omega
    simp [fP, h1, h2, upd]
  · rw [List.getElem?_set_ne (Ne.symm hi), List.getElem?_mapIdx, List.getElem?_mapIdx]
    cases hLi : L[i]? with
    | none => rfl
    | some t =>
      have hl := (List.getElem?_eq_some_iff.mp hLi).1
      have hne : i ≠ 1000 + j := by omega
      have hne2 : 1000 + i ≠ 1000 + j := by omega
      simp [fP, upd, hne, hi]
theorem fp_setL {ad : Nat → Nat} {r : Nat → Int32} {x v : Int64} {k kd j : Nat} {L : List Nat} (h : L[j]? = some 2) (h1 : ∀ i, i ≠ j → L[i]? ≠ some 2) : (L.mapIdx (fun j ty => fP ad r x k kd j ty)).set j (.long v) = L.mapIdx (fun j ty => fP ad r v k kd j ty) := by
  apply List.ext_getElem?
  intro i
  by_cases hi : i = j
  · subst hi
    have hl := (List.getElem?_eq_some_iff.mp h).1
    rw [List.getElem?_set_self (by simpa using hl), List.getElem?_mapIdx, h]
    simp [fP]
  · rw [List.getElem?_set_ne (Ne.symm hi), List.getElem?_mapIdx, List.getElem?_mapIdx]
    have := h1 i hi
    cases hL : L[i]? with
    | none => rfl
    | some t =>
      have ht : t ≠ 2 := fun e => this (by rw [hL, e])
      simp [fP, ht]
def dF (ty : Nat) : Value := if ty ≤ 1 then .int 0 else if ty = 2 then .long 0 else .null
theorem fp_new {ad : Nat → Nat} {k kd : Nat} {L : List Nat} : L.mapIdx (fun j ty => fP ad (fun _ => 0) 0 k kd j ty) = L.map dF := by
  apply List.ext_getElem?
  intro i
  rw [List.getElem?_mapIdx, List.getElem?_map]
  cases L[i]? with
  | none => rfl
  | some t => simp [fP, dF]
theorem fTL_len : ∀ kd, kd < 13 → (fTL.getD kd []).length ≤ 1000 := by decide +kernel
def Fz (M : mM) (n : Nat) : Prop := (∀ i, n ≤ i → M.1 i = fun _ => 0) ∧ M.2 = fun _ => 0
theorem fz_le {M : mM} {n n' : Nat} (h : Fz M n) (g : n ≤ n') : Fz M n' := ⟨fun i hi => h.1 i (Nat.le_trans g hi), h.2⟩
theorem fz_mset {M : mM} {n k j : Nat} {v : Int32} (h : Fz M n) (g : k < n) : Fz (mset M k j v) n := ⟨fun i hi => by rw [mset_n (by omega)]; exact h.1 i hi, h.2⟩
theorem fz_lset {M : mM} {n k : Nat} (h : Fz M n) : Fz (lset M k 0) n := ⟨h.1, by funext a; rw [lset_2, h.2]; split <;> rfl⟩
def AA (sz : Nat) : Nat → Prop := fun q => sz ≤ q
theorem wq_D {ca : Nat → ClassId} {ad : Nat → Nat} {sz n : Nat} (h : ∀ k, k < 178 → ad k = sz + k) (hn : n ≤ 178) (M : mM) : va_D (AA sz) (wq ca ad M n) := by
  have key : ∀ (k : Nat) (q : Nat × va_E), (wq ca ad M n)[k]? = some q → k < n ∧ q.1 = ad k := by
    intro k q h
    rcases Nat.lt_or_ge k n with g | g
    · rw [wq_get g] at h; cases h; exact ⟨g, rfl⟩
    · rw [List.getElem?_eq_none (by simp [wq, g])] at h; cases h
  refine ⟨fun i j a b h1 h2 e => ?_, fun k q hq => ?_⟩
  · obtain ⟨g1, e1⟩ := key i a h1
    obtain ⟨g2, e2⟩ := key j b h2
    rw [e1, e2, h i (by omega), h j (by omega)] at e
    omega
  · obtain ⟨g1, e1⟩ := key k q hq
    rw [e1, h k (by omega)]
    exact Nat.le_add_right _ _
def CN (p : Program) (s : State) (m : MethodId) (args : Array Value) (meth : Method) (c : Code) (nL : Nat) (cc : ByteArray) (own : String) (D : va_G) (ca : Nat → ClassId) (ad : Nat → Nat) (sz : Nat) : Prop :=
  (p.tables.exec = Jvm.exec ∧ c.code = cc ∧ c.maxLocals = nL ∧ s.vm.findClass own = some m.cls ∧ ∀ w ∈ gw, w.before args s = true) ∧ va_K D vwCl (tyL ca) s ∧ (∀ k, k < 178 → ad k = sz + k) ∧ (∀ w ∈ nwL, va_Nw w s) ∧ meth.locks = false ∧ (va_AO "FairBlocks$Standing" s ∧ va_AO "FairBlocks$User" s) ∧ sz ≤ s.heap.size
def GN (p : Program) (l : Launch) (e : Env) (R : Room) (s : State) (m : MethodId) (args : Array Value) (below : List Frame) (meth : Method) (c : Code) (nL : Nat) (D : va_G) (ca : Nat → ClassId) (ad : Nat → Nat) (sz : Nat) (Qf : State → Prop) (nc ns pc : Nat) (lv : LV) (st : List mV) (n : Nat) (M : mM) : Prop :=
  (n ≤ 178 ∧ Fz M n) → ∀ (H : Heap) (locs : List Loc) (ls : Array Slot), va_P D vwCl (wq ca ad M n) H → H.size = sz + n → va_S (AA sz) s.heap H locs → lv_has ls nL (toL ad 0 lv) → W p l e R s m args below meth c H locs nc ns Qf (F0 m pc ls (st.map (en ad)))
def FFk (own : String) (idx kd j kt : Nat) : Prop := ∃ (C : String) (T : u_T) (N : Nat) (ty0 : Nat → FieldType) (ft : FieldType), vwCl[kd]? = some (C, T, N) ∧ (∀ w ∈ u_ws C T N, w ∈ gw) ∧ j < N ∧ Cond.fieldLink own idx (T j).1 (T j).2.1 (T j).2.2.1 ∈ gw ∧ kd < 13 ∧ (fTL.getD kd [])[j]? = some (3 + kt) ∧ (∀ k, k < N → parseFieldDescriptor (T k).2.2.1 = some (ty0 k)) ∧ (∀ a, a < N → ∀ b, b < N → a ≠ b → (T a).2.1 ≠ (T b).2.1) ∧ (T j).2.2.2 = true ∧ (T j).1 = own ∧ parseFieldDescriptor (T j).2.2.1 = some ft ∧ (∀ q, narrow ft (.ref q) = .ref q ∧ fits ft (.ref q) = true)
def NOk (own : String) (idx kd N : Nat) : Prop := ∃ (C : String) (T : u_T) (ty0 : Nat → FieldType), vwCl[kd]? = some (C, T, N) ∧ (∀ w ∈ u_ws C T N, w ∈ gw) ∧ (∀ k, k < N → parseFieldDescriptor (T k).2.2.1 = some (ty0 k)) ∧ (∀ j, j < N → defaultValue (ty0 j) = vp_V ((fTL.getD kd []).map dF) j) ∧ Cond.classLink own idx C ∈ gw ∧ Cond.instantiable C N ∈ gw ∧ Cond.initialized C ∈ gw ∧ kd < 13
section GR
variable {p : Program} {l : Launch} {e : Env} {R : Room} {s : State} {m : MethodId} {args : Array Value} {below : List Frame} {meth : Method} {c : Code} {nL : Nat} {cc : ByteArray} {own : String} {D : va_G} {ca : Nat → ClassId} {ad : Nat → Nat} {sz : Nat} {Qf : State → Prop} {nc ns pc n : Nat} {lv : LV} {st : List mV} {M : mM}
theorem rd_aload_n (hX : CN p s m args meth c nL cc own D ca ad sz) {i : Fin 4} {j : Nat} {q : Nat × Nat} (hd : decode cc pc = .ok (.aload_n i, 1)) (hi : (i : Nat) = j) (hv : lv.getD j none = some (.inr (.inr q))) (k : GN p l e R s m args below meth c nL D ca ad sz Qf nc ns (pc + 1) lv (.inr (.inr q) :: st) n M) : GN p l e R s m args below meth c nL D ca ad sz Qf nc ns pc lv st n M := fun hn H locs ls hP hz hS hl =>
  lv_aload_n hX.1.1 hX.1.2.1 hd hi (ls_of hl hv) (k hn H locs ls hP hz hS hl)
theorem rd_iload_n (hX : CN p s m args meth c nL cc own D ca ad sz) {i : Fin 4} {j : Nat} {x : Int32} (hd : decode cc pc = .ok (.iload_n i, 1)) (hi : (i : Nat) = j) (hv : lv.getD j none = some (.inl x)) (k : GN p l e R s m args below meth c nL D ca ad sz Qf nc ns (pc + 1) lv (.inl x :: st) n M) : GN p l e R s m args below meth c nL D ca ad sz Qf nc ns pc lv st n M := fun hn H locs ls hP hz hS hl =>
  lv_iload_n hX.1.1 hX.1.2.1 hd hi (ls_of hl hv) (k hn H locs ls hP hz hS hl)
theorem rd_iconst (hX : CN p s m args meth c nL cc own D ca ad sz) {a : Int} {v : Int32} (hd : decode cc pc = .ok (.iconst a, 1)) (hv : Int32.ofInt a = v) (k : GN p l e R s m args below meth c nL D ca ad sz Qf nc ns (pc + 1) lv (.inl v :: st) n M) : GN p l e R s m args below meth c nL D ca ad sz Qf nc ns pc lv st n M := fun hn H locs ls hP hz hS hl =>
  lv_iconst hX.1.1 hX.1.2.1 hd hv (k hn H locs ls hP hz hS hl)
theorem rd_bipush (hX : CN p s m args meth c nL cc own D ca ad sz) {a : Int} {v : Int32} (hd : decode cc pc = .ok (.bipush a, 2)) (hv : (Int8.ofInt a).toInt32 = v) (k : GN p l e R s m args below meth c nL D ca ad sz Qf nc ns (pc + 2) lv (.inl v :: st) n M) : GN p l e R s m args below meth c nL D ca ad sz Qf nc ns pc lv st n M := fun hn H locs ls hP hz hS hl =>
  lv_bipush hX.1.1 hX.1.2.1 hd hv (k hn H locs ls hP hz hS hl)
theorem rd_sipush (hX : CN p s m args meth c nL cc own D ca ad sz) {a : Int} {v : Int32} (hd : decode cc pc = .ok (.sipush a, 3)) (hv : (Int16.ofInt a).toInt32 = v) (k : GN p l e R s m args below meth c nL D ca ad sz Qf nc ns (pc + 3) lv (.inl v :: st) n M) : GN p l e R s m args below meth c nL D ca ad sz Qf nc ns pc lv st n M := fun hn H locs ls hP hz hS hl =>
  lv_sipush hX.1.1 hX.1.2.1 hd hv (k hn H locs ls hP hz hS hl)
theorem rd_lconst (hX : CN p s m args meth c nL cc own D ca ad sz) {a : Fin 2} {v : Int64} (hd : decode cc pc = .ok (.lconst a, 1)) (hv : Int64.ofNat (a : Nat) = v) (k : GN p l e R s m args below meth c nL D ca ad sz Qf nc ns (pc + 1) lv (.inr (.inl v) :: st) n M) : GN p l e R s m args below meth c nL D ca ad sz Qf nc ns pc lv st n M := fun hn H locs ls hP hz hS hl =>
  lv_lconst hX.1.1 hX.1.2.1 hd hv (k hn H locs ls hP hz hS hl)
theorem rd_istore_n (hX : CN p s m args meth c nL cc own D ca ad sz) {i : Fin 4} {j : Nat} {x : Int32} (hj : j < nL) (hd : decode cc pc = .ok (.istore_n i, 1)) (hi : (i : Nat) = j) (hnl : nl1 lv j) (k : GN p l e R s m args below meth c nL D ca ad sz Qf nc ns (pc + 1) (lv.set j (some (.inl x))) st n M) : GN p l e R s m args below meth c nL D ca ad sz Qf nc ns pc lv (.inl x :: st) n M := fun hn H locs ls hP hz hS hl =>
  lv_istore_n hX.1.1 hX.1.2.1 hd hi hl hj rfl fun ls2 hl2 => k hn H locs ls2 hP hz hS (has_set (v := .inl x) hnl hl2)
theorem rd_iinc (hX : CN p s m args meth c nL cc own D ca ad sz) {i : Nat} {a : Int} {v x : Int32} (hi : i < nL) (hd : decode cc pc = .ok (.iinc i a, 3)) (hv : Int32.ofInt a = v) (hx : lv.getD i none = some (.inl x)) (hnl : nl1 lv i) (k : GN p l e R s m args below meth c nL D ca ad sz Qf nc ns (pc + 3) (lv.set i (some (.inl (x + v)))) st n M) : GN p l e R s m args below meth c nL D ca ad sz Qf nc ns pc lv st n M := by
  intro hn H locs ls hP hz hS hl
  obtain ⟨j, hj⟩ := List.getElem?_of_mem ((mem_toL (ad := ad) lv 0).mpr ⟨i, .inl x, getD_some hx, rfl⟩)
  rw [Nat.zero_add] at hj
  refine lv_iinc (k := j) (x := x) hX.1.1 hX.1.2.1 hd hl hj (by rw [hv]) hi rfl fun ls' hl' => ?_
  exact k hn H locs ls' hP hz hS (has_set (v := .inl (x + v)) hnl hl')
theorem rd_goto (hX : CN p s m args meth c nL cc own D ca ad sz) {off : Int} {tgt : Nat} (hd : decode cc pc = .ok (.goto off, 3)) (ht : (pc : Int) + off = (tgt : Int)) (k : GN p l e R s m args below meth c nL D ca ad sz Qf nc ns tgt lv st n M) : GN p l e R s m args below meth c nL D ca ad sz Qf nc ns pc lv st n M := fun hn H locs ls hP hz hS hl => lv_goto hX.1.1 hX.1.2.1 hd ht (k hn H locs ls hP hz hS hl)
theorem rd_icmp_ge (hX : CN p s m args meth c nL cc own D ca ad sz) {off : Int} {tgt : Nat} {x y : Int32} (hd : decode cc pc = .ok (.if_icmp .ge off, 3)) (ht : (pc : Int) + off = (tgt : Int)) (kt : y ≤ x → GN p l e R s m args below meth c nL D ca ad sz Qf nc ns tgt lv st n M) (kf : ¬ y ≤ x → GN p l e R s m args below meth c nL D ca ad sz Qf nc ns (pc + 3) lv st n M) : GN p l e R s m args below meth c nL D ca ad sz Qf nc ns pc lv (.inl y :: .inl x :: st) n M := fun hn H locs ls hP hz hS hl =>
  lv_icmp_ge hX.1.1 hX.1.2.1 hd ht (fun g => kt g hn H locs ls hP hz hS hl) (fun g => kf g hn H locs ls hP hz hS hl)
theorem rd_dup (hX : CN p s m args meth c nL cc own D ca ad sz) {q : Nat × Nat} (hd : decode cc pc = .ok (.dup, 1)) (k : GN p l e R s m args below meth c nL D ca ad sz Qf nc ns (pc + 1) lv (.inr (.inr q) :: .inr (.inr q) :: st) n M) : GN p l e R s m args below meth c nL D ca ad sz Qf nc ns pc lv (.inr (.inr q) :: st) n M := fun hn H locs ls hP hz hS hl =>
  lv_dup hX.1.1 hX.1.2.1 hd rfl (k hn H locs ls hP hz hS hl)
theorem rd_objInit (hX : CN p s m args meth c nL cc own D ca ad sz) {q : Nat × Nat} {idx : Nat} (hlk : Cond.methodLink own idx Lib.objectInit ∈ gw) (hR : 1 ≤ R.frames ∧ csum st + 12 ≤ R.locals) (hd : decode cc pc = .ok (.invokespecial idx, 3)) (k : GN p l e R s m args below meth c nL D ca ad sz Qf nc ns (pc + 3) lv st n M) : GN p l e R s m args below meth c nL D ca ad sz Qf nc ns pc lv (.inr (.inr q) :: st) n M := fun hn H locs ls hP hz hS hl =>
  W.objInit hX.1.1 hX.1.2.1 hX.1.2.2.2.1 (hX.1.2.2.2.2 _ hlk) (hX.1.2.2.2.2 _ w_22) (hX.1.2.2.2.2 _ (show Cond.code Lib.objectInit ⟨#[0xb1]⟩ 1 none ∈ gw from w_23)) rfl (by rw [hX.1.2.2.1]; exact hl.1) (rest := st.map (en ad)) rfl hd hR.1 (by show 2 * 0 + _ + 12 ≤ _; rw [csum_en]; have := hR.2; omega) (W.eq (g2 := F0 m (pc + 3) ls (st.map (en ad))) rfl (k hn H locs ls hP hz hS hl))
theorem rd_new (hX : CN p s m args meth c nL cc own D ca ad sz) {kd idx N : Nat} (hN : NOk own idx kd N) (hk : kof n = kd) (hn : n < 178) (hR : nc + 1 ≤ R.cells ∧ ns + N ≤ R.slots) (hd : decode cc pc = .ok (.new idx, 3)) (k : GN p l e R s m args below meth c nL D ca ad sz Qf (nc + 1) (ns + N) (pc + 3) lv (.inr (.inr (kd, n)) :: st) (n + 1) M) : GN p l e R s m args below meth c nL D ca ad sz Qf nc ns pc lv st n M := by
  intro hn' H locs ls hP hz hS hl
  have hZ := hn'.2.1 n (Nat.le_refl _)
  have hZ2 : M.2 n = 0 := by rw [hn'.2.2]
  obtain ⟨C, T, ty0, hc, hin, hty, hfs, hcl, hinst, hini, h13⟩ := hN
  have hKn := hX.2.1.1 kd _ hc
  have ha : ad n = H.size := by rw [hX.2.2.1 n hn, hz]
  refine W.newcK hX.1.1 hX.1.2.1 hX.1.2.2.2.1 (hX.1.2.2.2.2 _ hcl) (hX.1.2.2.2.2 _ hinst) (hX.1.2.2.2.2 _ hini) rfl hd hR.1 hR.2 hKn.2.1 rfl fun H1 kC hkC e1 z1 o1 => ?_
  refine W.eq (g2 := F0 m (pc + 3) ls ((.inr (.inr (kd, n)) :: st : List mV).map (en ad))) ?_ (k ⟨by omega, fz_le hn'.2 (Nat.le_succ n)⟩ H1 locs ls ?_ (by omega) ⟨Nat.le_trans hS.1 (by omega), fun x h1 h2 => (o1 x (Nat.lt_of_lt_of_le h1 hS.1)).trans (hS.2.1 x h1 h2), hS.2.2⟩ hl)
  · show _ = F0 m (pc + 3) ls (Value.ref (ad n) :: st.map (en ad))
    rw [ha]
  · rw [wq_push]
    refine (hP.kept (fun k x hx => o1 x.1 ((hP k x hx).lt))).app (fun k x hx => ?_)
    have hz : k < 1 := (List.getElem?_eq_some_iff.mp hx).1
    rw [show k = 0 by omega] at hx
    cases hx
    rw [sp_obj hk h13, hZ, hZ2, fp_new, ha]
    exact ⟨_, hc, (u_born ty0 hX.1.2.2.2.2 hin hKn hkC e1 hty).to hfs⟩
theorem rd_newi (hX : CN p s m args meth c nL cc own D ca ad sz) {x : Int32} (hk : kof n = 13) (hn : n < 178) (hx : x = nI (ln n)) (hlen : ln n < 10000) (hR : nc + 1 ≤ R.cells ∧ ns + ln n ≤ R.slots) (hd : decode cc pc = .ok (.newarray .int, 2)) (k : GN p l e R s m args below meth c nL D ca ad sz Qf (nc + 1) (ns + ln n) (pc + 2) lv (.inr (.inr (13, n)) :: st) (n + 1) M) : GN p l e R s m args below meth c nL D ca ad sz Qf nc ns pc lv (.inl x :: st) n M := by
  intro hn' H locs ls hP hz hS hl
  have hZ := hn'.2.1 n (Nat.le_refl _)
  have ha : ad n = H.size := by rw [hX.2.2.1 n hn, hz]
  refine va_newaK (atype := .int) hX.1.1 hX.1.2.1 (hX.1.2.2.2.2 _ w_38) rfl hd (n := x) (N := ln n) (rest := st.map (en ad)) rfl (by rw [hx]; exact nI_pos (by omega)) (by rw [hx]; exact nI_clamp (by omega)) (by show ln n * 4 ≤ _; omega) hR.1 hR.2 rfl fun H1 cA e1 z1 o1 hAr hNm => ?_
  have hcA : cA = ca 0 := Option.some.inj (hNm.symm.trans ((hX.2.1.2 0 _ rfl).2 : s.vm.findClass ("[" ++ FieldType.int.toString) = some (ca 0)))
  refine W.eq (g2 := F0 m (pc + 2) ls ((.inr (.inr (13, n)) :: st : List mV).map (en ad))) ?_ (k ⟨by omega, fz_le hn'.2 (Nat.le_succ n)⟩ H1 locs ls ?_ (by omega) ⟨Nat.le_trans hS.1 (by omega), fun x h1 h2 => (o1 x (Nat.lt_of_lt_of_le h1 hS.1)).trans (hS.2.1 x h1 h2), hS.2.2⟩ hl)
  · show _ = F0 m (pc + 2) ls (Value.ref (ad n) :: st.map (en ad))
    rw [ha]
    first | rfl | done
  · rw [wq_push]
    refine (hP.kept (fun k x hx => o1 x.1 ((hP k x hx).lt))).app (fun k x hx => ?_)
    have hz : k < 1 := (List.getElem?_eq_some_iff.mp hx).1
    rw [show k = 0 by omega] at hx
    cases hx
    rw [sp_13 hk, hZ, ha]
    show H1[H.size]? = some (vp_cell _ _)
    rw [e1, hcA]
    rfl
theorem rd_newz (hX : CN p s m args meth c nL cc own D ca ad sz) {x : Int32} (hk : kof n = 14) (hn : n < 178) (hx : x = nI (ln n)) (hlen : ln n < 10000) (hw : Cond.arrayClass FieldType.boolean ∈ gw) (hR : nc + 1 ≤ R.cells ∧ ns + ln n ≤ R.slots) (hd : decode cc pc = .ok (.newarray .boolean, 2)) (k : GN p l e R s m args below meth c nL D ca ad sz Qf (nc + 1) (ns + ln n) (pc + 2) lv (.inr (.inr (14, n)) :: st) (n + 1) M) : GN p l e R s m args below meth c nL D ca ad sz Qf nc ns pc lv (.inl x :: st) n M := by
  intro hn' H locs ls hP hz hS hl
  have hZ := hn'.2.1 n (Nat.le_refl _)
  have ha : ad n = H.size := by rw [hX.2.2.1 n hn, hz]
  refine va_newaK (atype := .boolean) hX.1.1 hX.1.2.1 (hX.1.2.2.2.2 _ hw) rfl hd (n := x) (N := ln n) (rest := st.map (en ad)) rfl (by rw [hx]; exact nI_pos (by omega)) (by rw [hx]; exact nI_clamp (by omega)) (by show ln n * 1 ≤ _; omega) hR.1 hR.2 rfl fun H1 cA e1 z1 o1 hAr hNm => ?_
  have hcA : cA = ca 1 := Option.some.inj (hNm.symm.trans ((hX.2.1.2 1 _ rfl).2 : s.vm.findClass ("[" ++ FieldType.boolean.toString) = some (ca 1)))
  refine W.eq (g2 := F0 m (pc + 2) ls ((.inr (.inr (14, n)) :: st : List mV).map (en ad))) ?_ (k ⟨by omega, fz_le hn'.2 (Nat.le_succ n)⟩ H1 locs ls ?_ (by omega) ⟨Nat.le_trans hS.1 (by omega), fun x h1 h2 => (o1 x (Nat.lt_of_lt_of_le h1 hS.1)).trans (hS.2.1 x h1 h2), hS.2.2⟩ hl)
  · show _ = F0 m (pc + 2) ls (Value.ref (ad n) :: st.map (en ad))
    rw [ha]
    first | rfl | done
  · rw [wq_push]
    refine (hP.kept (fun k x hx => o1 x.1 ((hP k x hx).lt))).app (fun k x hx => ?_)
    have hz : k < 1 := (List.getElem?_eq_some_iff.mp hx).1
    rw [show k = 0 by omega] at hx
    cases hx
    rw [sp_14 hk, hZ, ha]
    show H1[H.size]? = some (vp_cell _ _)
    rw [e1, hcA]
    rfl
theorem rd_newq (hX : CN p s m args meth c nL cc own D ca ad sz) {x : Int32} {kd idx t0 : Nat} {C : String} (hkd : (kd = 15 ∧ t0 = 2 ∧ C = "FairBlocks$Standing") ∨ (kd = 16 ∧ t0 = 3 ∧ C = "FairBlocks$User")) (hcl : Cond.classLink own idx C ∈ gw) (hk : kof n = kd) (hn : n < 178) (hx : x = nI (ln n)) (hlen : ln n < 10000) (hR : nc + 1 ≤ R.cells ∧ ns + ln n ≤ R.slots) (hd : decode cc pc = .ok (.anewarray idx, 3)) (k : GN p l e R s m args below meth c nL D ca ad sz Qf (nc + 1) (ns + ln n) (pc + 3) lv (.inr (.inr (kd, n)) :: st) (n + 1) M) : GN p l e R s m args below meth c nL D ca ad sz Qf nc ns pc lv (.inl x :: st) n M := by
  intro hn' H locs ls hP hz hS hl
  have hZ := hn'.2.1 n (Nat.le_refl _)
  have ha : ad n = H.size := by rw [hX.2.2.1 n hn, hz]
  have hAO : va_AO C s := by
    rcases hkd with ⟨-, -, rfl⟩ | ⟨-, -, rfl⟩
    · exact hX.2.2.2.2.2.1.1
    · exact hX.2.2.2.2.2.1.2
  have hcx : x.toNatClampNeg = ln n := by rw [hx]; exact nI_clamp (by omega)
  refine W.anew hX.1.1 hX.1.2.1 hX.1.2.2.2.1 (hX.1.2.2.2.2 _ hcl) (va_AO.use hAO) rfl hd (n := x) (rest := st.map (en ad)) rfl (by rw [hx]; exact nI_pos (by omega)) (by rw [hcx]; omega) hR.1 (by rw [hcx]; exact hR.2) fun cA kA comp f1 f2 f3 f4 => ?_
  rw [hcx]
  generalize hH1 : H.push ({ cls := cA, slots := Array.replicate (ln n) .null, vm := .none } : Cell) = H1
  have z1 : H1.size = H.size + 1 := by rw [← hH1, Array.size_push]
  have e1 : H1[H.size]? = some (arrV cA (ln n) (fun _ => .null)) := by rw [← hH1, Array.getElem?_push_size, ← arrV_new]
  have o1 : ∀ q : Nat, q < H.size → H1[q]? = H[q]? := fun q hq => by rw [← hH1, Array.getElem?_push, if_neg (Nat.ne_of_lt hq)]
  have hcA : cA = ca t0 := by
    rcases hkd with ⟨-, rfl, rfl⟩ | ⟨-, rfl, rfl⟩
    · obtain ⟨kA', comp', -, -, -, g4⟩ := (hX.2.1.2 2 _ rfl).2
      exact Option.some.inj (f1.symm.trans g4)
    · obtain ⟨kA', comp', -, -, -, g4⟩ := (hX.2.1.2 3 _ rfl).2
      exact Option.some.inj (f1.symm.trans g4)
  have hsp : shP ca ad (M.1 n) (M.2 n) n = .inl (ca t0, ln n, .inr (.inr (.inr (.inr (fun _ => none))))) := by
    rcases hkd with ⟨rfl, rfl, -⟩ | ⟨rfl, rfl, -⟩
    · rw [sp_15 hk, hZ]; rfl
    · rw [sp_16 hk, hZ]; rfl
  refine W.eq (g2 := F0 m (pc + 3) ls ((.inr (.inr (kd, n)) :: st : List mV).map (en ad))) ?_ (k ⟨by omega, fz_le hn'.2 (Nat.le_succ n)⟩ H1 locs ls ?_ (by omega) ⟨Nat.le_trans hS.1 (by omega), fun x h1 h2 => (o1 x (Nat.lt_of_lt_of_le h1 hS.1)).trans (hS.2.1 x h1 h2), hS.2.2⟩ hl)
  · show _ = F0 m (pc + 3) ls (Value.ref (ad n) :: st.map (en ad))
    rw [ha]
    first | rfl | done
  · rw [wq_push]
    refine (hP.kept (fun k x hx => o1 x.1 ((hP k x hx).lt))).app (fun k x hx => ?_)
    have hz : k < 1 := (List.getElem?_eq_some_iff.mp hx).1
    rw [show k = 0 by omega] at hx
    cases hx
    rw [hsp, ha]
    show H1[H.size]? = some (vp_cell _ _)
    rw [vp_cell_q, e1, hcA]
    rfl
theorem obj_at (hX : CN p s m args meth c nL cc own D ca ad sz) {k0 kd : Nat} {H : Heap} (hk : kof k0 = kd) (h13 : kd < 13) (hlt : k0 < n) (hP : va_P D vwCl (wq ca ad M n) H) : va_at D vwCl (ad k0, .inr (kd, (fTL.getD kd []).mapIdx (fun j ty => fP ad (M.1 k0) (M.2 k0) k0 kd j ty))) H := hP k0 _ ((wq_get hlt).trans (by rw [sp_obj hk h13]))
theorem rd_putF (hX : CN p s m args meth c nL cc own D ca ad sz) {idx kd j kt k0 k2 : Nat} (hnm : meth.name = "<init>") (hf : FFk own idx kd j kt) (hk : kof k0 = kd) (hlt : k0 < n) (ht2 : tg kd j k0 = k2) (hd : decode cc pc = .ok (.putfield idx, 3)) (k : GN p l e R s m args below meth c nL D ca ad sz Qf nc ns (pc + 3) lv st n (mset M k0 (1000 + j) 1)) : GN p l e R s m args below meth c nL D ca ad sz Qf nc ns pc lv (.inr (.inr (kt, k2)) :: .inr (.inr (kd, k0)) :: st) n M := by
  intro hn H locs ls hP hz hS hl
  obtain ⟨C, T, N, ty0, ft, hc, hin, hj, hlk, h13, ht, hty, hnmT, hfin, hdecl, hpd, hv⟩ := hf
  have hD := wq_D (ca := ca) hX.2.2.1 hn.1 M
  have hw := hX.1.2.2.2.2
  have he : (wq ca ad M n)[k0]? = some (ad k0, .inr (kd, (fTL.getD kd []).mapIdx (fun j ty => fP ad (M.1 k0) (M.2 k0) k0 kd j ty))) := (wq_get hlt).trans (by rw [sp_obj hk h13])
  have e : (wq ca ad M n).set k0 (ad k0, .inr (kd, ((fTL.getD kd []).mapIdx (fun j ty => fP ad (M.1 k0) (M.2 k0) k0 kd j ty)).set j (.ref (ad k2)))) = wq ca ad (mset M k0 (1000 + j) 1) n := wq_set hlt (by rw [mset_1, mset_2, sp_obj hk h13, ← ht2, fp_setR ht (by omega) (fTL_len kd h13)]) (fun i hi => mset_n hi) (fun _ _ => rfl)
  have hlen : j < ((fTL.getD kd []).mapIdx (fun j ty => fP ad (M.1 k0) (M.2 k0) k0 kd j ty)).length := by simpa using (List.getElem?_eq_some_iff.mp ht).1
  obtain ⟨r0, g1, cell, q1, q2, q3, q4⟩ := obj_at hX hk h13 hlt hP
  obtain rfl : r0 = (C, T, N) := Option.some.inj (g1.symm.trans hc)
  have hKn := hX.2.1.1 kd _ hc
  obtain ⟨hsl, hfc, kC, hkC, hkind⟩ := hKn
  obtain ⟨cf, kf, fi, f, hi, hslj⟩ := hsl j hj
  have hlay := hw _ (hin _ (u_in_lay hj))
  unfold u_lay at hlay
  rw [if_pos hfin] at hlay
  have hcf : m.cls = cf := by
    obtain ⟨_, _, c', _, _, _, -, -, hf', -, -, -, hown2, -⟩ := Cond.laysFinal_spec hlay
    have e1 : c' = cf := by have := hi.symm.trans hf'; simp at this; exact this.1.symm
    rw [hdecl] at hown2
    rw [← e1]; exact Option.some.inj (hX.1.2.2.2.1.symm.trans hown2)
  refine W.putFinK hX.1.1 hX.1.2.1 hX.1.2.2.2.1 (hw _ hlk) hi (u_facts hfc hkC (u_lays hw hin hj) hi).1 hcf hnm (v := .ref (ad k2)) (by rw [q2]; exact u_fits hfc hkC hkind (Or.inr hlay) hi hpd (hv _).1 (hv _).2) q1 q3 (by rw [hslj]; exact k2_hasslot (q4 j hj)) rfl rfl hd fun H' x1 x2 x3 => ?_
  rw [hslj] at x1 ⊢
  have hP1 := hP.set hD he (e := .inr (kd, ((fTL.getD kd []).mapIdx (fun j ty => fP ad (M.1 k0) (M.2 k0) k0 kd j ty)).set j (.ref (ad k2)))) (H1 := H') ⟨_, hc, t_OB.to (V := updV (vp_V ((fTL.getD kd []).mapIdx (fun j ty => fP ad (M.1 k0) (M.2 k0) k0 kd j ty))) j (.ref (ad k2))) ⟨_, x1, q2, q3, t_set q4 (va_apart (own := own) hw hin ty0 hty hnmT hX.2.1 hc) hj (.ref (ad k2))⟩ (fun i _ => vp_updV_set hlen (.ref (ad k2)) i)⟩ x3
  rw [e] at hP1
  exact k ⟨hn.1, fz_mset hn.2 hlt⟩ H' _ ls hP1 (by rw [x2]; exact hz) (hS.put x2 x3 (hD.2 k0 _ he)) hl
theorem rd_puti (hX : CN p s m args meth c nL cc own D ca ad sz) {idx kd j k0 : Nat} {v : Int32} (hf : FPk own idx kd j 0 .int) (hk : kof k0 = kd) (hlt : k0 < n) (hj1 : j < 1000) (hd : decode cc pc = .ok (.putfield idx, 3)) (k : GN p l e R s m args below meth c nL D ca ad sz Qf nc ns (pc + 3) lv st n (mset M k0 j v)) : GN p l e R s m args below meth c nL D ca ad sz Qf nc ns pc lv (.inl v :: .inr (.inr (kd, k0)) :: st) n M := by
  intro hn H locs ls hP hz hS hl
  obtain ⟨C, T, N, ty0, hc, hin, hj, hlk, h13, ht, hty, hnmT, hfin, hpd⟩ := hf
  have hD := wq_D (ca := ca) hX.2.2.1 hn.1 M
  have hw := hX.1.2.2.2.2
  have he : (wq ca ad M n)[k0]? = some (ad k0, .inr (kd, (fTL.getD kd []).mapIdx (fun j ty => fP ad (M.1 k0) (M.2 k0) k0 kd j ty))) := (wq_get hlt).trans (by rw [sp_obj hk h13])
  have e : (wq ca ad M n).set k0 (ad k0, .inr (kd, ((fTL.getD kd []).mapIdx (fun j ty => fP ad (M.1 k0) (M.2 k0) k0 kd j ty)).set j (.int v))) = wq ca ad (mset M k0 j v) n := wq_set hlt (by rw [mset_1, mset_2, sp_obj hk h13, fp_set ht (by decide) hj1]) (fun i hi => mset_n hi) (fun _ _ => rfl)
  have hlen : j < ((fTL.getD kd []).mapIdx (fun j ty => fP ad (M.1 k0) (M.2 k0) k0 kd j ty)).length := by simpa using (List.getElem?_eq_some_iff.mp ht).1
  obtain ⟨r0, g1, cell, q1, q2, q3, q4⟩ := obj_at hX hk h13 hlt hP
  obtain rfl : r0 = (C, T, N) := Option.some.inj (g1.symm.trans hc)
  have hKn := hX.2.1.1 kd _ hc
  obtain ⟨hsl, hfc, kC, hkC, hkind⟩ := hKn
  obtain ⟨cf, kf, fi, f, hi, hslj⟩ := hsl j hj
  have hlay := hw _ (hin _ (u_in_lay hj))
  unfold u_lay at hlay
  rw [if_neg (by rw [hfin]; decide)] at hlay
  refine W.putK hX.1.1 hX.1.2.1 (f := f) ⟨hX.1.2.2.2.1, hw _ hlk, ⟨_, _, _, hi⟩, (u_facts hfc hkC (u_lays hw hin hj) hi).1⟩ (v := .int v) (by rw [q2]; exact u_store hfc hkC hkind hlay hi hpd rfl rfl) q1 q3 (by rw [hslj]; exact k2_hasslot (q4 j hj)) rfl rfl hd fun H' x1 x2 x3 => ?_
  rw [hslj] at x1 ⊢
  have hP1 := hP.set hD he (e := .inr (kd, ((fTL.getD kd []).mapIdx (fun j ty => fP ad (M.1 k0) (M.2 k0) k0 kd j ty)).set j (.int v))) (H1 := H') ⟨_, hc, t_OB.to (V := updV (vp_V ((fTL.getD kd []).mapIdx (fun j ty => fP ad (M.1 k0) (M.2 k0) k0 kd j ty))) j (.int v)) ⟨_, x1, q2, q3, t_set q4 (va_apart (own := own) hw hin ty0 hty hnmT hX.2.1 hc) hj (.int v)⟩ (fun i _ => vp_updV_set hlen (.int v) i)⟩ x3
  rw [e] at hP1
  exact k ⟨hn.1, fz_mset hn.2 hlt⟩ H' _ ls hP1 (by rw [x2]; exact hz) (hS.put x2 x3 (hD.2 k0 _ he)) hl
theorem rd_putl (hX : CN p s m args meth c nL cc own D ca ad sz) {idx kd j k0 : Nat} (hf : FPk own idx kd j 2 .long) (h1L : ∀ i, i ≠ j → (fTL.getD kd [])[i]? ≠ some 2) (hk : kof k0 = kd) (hlt : k0 < n) (hd : decode cc pc = .ok (.putfield idx, 3)) (k : GN p l e R s m args below meth c nL D ca ad sz Qf nc ns (pc + 3) lv st n (lset M k0 0)) : GN p l e R s m args below meth c nL D ca ad sz Qf nc ns pc lv (.inr (.inl 0) :: .inr (.inr (kd, k0)) :: st) n M := by
  intro hn H locs ls hP hz hS hl
  obtain ⟨C, T, N, ty0, hc, hin, hj, hlk, h13, ht, hty, hnmT, hfin, hpd⟩ := hf
  have hD := wq_D (ca := ca) hX.2.2.1 hn.1 M
  have hw := hX.1.2.2.2.2
  have he : (wq ca ad M n)[k0]? = some (ad k0, .inr (kd, (fTL.getD kd []).mapIdx (fun j ty => fP ad (M.1 k0) (M.2 k0) k0 kd j ty))) := (wq_get hlt).trans (by rw [sp_obj hk h13])
  have e : (wq ca ad M n).set k0 (ad k0, .inr (kd, ((fTL.getD kd []).mapIdx (fun j ty => fP ad (M.1 k0) (M.2 k0) k0 kd j ty)).set j (.long 0))) = wq ca ad (lset M k0 0) n := wq_set hlt (by rw [lset_1, lset_2, if_pos rfl, sp_obj hk h13, fp_setL ht h1L]) (fun _ _ => rfl) (fun i hi => by rw [lset_2, if_neg hi])
  have hlen : j < ((fTL.getD kd []).mapIdx (fun j ty => fP ad (M.1 k0) (M.2 k0) k0 kd j ty)).length := by simpa using (List.getElem?_eq_some_iff.mp ht).1
  obtain ⟨r0, g1, cell, q1, q2, q3, q4⟩ := obj_at hX hk h13 hlt hP
  obtain rfl : r0 = (C, T, N) := Option.some.inj (g1.symm.trans hc)
  have hKn := hX.2.1.1 kd _ hc
  obtain ⟨hsl, hfc, kC, hkC, hkind⟩ := hKn
  obtain ⟨cf, kf, fi, f, hi, hslj⟩ := hsl j hj
  have hlay := hw _ (hin _ (u_in_lay hj))
  unfold u_lay at hlay
  rw [if_neg (by rw [hfin]; decide)] at hlay
  refine W.putK hX.1.1 hX.1.2.1 (f := f) ⟨hX.1.2.2.2.1, hw _ hlk, ⟨_, _, _, hi⟩, (u_facts hfc hkC (u_lays hw hin hj) hi).1⟩ (v := .long 0) (by rw [q2]; exact u_store hfc hkC hkind hlay hi hpd rfl rfl) q1 q3 (by rw [hslj]; exact k2_hasslot (q4 j hj)) rfl rfl hd fun H' x1 x2 x3 => ?_
  rw [hslj] at x1 ⊢
  have hP1 := hP.set hD he (e := .inr (kd, ((fTL.getD kd []).mapIdx (fun j ty => fP ad (M.1 k0) (M.2 k0) k0 kd j ty)).set j (.long 0))) (H1 := H') ⟨_, hc, t_OB.to (V := updV (vp_V ((fTL.getD kd []).mapIdx (fun j ty => fP ad (M.1 k0) (M.2 k0) k0 kd j ty))) j (.long 0)) ⟨_, x1, q2, q3, t_set q4 (va_apart (own := own) hw hin ty0 hty hnmT hX.2.1 hc) hj (.long 0)⟩ (fun i _ => vp_updV_set hlen (.long 0) i)⟩ x3
  rw [e] at hP1
  exact k ⟨hn.1, fz_lset hn.2⟩ H' _ ls hP1 (by rw [x2]; exact hz) (hS.put x2 x3 (hD.2 k0 _ he)) hl
theorem rd_getr (hX : CN p s m args meth c nL cc own D ca ad sz) {idx kd j kt k0 k2 : Nat} (hf : FLk own idx kd j (3 + kt)) (hk : kof k0 = kd) (hlt : k0 < n) (ht2 : tg kd j k0 = k2) (hset : M.1 k0 (1000 + j) = 1) (hd : decode cc pc = .ok (.getfield idx, 3)) (k : GN p l e R s m args below meth c nL D ca ad sz Qf nc ns (pc + 3) lv (.inr (.inr (kt, k2)) :: st) n M) : GN p l e R s m args below meth c nL D ca ad sz Qf nc ns pc lv (.inr (.inr (kd, k0)) :: st) n M := by
  intro hn H locs ls hP hz hS hl
  obtain ⟨C, T, N, hc, hin, hj, hlk, h13, ht⟩ := hf
  exact va_get (D := D) (ws := wq ca ad M n) hX.1.1 hX.1.2.1 hX.1.2.2.2.2 hin hX.1.2.2.2.1 hX.2.1 hP k0 ((wq_get hlt).trans (by rw [sp_obj hk h13])) hc j hj (hX.1.2.2.2.2 _ hlk) (fun _ h => h) ((fp_at ht).trans (by rw [fP, if_neg (by omega), if_neg (by omega), if_pos hset, ht2]; rfl)) hd (k hn H locs ls hP hz hS hl)
theorem rd_iast (hX : CN p s m args meth c nL cc own D ca ad sz) {k0 : Nat} {i x : Int32} (hk : kof k0 = 13) (hlt : k0 < n) (hin : vp_in i (ln k0)) (hd : decode cc pc = .ok (.iastore, 1)) (k : GN p l e R s m args below meth c nL D ca ad sz Qf nc ns (pc + 1) lv st n (mset M k0 i.toNatClampNeg x)) : GN p l e R s m args below meth c nL D ca ad sz Qf nc ns pc lv (.inl x :: .inl i :: .inr (.inr (13, k0)) :: st) n M := by
  intro hn H locs ls hP hz hS hl
  have hD := wq_D (ca := ca) hX.2.2.1 hn.1 M
  have he : (wq ca ad M n)[k0]? = some (ad k0, .inl (ca 0, ln k0, .inl (M.1 k0))) := (wq_get hlt).trans (by rw [sp_13 hk])
  have e : (wq ca ad M n).set k0 (ad k0, .inl (ca 0, ln k0, .inl (upd (M.1 k0) i.toNatClampNeg x))) = wq ca ad (mset M k0 i.toNatClampNeg x) n := wq_set hlt (by rw [mset_1, mset_2, sp_13 hk]) (fun i hi => mset_n hi) (fun _ _ => rfl)
  refine W.iast hX.1.1 hX.1.2.1 (hP k0 _ he) ((hX.2.1.2 0 _ rfl).1 (ln k0) (fun j => .int (M.1 k0 j))) (fun q => by cases q) (by show ¬ (i < 0 ∨ (arrV _ _ _).slots.size ≤ _); rw [arrV_size]; exact hin) rfl rfl hd fun H1 x1 z oq => ?_
  have hP1 := hP.set hD he (e := .inl (ca 0, ln k0, .inl (upd (M.1 k0) i.toNatClampNeg x))) (H1 := H1) (by
    show H1[ad k0]? = some (vp_cell _ _)
    rw [x1, vp_cell_i, vp_cell_i, arrV_store]
    congr 2
    funext q
    by_cases hq : q = i.toNatClampNeg
    · subst hq; simp [updV, upd]
    · simp [updV, upd, hq]) oq
  rw [e] at hP1
  exact k ⟨hn.1, fz_mset hn.2 hlt⟩ H1 _ ls hP1 (by rw [z]; exact hz) (hS.put z oq (hD.2 k0 _ he)) hl
/-- a reference into a row of standings or users -/
theorem rd_aast (hX : CN p s m args meth c nL cc own D ca ad sz) {ka k0 kd k2 j t0 : Nat} (hkd : (ka = 15 ∧ t0 = 2 ∧ kd = 8 ∧ k2 = k0 + 1 + 7 * j) ∨ (ka = 16 ∧ t0 = 3 ∧ kd = 10 ∧ k2 = k0 + 1 + j)) (hk : kof k0 = ka) (hlt : k0 < n) (hk2 : kof k2 = kd) (hlt2 : k2 < n) (hj : j < ln k0) (hj1 : j < 100) (hd : decode cc pc = .ok (.aastore, 1)) (k : GN p l e R s m args below meth c nL D ca ad sz Qf nc ns (pc + 1) lv st n (mset M k0 (1000 + j) 1)) : GN p l e R s m args below meth c nL D ca ad sz Qf nc ns pc lv (.inr (.inr (kd, k2)) :: .inl (nI j) :: .inr (.inr (ka, k0)) :: st) n M := by
  intro hn H locs ls hP hz hS hl
  have hD := wq_D (ca := ca) hX.2.2.1 hn.1 M
  have hcj : (nI j).toNatClampNeg = j := nI_clamp (by omega)
  have h13 : kd < 13 := by omega
  obtain ⟨f, hf, hfn⟩ : ∃ f : Nat → Option Nat, shP ca ad (M.1 k0) (M.2 k0) k0 = .inl (ca t0, ln k0, .inr (.inr (.inr (.inr f)))) ∧ shP ca ad (upd (M.1 k0) (1000 + j) 1) (M.2 k0) k0 = .inl (ca t0, ln k0, .inr (.inr (.inr (.inr (va_up f j (some (ad k2))))))) := by
    rcases hkd with ⟨rfl, rfl, -, rfl⟩ | ⟨rfl, rfl, -, rfl⟩
    · refine ⟨_, sp_15 hk, ?_⟩
      rw [sp_15 hk]
      congr 7
      funext i
      by_cases hi : i = j
      · subst hi; simp [upd, va_up]
      · have : 1000 + i ≠ 1000 + j := by omega
        simp [upd, va_up, hi]
    · refine ⟨_, sp_16 hk, ?_⟩
      rw [sp_16 hk]
      congr 7
      funext i
      by_cases hi : i = j
      · subst hi; simp [upd, va_up]
      · have : 1000 + i ≠ 1000 + j := by omega
        simp [upd, va_up, hi]
  have he : (wq ca ad M n)[k0]? = some (ad k0, .inl (ca t0, ln k0, .inr (.inr (.inr (.inr f))))) := (wq_get hlt).trans (by rw [hf])
  have e : (wq ca ad M n).set k0 (ad k0, .inl (ca t0, ln k0, .inr (.inr (.inr (.inr (va_up f j (some (ad k2)))))))) = wq ca ad (mset M k0 (1000 + j) 1) n := wq_set hlt (by rw [mset_1, mset_2, hfn]) (fun i hi => mset_n hi) (fun _ _ => rfl)
  obtain ⟨C, T, N, hc, hcT⟩ : ∃ (C : String) (T : u_T) (N : Nat), vwCl[kd]? = some (C, T, N) ∧ (tyL ca)[t0]? = some (ca t0, .object C) := by
    rcases hkd with ⟨-, rfl, rfl, -⟩ | ⟨-, rfl, rfl, -⟩
    · exact ⟨_, _, _, rfl, rfl⟩
    · exact ⟨_, _, _, rfl, rfl⟩
  obtain ⟨r', hr', cellV, g1, g2, g3, -⟩ := obj_at hX hk2 h13 hlt2 hP
  have hcls := (hX.2.1.1 kd _ hc).2
  obtain ⟨kA, comp, k1, k2', k3, -⟩ := (hX.2.1.2 t0 _ hcT).2
  have hcomp : comp = D.1 kd := Option.some.inj (k3.symm.trans hcls.1)
  subst hcomp
  obtain ⟨kC, hkC, -⟩ := hcls.2
  refine W.aast hX.1.1 hX.1.2.1 (hP k0 _ he) (fun q h => by cases h) (fun h => by cases h) k1 k2' rfl hkC ⟨nI_pos (by omega), by show _ < (arrV _ _ _).slots.size; rw [arrV_size, hcj]; exact hj⟩ g1 (fun q h => by rw [g3] at h; cases h) (by rw [g2]; exact hkC) (by rw [g2]; exact va_assign hcls) rfl rfl hd fun H1 x1 z oq => ?_
  have hP1 := hP.set hD he (e := .inl (ca t0, ln k0, .inr (.inr (.inr (.inr (va_up f j (some (ad k2)))))))) (H1 := H1) (by
    show H1[ad k0]? = some (vp_cell _ _)
    rw [x1, hcj, vp_cell_q, vp_cell_q, arrV_store]
    congr 2
    funext q
    by_cases hq : q = j
    · subst hq; simp [updV, va_up, va_rf]
    · simp [updV, va_up, hq]) oq
  rw [e] at hP1
  exact k ⟨hn.1, fz_mset hn.2 hlt⟩ H1 _ ls hP1 (by rw [z]; exact hz) (hS.put z oq (hD.2 k0 _ he)) hl
end GR
