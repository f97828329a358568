/-! small values, one memory of ints (a key, a place) and longs (a key); the graph of objects is fixed behind the constructors -/
abbrev mV : Type := Int32 ⊕ (Int64 ⊕ (Nat × Nat))
abbrev mM : Type := (Nat → Nat → Int32) × (Nat → Int64)
abbrev LV : Type := List (Option mV)
abbrev KT : Type := LV → List mV → mM → Prop
def en (ad : Nat → Nat) : mV → Value
  | .inl x => .int x
  | .inr (.inl x) => .long x
  | .inr (.inr q) => .ref (ad q.2)
def kL : List Nat := [11, 9, 13, 1, 5, 13, 13, 8, 16, 10, 10, 10, 10, 10, 8, 16, 10, 10, 10, 10, 10, 6, 13, 13, 13, 13, 0, 15, 8, 16, 10, 10, 10, 10, 10, 8, 16, 10, 10, 10, 10, 10, 8, 16, 10, 10, 10, 10, 10, 8, 16, 10, 10, 10, 10, 10, 8, 16, 10, 10, 10, 10, 10, 8, 16, 10, 10, 10, 10, 10, 8, 16, 10, 10, 10, 10, 10, 8, 16, 10, 10, 10, 10, 10, 8, 16, 10, 10, 10, 10, 10, 8, 16, 10, 10, 10, 10, 10, 8, 16, 10, 10, 10, 10, 10, 8, 16, 10, 10, 10, 10, 10, 8, 16, 10, 10, 10, 10, 10, 8, 16, 10, 10, 10, 10, 10, 15, 8, 16, 10, 10, 10, 10, 10, 8, 16, 10, 10, 10, 10, 10, 14, 4, 3, 8, 16, 10, 10, 10, 10, 10, 7, 13, 13, 13, 13, 13, 2, 12, 13, 13, 13, 13, 13, 13, 13, 13, 13, 13, 13, 14, 13, 13, 13, 13, 13, 13, 13, 17, 18]
def lL : List Nat := [0, 0, 80, 0, 0, 30, 5, 0, 5, 0, 0, 0, 0, 0, 0, 5, 0, 0, 0, 0, 0, 0, 5, 5, 5, 4, 0, 14, 0, 5, 0, 0, 0, 0, 0, 0, 5, 0, 0, 0, 0, 0, 0, 5, 0, 0, 0, 0, 0, 0, 5, 0, 0, 0, 0, 0, 0, 5, 0, 0, 0, 0, 0, 0, 5, 0, 0, 0, 0, 0, 0, 5, 0, 0, 0, 0, 0, 0, 5, 0, 0, 0, 0, 0, 0, 5, 0, 0, 0, 0, 0, 0, 5, 0, 0, 0, 0, 0, 0, 5, 0, 0, 0, 0, 0, 0, 5, 0, 0, 0, 0, 0, 0, 5, 0, 0, 0, 0, 0, 0, 5, 0, 0, 0, 0, 0, 2, 0, 5, 0, 0, 0, 0, 0, 0, 5, 0, 0, 0, 0, 0, 2, 0, 0, 0, 5, 0, 0, 0, 0, 0, 0, 6, 6, 6, 6, 6, 0, 0, 80, 30, 5, 30, 5, 52, 52, 52, 52, 728, 104, 2, 6, 6, 6, 6, 6, 4, 5, 6, 0]
def kof (k : Nat) : Nat := kL.getD k 99
def ln (k : Nat) : Nat := lL.getD k 0
def fTL : List (List Nat) := [[18, 0, 0], [8, 11, 11, 9], [4], [4, 11], [4], [0, 0, 0, 16, 16], [8, 16, 16, 16, 16], [4, 16, 16, 16, 16, 16, 0], [19, 0, 0], [16, 0], [0, 0, 0, 1, 0, 0, 0, 0, 0, 0], [12, 4, 8, 11, 3, 18, 17, 7, 6, 10, 5, 2], [0, 16, 0, 0, 0, 0, 0, 16, 16, 0, 0, 0, 0, 16, 16, 16, 16, 16, 16, 16, 0, 16, 17, 0, 16, 16, 16, 16, 16, 2, 16, 16]]
def tgL : List (List Nat) := [[27], [4, 7, 14, 21], [3], [3, 144], [3], [0, 0, 0, 5, 6], [4, 22, 23, 24, 25], [3, 152, 153, 154, 155, 156], [0], [2], [], [1, 3, 4, 7, 26, 126, 141, 142, 143, 151, 157], [0, 159, 0, 0, 0, 0, 0, 160, 161, 0, 0, 0, 0, 162, 163, 164, 165, 166, 167, 168, 0, 169, 170, 0, 171, 172, 173, 174, 175, 0, 176, 177]]
def tg (kd j k : Nat) : Nat := if kd = 8 then k + 1 else (tgL.getD kd []).getD j 0
def okV : mV → Prop
  | .inr (.inr q) => kof q.2 = q.1
  | _ => True
def okO : Option mV → Prop
  | some v => okV v
  | none => True
theorem kof_lt {k : Nat} (h : kof k < 17) : k < 178 := by
  rcases Nat.lt_or_ge k 178 with g | g
  · exact g
  · rcases Nat.lt_or_ge k 180 with g2 | g2
    · have : k = 178 ∨ k = 179 := by omega
      rcases this with rfl | rfl <;> exact absurd h (by decide +kernel)
    · have e : kof k = 99 := by
        unfold kof
        rw [List.getD_eq_getElem?_getD, List.getElem?_eq_none (by rw [show kL.length = 180 by decide +kernel]; exact g2)]; rfl
      omega
def fV (ad : Nat → Nat) (r : Nat → Int32) (x : Int64) (k kd j ty : Nat) : Value := if ty ≤ 1 then .int (r j) else if ty = 2 then .long x else .ref (ad (tg kd j k))
def shR (ca : Nat → ClassId) (ad : Nat → Nat) (r : Nat → Int32) (x : Int64) (k : Nat) : va_E :=
  if kof k = 13 then .inl (ca 0, ln k, .inl r) else if kof k = 14 then .inl (ca 1, ln k, .inl r)
  else if kof k = 15 then .inl (ca 2, ln k, .inr (.inr (.inr (.inr (fun i => if i < ln k then some (ad (k + 1 + 7 * i)) else none)))))
  else if kof k = 16 then .inl (ca 3, ln k, .inr (.inr (.inr (.inr (fun i => if i < ln k then some (ad (k + 1 + i)) else none)))))
  else .inr (kof k, (fTL.getD (kof k) []).mapIdx (fun j ty => fV ad r x k (kof k) j ty))
def wo (ca : Nat → ClassId) (ad : Nat → Nat) (M : mM) : va_W := (List.range 178).map fun k => (ad k, shR ca ad (M.1 k) (M.2 k) k)
theorem wo_get {ca : Nat → ClassId} {ad : Nat → Nat} {M : mM} {k : Nat} (h : k < 178) : (wo ca ad M)[k]? = some (ad k, shR ca ad (M.1 k) (M.2 k) k) := by
  simp [wo, h]
theorem wo_set {ca : Nat → ClassId} {ad : Nat → Nat} {M M' : mM} {k : Nat} {e : va_E} (h : k < 178) (he : shR ca ad (M'.1 k) (M'.2 k) k = e) (h1 : ∀ j, j ≠ k → M'.1 j = M.1 j) (h2 : ∀ j, j ≠ k → M'.2 j = M.2 j) : (wo ca ad M).set k (ad k, e) = wo ca ad M' := by
  apply List.ext_getElem?
  intro j
  by_cases hj : j = k
  · subst hj
    rw [List.getElem?_set_self (by simp [wo, h]), wo_get h, he]
  · rw [List.getElem?_set_ne (Ne.symm hj)]
    rcases Nat.lt_or_ge j 178 with g | g
    · rw [wo_get g, wo_get g, h1 j hj, h2 j hj]
    · rw [List.getElem?_eq_none (by simp [wo, g]), List.getElem?_eq_none (by simp [wo, g])]
def mset (M : mM) (k j : Nat) (v : Int32) : mM := (fun a => if a = k then upd (M.1 k) j v else M.1 a, M.2)
def lset (M : mM) (k : Nat) (v : Int64) : mM := (M.1, fun a => if a = k then v else M.2 a)
theorem mset_1 {M : mM} {k j : Nat} {v : Int32} : (mset M k j v).1 k = upd (M.1 k) j v := by simp [mset]
theorem mset_n {M : mM} {k j a : Nat} {v : Int32} (h : a ≠ k) : (mset M k j v).1 a = M.1 a := by simp [mset, h]
theorem mset_2 {M : mM} {k j a : Nat} {v : Int32} : (mset M k j v).2 a = M.2 a := rfl
theorem mset_get {M : mM} {k j a b : Nat} {v : Int32} : (mset M k j v).1 a b = if a = k ∧ b = j then v else M.1 a b := by
  by_cases h : a = k
  · subst h; by_cases h2 : b = j <;> simp [mset, upd, h2]
  · simp [mset, h]
theorem lset_1 {M : mM} {k a : Nat} {v : Int64} : (lset M k v).1 a = M.1 a := rfl
theorem lset_2 {M : mM} {k a : Nat} {v : Int64} : (lset M k v).2 a = if a = k then v else M.2 a := rfl
theorem sh_obj {ca : Nat → ClassId} {ad : Nat → Nat} {r : Nat → Int32} {x : Int64} {k kd : Nat} (h : kof k = kd) (h13 : kd < 13) : shR ca ad r x k = .inr (kd, (fTL.getD kd []).mapIdx (fun j ty => fV ad r x k kd j ty)) := by
  subst h
  unfold shR
  rw [if_neg (by omega), if_neg (by omega), if_neg (by omega), if_neg (by omega)]
theorem sh_13 {ca : Nat → ClassId} {ad : Nat → Nat} {r : Nat → Int32} {x : Int64} {k : Nat} (h : kof k = 13) : shR ca ad r x k = .inl (ca 0, ln k, .inl r) := by unfold shR; rw [if_pos h]
theorem sh_14 {ca : Nat → ClassId} {ad : Nat → Nat} {r : Nat → Int32} {x : Int64} {k : Nat} (h : kof k = 14) : shR ca ad r x k = .inl (ca 1, ln k, .inl r) := by unfold shR; rw [if_neg (by omega), if_pos h]
theorem sh_15 {ca : Nat → ClassId} {ad : Nat → Nat} {r : Nat → Int32} {x : Int64} {k : Nat} (h : kof k = 15) : shR ca ad r x k = .inl (ca 2, ln k, .inr (.inr (.inr (.inr (fun i => if i < ln k then some (ad (k + 1 + 7 * i)) else none))))) := by unfold shR; rw [if_neg (by omega), if_neg (by omega), if_pos h]
theorem sh_16 {ca : Nat → ClassId} {ad : Nat → Nat} {r : Nat → Int32} {x : Int64} {k : Nat} (h : kof k = 16) : shR ca ad r x k = .inl (ca 3, ln k, .inr (.inr (.inr (.inr (fun i => if i < ln k then some (ad (k + 1 + i)) else none))))) := by unfold shR; rw [if_neg (by omega), if_neg (by omega), if_neg (by omega), if_pos h]
theorem fs_at {ad : Nat → Nat} {r : Nat → Int32} {x : Int64} {k kd j ty : Nat} {L : List Nat} (h : L[j]? = some ty) : (L.mapIdx (fun j ty => fV ad r x k kd j ty))[j]? = some (fV ad r x k kd j ty) := by
  rw [List.getElem?_mapIdx, h]; rfl
theorem fs_set {ad : Nat → Nat} {r : Nat → Int32} {x : Int64} {k kd j ty : Nat} {v : Int32} {L : List Nat} (h : L[j]? = some ty) (ht : ty ≤ 1) : (L.mapIdx (fun j ty => fV ad r x k kd j ty)).set j (.int v) = L.mapIdx (fun i ty => fV ad (upd r j v) x k kd i ty) := by
  apply List.ext_getElem?
  intro i
  by_cases hi : i = j
  · subst hi
    have hl := (List.getElem?_eq_some_iff.mp h).1
    rw [List.getElem?_set_self (by simpa using hl), List.getElem?_mapIdx, h]
    simp [fV, ht, upd]
  · rw [List.getElem?_set_ne (Ne.symm hi), List.getElem?_mapIdx, List.getElem?_mapIdx]
    cases L[i]? with
    | none => rfl
    | some t => simp [fV, upd, hi]
theorem fs_setL {ad : Nat → Nat} {r : Nat → Int32} {x v : Int64} {k kd j : Nat} {L : List Nat} (h : L[j]? = some 2) (h1 : ∀ i, i ≠ j → L[i]? ≠ some 2) : (L.mapIdx (fun j ty => fV ad r x k kd j ty)).set j (.long v) = L.mapIdx (fun j ty => fV ad r v k kd j ty) := by
  apply List.ext_getElem?
  intro i
  by_cases hi : i = j
  · subst hi
    have hl := (List.getElem?_eq_some_iff.mp h).1
    rw [List.getElem?_set_self (by simpa using hl), List.getElem?_mapIdx, h]
    simp [fV]
  · rw [List.getElem?_set_ne (Ne.symm hi), List.getElem?_mapIdx, List.getElem?_mapIdx]
    have := h1 i hi
    cases hL : L[i]? with
    | none => rfl
    | some t =>
      have ht : t ≠ 2 := fun e => this (by rw [hL, e])
      simp [fV, ht]
/-! locals -/
def toL (ad : Nat → Nat) : Nat → LV → List (Nat × Value)
  | _, [] => []
  | i, none :: r => toL ad (i + 1) r
  | i, some v :: r => (i, en ad v) :: toL ad (i + 1) r
theorem mem_toL {ad : Nat → Nat} {q : Nat × Value} : ∀ (lv : LV) (i : Nat), q ∈ toL ad i lv ↔ ∃ n v, lv[n]? = some (some v) ∧ q = (i + n, en ad v)
  | [], i => by simp [toL]
  | none :: r, i => by
    rw [toL, mem_toL r (i + 1)]
    constructor
    · rintro ⟨n, v, h1, h2⟩
      exact ⟨n + 1, v, by simpa using h1, by rw [h2]; congr 1; omega⟩
    · rintro ⟨n, v, h1, h2⟩
      cases n with
      | zero => simp at h1
      | succ n => exact ⟨n, v, by simpa using h1, by rw [h2]; congr 1; omega⟩
  | some w :: r, i => by
    rw [toL, List.mem_cons, mem_toL r (i + 1)]
    constructor
    · rintro (h | ⟨n, v, h1, h2⟩)
      · exact ⟨0, w, rfl, h⟩
      · exact ⟨n + 1, v, by simpa using h1, by rw [h2]; congr 1; omega⟩
    · rintro ⟨n, v, h1, h2⟩
      cases n with
      | zero => simp at h1; subst h1; exact Or.inl h2
      | succ n => exact Or.inr ⟨n, v, by simpa using h1, by rw [h2]; congr 1; omega⟩
theorem getD_some {lv : LV} {i : Nat} {v : mV} (h : lv.getD i none = some v) : lv[i]? = some (some v) := by
  rw [List.getD_eq_getElem?_getD] at h
  cases hl : lv[i]? with
  | none => rw [hl] at h; cases h
  | some w => rw [hl] at h; exact congrArg some h
theorem ls_of {ad : Nat → Nat} {ls : Array Slot} {nL : Nat} {lv : LV} {i : Nat} {v : mV} (h : lv_has ls nL (toL ad 0 lv)) (hv : lv.getD i none = some v) : ls[i]? = some (.val (en ad v)) :=
  h.2.2 (i, en ad v) ((mem_toL lv 0).mpr ⟨i, v, getD_some hv, by rw [Nat.zero_add]⟩)
theorem ok_of {lv : LV} {i : Nat} {v : mV} (h : ∀ v ∈ lv, okO v) (hv : lv.getD i none = some v) : okV v := h (some v) (List.mem_of_getElem? (getD_some hv))
/-- no long begins just ahead of place i -/
def nl1 (lv : LV) : Nat → Prop
  | 0 => True
  | i + 1 => match lv.getD i none with
    | some (.inr (.inl _)) => False
    | _ => True
theorem ok_set {lv : LV} {i : Nat} {v : mV} (h : ∀ v ∈ lv, okO v) (hv : okV v) : ∀ w ∈ lv.set i (some v), okO w := by
  intro w hw
  rcases List.mem_or_eq_of_mem_set hw with g | g
  · exact h w g
  · subst g; exact hv
theorem ok_setN {lv : LV} {i : Nat} (h : ∀ v ∈ lv, okO v) : ∀ w ∈ lv.set i none, okO w := by
  intro w hw
  rcases List.mem_or_eq_of_mem_set hw with g | g
  · exact h w g
  · subst g; trivial
theorem has_sub {ls : Array Slot} {nL : Nat} {l l' : List (Nat × Value)} (h : lv_has ls nL l) (hs : ∀ q ∈ l', q ∈ l) : lv_has ls nL l' := ⟨h.1, h.2.1, fun q hq => h.2.2 q (hs q hq)⟩
theorem cat_en {ad : Nat → Nat} {v : mV} (h : (en ad v).category = 2) : ∃ x, v = .inr (.inl x) := by
  rcases v with x | x | q
  · simp [en, Value.category] at h
  · exact ⟨x, rfl⟩
  · simp [en, Value.category] at h
theorem has_set {ad : Nat → Nat} {ls : Array Slot} {nL i : Nat} {lv : LV} {v : mV} (hn : nl1 lv i) (h : lv_has ls nL ((i, en ad v) :: (toL ad 0 lv).filter (fun q => !(q.1 == i) && !(q.1 + 1 == i && q.2.category == 2)))) : lv_has ls nL (toL ad 0 (lv.set i (some v))) := by
  refine has_sub h fun q hq => ?_
  obtain ⟨n, w, h1, h2⟩ := (mem_toL _ 0).mp hq
  rw [Nat.zero_add] at h2
  by_cases hi : n = i
  · subst hi
    by_cases hl : n < lv.length
    · rw [List.getElem?_set_self hl] at h1
      cases h1
      exact List.mem_cons.mpr (Or.inl h2)
    · rw [List.getElem?_eq_none (by simpa using hl)] at h1
      cases h1
  · rw [List.getElem?_set_ne (Ne.symm hi)] at h1
    refine List.mem_cons_of_mem _ (List.mem_filter.mpr ⟨(mem_toL lv 0).mpr ⟨n, w, h1, by rw [Nat.zero_add]; exact h2⟩, ?_⟩)
    subst h2
    have g1 : (n == i) = false := by simpa using hi
    by_cases g2 : n + 1 = i
    · subst g2
      have hc : (en ad w).category ≠ 2 := fun hc => by
        obtain ⟨x, rfl⟩ := cat_en hc
        have e : lv.getD n none = some (.inr (.inl x)) := by rw [List.getD_eq_getElem?_getD, h1]; rfl
        simp only [nl1, e] at hn
      simp [hc]
    · simp [hi, g2]
theorem has_setL {ad : Nat → Nat} {ls : Array Slot} {nL i : Nat} {lv : LV} {v : mV} (hn : nl1 lv i) (h : lv_has ls nL ((i, en ad v) :: (toL ad 0 lv).filter (fun q => !(q.1 == i) && (!(q.1 == i + 1) && !(q.1 + 1 == i && q.2.category == 2))))) : lv_has ls nL (toL ad 0 ((lv.set i (some v)).set (i + 1) none)) := by
  refine has_sub h fun q hq => ?_
  obtain ⟨n, w, h1, h2⟩ := (mem_toL _ 0).mp hq
  rw [Nat.zero_add] at h2
  by_cases hi1 : n = i + 1
  · subst hi1
    by_cases hl : i + 1 < (lv.set i (some v)).length
    · rw [List.getElem?_set_self hl] at h1; cases h1
    · rw [List.getElem?_eq_none (by simpa using hl)] at h1; cases h1
  · rw [List.getElem?_set_ne (Ne.symm hi1)] at h1
    by_cases hi : n = i
    · subst hi
      by_cases hl : n < lv.length
      · rw [List.getElem?_set_self hl] at h1
        cases h1
        exact List.mem_cons.mpr (Or.inl h2)
      · rw [List.getElem?_eq_none (by simpa using hl)] at h1
        cases h1
    · rw [List.getElem?_set_ne (Ne.symm hi)] at h1
      refine List.mem_cons_of_mem _ (List.mem_filter.mpr ⟨(mem_toL lv 0).mpr ⟨n, w, h1, by rw [Nat.zero_add]; exact h2⟩, ?_⟩)
      subst h2
      by_cases g2 : n + 1 = i
      · subst g2
        have hc : (en ad w).category ≠ 2 := fun hc => by
          obtain ⟨x, rfl⟩ := cat_en hc
          have e : lv.getD n none = some (.inr (.inl x)) := by rw [List.getD_eq_getElem?_getD, h1]; rfl
          simp only [nl1, e] at hn
        simp [hc]
        omega
      · simp [hi, g2, hi1]
/-- fewer known locals -/
def le1 : LV → LV → Prop
  | [], _ => True
  | none :: a, _ :: b => le1 a b
  | none :: a, [] => le1 a []
  | some v :: a, some w :: b => v = w ∧ le1 a b
  | some _ :: _, none :: _ => False
  | some _ :: _, [] => False
theorem le1_at : ∀ (a b : LV), le1 a b → ∀ (n : Nat) (v : mV), a[n]? = some (some v) → b[n]? = some (some v)
  | [], _, _, n, v, h => by simp at h
  | none :: a, w :: b, h, n, v, hn => by
    cases n with
    | zero => simp at hn
    | succ n => simpa using le1_at a b h n v (by simpa using hn)
  | none :: a, [], h, n, v, hn => by
    cases n with
    | zero => simp at hn
    | succ n => exact absurd (le1_at a [] h n v (by simpa using hn)) (by simp)
  | some x :: a, some w :: b, h, n, v, hn => by
    cases n with
    | zero => simp at hn ⊢; rw [← h.1]; exact hn
    | succ n => simpa using le1_at a b h.2 n v (by simpa using hn)
  | some _ :: _, none :: _, h, _, _, _ => h.elim
  | some _ :: _, [], h, _, _, _ => h.elim
theorem le1_ok {a b : LV} (h : le1 a b) (hb : ∀ v ∈ b, okO v) : ∀ v ∈ a, okO v := by
  intro v hv
  cases v with
  | none => trivial
  | some v =>
    obtain ⟨n, hn⟩ := List.getElem?_of_mem hv
    exact hb _ (List.mem_of_getElem? (le1_at a b h n v hn))
theorem le1_has {ad : Nat → Nat} {ls : Array Slot} {nL : Nat} {a b : LV} (h : le1 a b) (hb : lv_has ls nL (toL ad 0 b)) : lv_has ls nL (toL ad 0 a) := has_sub hb fun q hq => by
  obtain ⟨n, v, h1, h2⟩ := (mem_toL _ 0).mp hq
  exact (mem_toL _ 0).mpr ⟨n, v, le1_at a b h n v h1, h2⟩
/-- the locals with which a method begins -/
def inL : List mV → LV
  | [] => []
  | .inr (.inl x) :: r => some (.inr (.inl x)) :: none :: inL r
  | v :: r => some v :: inL r
theorem inL_args {ad : Nat → Nat} {q : Nat × Value} : ∀ (as : List mV) (i : Nat), q ∈ toL ad i (inL as) → q ∈ lv_args i (as.map (en ad))
  | [], i, h => by simp [inL, toL] at h
  | .inl x :: r, i, h => by
    simp only [inL, toL, List.map_cons, lv_args, List.mem_cons] at h ⊢
    rcases h with h | h
    · exact Or.inl h
    · exact Or.inr (by simpa [en, Value.category] using inL_args r (i + 1) h)
  | .inr (.inl x) :: r, i, h => by
    simp only [inL, toL, List.map_cons, lv_args, List.mem_cons] at h ⊢
    rcases h with h | h
    · exact Or.inl h
    · exact Or.inr (by simpa [en, Value.category] using inL_args r (i + 1 + 1) h)
  | .inr (.inr x) :: r, i, h => by
    simp only [inL, toL, List.map_cons, lv_args, List.mem_cons] at h ⊢
    rcases h with h | h
    · exact Or.inl h
    · exact Or.inr (by simpa [en, Value.category] using inL_args r (i + 1) h)
theorem toL_pad {ad : Nat → Nat} (n : Nat) : ∀ (lv : LV) (i : Nat), toL ad i (lv ++ List.replicate n none) = toL ad i lv
  | [], i => by
    induction n generalizing i with
    | zero => rfl
    | succ n ih => exact ih (i + 1)
  | none :: r, i => by simp only [List.cons_append, toL]; exact toL_pad n r (i + 1)
  | some v :: r, i => by simp only [List.cons_append, toL]; rw [toL_pad n r (i + 1)]
theorem inL_ok : ∀ (as : List mV), (∀ v ∈ as, okV v) → ∀ v ∈ inL as, okO v
  | [], _, v, h => by simp [inL] at h
  | .inl x :: r, ha, v, h => by
    simp only [inL, List.mem_cons] at h
    rcases h with rfl | h
    · trivial
    · exact inL_ok r (fun v hv => ha v (List.mem_cons_of_mem _ hv)) v h
  | .inr (.inl x) :: r, ha, v, h => by
    simp only [inL, List.mem_cons] at h
    rcases h with rfl | rfl | h
    · trivial
    · trivial
    · exact inL_ok r (fun v hv => ha v (List.mem_cons_of_mem _ hv)) v h
  | .inr (.inr x) :: r, ha, v, h => by
    simp only [inL, List.mem_cons] at h
    rcases h with rfl | h
    · exact ha _ List.mem_cons_self
    · exact inL_ok r (fun v hv => ha v (List.mem_cons_of_mem _ hv)) v h
