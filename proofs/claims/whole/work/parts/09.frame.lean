/-! what stays -/
theorem k8_ge {k : Nat} (h : kof k = 8) : 7 ≤ k := by
  have g : ∀ k, k < 178 → kof k = 8 → 7 ≤ k := by decide +kernel
  exact g k (kof_lt (by omega)) h
theorem k8_far {k : Nat} (h : kof k = 8) : k + 7 ≤ 21 ∨ 28 ≤ k := by
  have g : ∀ k, k < 178 → kof k = 8 → k + 7 ≤ 21 ∨ 28 ≤ k := by decide +kernel
  exact g k (kof_lt (by omega)) h
def fr (k a : Nat) : Prop := a < k ∨ a = k + 1 ∨ k + 7 ≤ a
def sc (a : Nat) : Prop := a < 22 ∨ 26 ≤ a
theorem fr_u {k a i : Nat} (h : fr k a) (hi : i < 5) : a ≠ k + 1 + 1 + i := by unfold fr at h; omega
theorem fr_k {k a : Nat} (h : fr k a) : a ≠ k := by unfold fr at h; omega
theorem f_ciS {M : mM} {k i a : Nat} (hi : i < 5) (h : fr k a) (hs : sc a) : (ciS k i M).1 a = M.1 a := by
  unfold ciS tkn
  unfold sc at hs
  rw [mset_n (by omega), mset_n (by omega), mset_n (by omega), mset_n (fr_u h hi)]
theorem n5 {M : mM} (h : PL M) : nU M ≤ 5 := by
  obtain ⟨N, hN, eN⟩ := h.1
  unfold nU; rw [eN, nI_clamp (by omega)]; exact hN
theorem uN {M : mM} (h : PL M) : M.1 4 2 = nI (nU M) := by
  obtain ⟨N, hN, eN⟩ := h.1
  unfold nU; rw [eN, nI_clamp (by omega)]
theorem f_comeIn {M : mM} {k a : Nat} (hPL : PL M) (h : fr k a) (hs : sc a) : (comeIn M k).1 a = M.1 a := by
  have := n5 hPL
  exact itr_inv (ciS k) (fun M2 => M2.1 a = M.1 a) (nU M) 0 M (fun j s _ h2 h3 => (f_ciS (by omega) h hs).trans h3) rfl
theorem f_roS {M : mM} {k i a : Nat} {f : Int32} (hPL : PL M) (h : fr k a) (hs : sc a) : (roS k f i M).1 a = M.1 a := by
  unfold sc at hs
  have hr := ro_h (k := k) (i := i) (f := f) hPL
  unfold roS
  generalize (if f = 0 then df M k (nI i) else -9) = w at hr ⊢
  unfold ro2
  split
  · exact mset_n (by omega)
  · next hn =>
    rcases hr with g | ⟨j, hj, rfl⟩
    · exact absurd g hn
    · rw [nI_clamp (by omega)]
      unfold ro3
      rw [mset_n (by omega), mset_n (by omega), send_n (fr_u h hj), mset_n (by omega)]
theorem f_endSlot {M : mM} {k a : Nat} (hPL : PL M) (h : fr k a) : (endSlot M k).2.1 a = M.1 a := by
  have := n5 hPL
  unfold endSlot esF
  simp only
  rw [mset_n (fr_k h)]
  exact itr_inv (esS k) (fun q => q.2.1 a = M.1 a) (nU M) 0 (0, M) (fun j q _ h2 h3 => by
    unfold esS esB esA
    simp only
    rw [mset_n (fr_u h (by omega)), mset_n (fr_u h (by omega))]
    exact h3) rfl
theorem f_mid {M : mM} {k : Nat} {f : Int32} (hk : kof k = 8) (hPL : PL M) (n i : Nat) : PL (itr (roS k f) i n M) ∧ ∀ a, fr k a → sc a → (itr (roS k f) i n M).1 a = M.1 a :=
  itr_inv (roS k f) (fun M2 => PL M2 ∧ ∀ a, fr k a → sc a → M2.1 a = M.1 a) n i M (fun j s _ _ h => by
    have h4 := p4_roS (i := j) (f := f) hk h.1
    exact ⟨PL_of h.1 h4.1 h4.2, fun a h1 h2 => (f_roS h.1 h1 h2).trans (h.2 a h1 h2)⟩) ⟨hPL, fun _ _ _ => rfl⟩
theorem f_ro {M : mM} {k a : Nat} {f : Int32} (hk : kof k = 8) (hPL : PL M) (h : fr k a) (hs : sc a) : (ro M k f).2.1 a = M.1 a := by
  have h1 := (p4_comeIn hk hPL).2
  have h2 := f_mid (f := f) hk h1 (nB M) 0
  unfold ro
  rw [f_endSlot h2.1 h, h2.2 a h hs, f_comeIn hPL h hs]
theorem PL_ro {M : mM} {k : Nat} {f : Int32} (hk : kof k = 8) (hPL : PL M) : PL (ro M k f).2 := (p4_ro hk hPL).2
theorem f_ru {M : mM} {k : Nat} (hk : kof k = 8) (hPL : PL M) (n i : Nat) (t : Int32) : PL (itr (ruS k) i n (t, M)).2 ∧ ∀ a, fr k a → sc a → (itr (ruS k) i n (t, M)).2.1 a = M.1 a :=
  itr_inv (ruS k) (fun q => PL q.2 ∧ ∀ a, fr k a → sc a → q.2.1 a = M.1 a) n i (t, M) (fun j s _ _ h => ⟨PL_ro hk h.1, fun a h1 h2 => (f_ro hk h.1 h1 h2).trans (h.2 a h1 h2)⟩) ⟨hPL, fun _ _ _ => rfl⟩
-- the users' switch
theorem o3_ciS {M : mM} {k i a : Nat} (ha : kof a = 10) : (ciS k i M).1 a 3 = M.1 a 3 := by
  unfold ciS tkn
  rw [mset_n (kne (by rw [ha]; decide +kernel)), mset_n (kne (by rw [ha]; decide +kernel)), mset_n (kne (by rw [ha]; decide +kernel)), mset_get, if_neg (by omega)]
theorem o3_send {M : mM} {uk a : Nat} {x : Int32} : (send M uk x).2.1 a 3 = M.1 a 3 := by
  unfold send send2 sendM
  split <;> (try split) <;> (try split) <;> simp [mset_get]
theorem o3_roS {M : mM} {k i a : Nat} {f : Int32} (ha : kof a = 10) : (roS k f i M).1 a 3 = M.1 a 3 := by
  unfold roS
  generalize (if f = 0 then df M k (nI i) else -9) = w
  unfold ro2 ro3
  have h22 : a ≠ 23 := kne (by rw [ha]; decide +kernel)
  have h24 : a ≠ 24 := kne (by rw [ha]; decide +kernel)
  have h25 : a ≠ 25 := kne (by rw [ha]; decide +kernel)
  split
  · rw [mset_n h25]
  · rw [mset_n h22, mset_n h24, o3_send, mset_n h25]
theorem o3_endSlot {M : mM} {k a : Nat} (ha : kof a = 10) : (endSlot M k).2.1 a 3 = M.1 a 3 := by
  unfold endSlot esF
  simp only
  rw [mset_get, if_neg (by omega)]
  exact itr_inv (esS k) (fun q => q.2.1 a 3 = M.1 a 3) (nU M) 0 (0, M) (fun j q _ h2 h3 => by
    unfold esS esB esA
    simp only
    rw [mset_get, if_neg (by omega), mset_get, if_neg (by omega)]
    exact h3) rfl
theorem o3_ro {M : mM} {k a : Nat} {f : Int32} (ha : kof a = 10) : (ro M k f).2.1 a 3 = M.1 a 3 := by
  unfold ro
  rw [o3_endSlot ha]
  have h1 : (comeIn M k).1 a 3 = M.1 a 3 := itr_inv (ciS k) (fun M2 => M2.1 a 3 = M.1 a 3) (nU M) 0 M (fun j s _ _ h => (o3_ciS ha).trans h) rfl
  exact itr_inv (roS k f) (fun M2 => M2.1 a 3 = M.1 a 3) (nB M) 0 (comeIn M k) (fun j s _ _ h => (o3_roS ha).trans h) h1
theorem OF_ro {M : mM} {k : Nat} {f : Int32} (h : OF M) : OF (ro M k f).2 := fun a ha => by rw [o3_ro ha]; exact h a ha
theorem OF_ru {M : mM} {k : Nat} (h : OF M) (n i : Nat) (t : Int32) : OF (itr (ruS k) i n (t, M)).2 :=
  itr_inv (ruS k) (fun q => OF q.2) n i (t, M) (fun j s _ _ h => OF_ro h) h
-- copies
theorem f_cpL {M : mM} {k o a : Nat} (h : fr k a) (n i : Nat) (hi : i + n ≤ 5) : (cpL M k o n i).1 a = M.1 a :=
  itr_inv (fun i M => cpU M (k + 1 + 1 + i) (o + 1 + 1 + i)) (fun M2 => M2.1 a = M.1 a) n i M (fun j s _ h2 h3 => by
    rw [← h3]
    funext b
    rw [cpU_get, if_neg (fun g => fr_u h (show j < 5 by omega) g.1)]) rfl
theorem f_stc {M : mM} {k o a : Nat} (h : fr k a) : (stc M k o).1 a = M.1 a := by
  unfold stc
  rw [mset_n (fr_k h), mset_n (fr_k h), f_cpL h 5 0 (by decide)]
theorem OF_stc {M : mM} {k o : Nat} (h : OF M) (hk : kof k = 8) (ho : kof o = 8) : OF (stc M k o) := by
  unfold stc
  refine OF_mset (OF_mset ?_ (by rw [hk]; decide)) (by rw [hk]; decide)
  exact itr_inv (fun i M => cpU M (k + 1 + 1 + i) (o + 1 + 1 + i)) OF 5 0 M (fun j s _ h2 h3 => OF_cpU h3 (kU ho (by omega))) h
theorem PL_stc {M : mM} {k o : Nat} (h : PL M) (hk : kof k = 8) : PL (stc M k o) := by
  have := k8_ge hk
  exact PL_of h (f_stc (by unfold fr; omega)) (f_stc (by unfold fr; omega))
theorem mset_2a {M : mM} {k j : Nat} {v : Int32} : (mset M k j v).2 = M.2 := rfl
theorem stc_2 {M : mM} {k o : Nat} : (stc M k o).2 = M.2 := by
  unfold stc
  rw [mset_2a, mset_2a]
  unfold cpL
  exact itr_inv (fun i M => cpU M (k + 1 + 1 + i) (o + 1 + 1 + i)) (fun M2 => M2.2 = M.2) 5 0 M (fun j s _ _ h3 => by rw [cpU_2]; exact h3) rfl
theorem c30 : Int32.toNatClampNeg 30 = 30 := by decide
theorem c20 : Int32.toNatClampNeg 20 = 20 := by decide
theorem k14 : kof 14 = 8 := by decide +kernel
theorem k7 : kof 7 = 8 := by decide +kernel
theorem k144 : kof 144 = 8 := by decide +kernel
theorem l8 : ln 8 = 5 := by decide +kernel
theorem l15 : ln 15 = 5 := by decide +kernel
/-- what calls ask for -/
def GD (M : mM) : Prop := OF M ∧ PL M
theorem GD_ro {M : mM} {k : Nat} {f : Int32} (hk : kof k = 8) (h : GD M) : GD (ro M k f).2 := ⟨OF_ro h.1, PL_ro hk h.2⟩
theorem GD_stc {M : mM} {k o : Nat} (hk : kof k = 8) (ho : kof o = 8) (h : GD M) : GD (stc M k o) := ⟨OF_stc h.1 hk ho, PL_stc h.2 hk⟩
theorem GD_ru {M : mM} {k n i : Nat} {t : Int32} (hk : kof k = 8) (h : GD M) : GD (itr (ruS k) i n (t, M)).2 := ⟨OF_ru h.1 n i t, (f_ru hk h.2 n i t).1⟩
theorem hasI_1 {M : mM} {x : Int32} (hPL : PL M) (h : ¬ hasI M x = 0) : ∃ j, j < nU M ∧ x = nI j := by
  unfold hasI at h
  split at h
  · exact absurd rfl h
  · next h0 =>
    split at h
    · exact absurd rfl h
    · next h1 =>
      obtain ⟨j, hj, rfl⟩ := nI_of h0
      rw [uN hPL] at h1
      refine ⟨j, ?_, rfl⟩
      rcases Nat.lt_or_ge j (nU M) with g | g
      · exact g
      · exact absurd (nI_le g hj) h1
theorem hasI_y {M : mM} {j : Nat} (hPL : PL M) (h : j < nU M) : hasI M (nI j) = 1 := by
  have := n5 hPL
  unfold hasI
  rw [if_neg (nI_pos (by omega)), uN hPL, if_neg (nI_ge h (by omega))]
/-! Outlook -/
def lwS (U : Nat) (_ : Nat) (q : Int32 × mM) : Int32 × mM := (mx q.1 ((ro q.2 14 0).2.1 (16 + U) 7), (ro q.2 14 0).2)
def lw (M : mM) (U N : Nat) : Int32 × mM := itr (lwS U) 0 N (0, stc M 14 7)
def pre_X4_longestWait (as : List mV) (M : mM) : Prop := ∃ c u x, as = [.inr (.inr (4, c)), .inl u, .inl x] ∧ GD M ∧ (∃ j, j < 5 ∧ u = nI j) ∧ ∃ n, n < 2 ^ 31 ∧ x = nI n
def fn_X4_longestWait : List mV → mM → Option mV × mM
  | [.inr (.inr (_, c)), .inl u, .inl x], M => (some (.inl (lw M u.toNatClampNeg x.toNatClampNeg).1), (lw M u.toNatClampNeg x.toNatClampNeg).2)
  | _, M => (none, M)
theorem ok_X4_longestWait (as : List mV) (M : mM) (h : pre_X4_longestWait as M) (_ : ∀ v ∈ as, okV v) : okR (fn_X4_longestWait as M).1 := by
  obtain ⟨c, u, x, rfl, -⟩ := h
  first | trivial | exact (by decide +kernel : kof 14 = 8)
theorem len_X4_longestWait (as : List mV) (M : mM) (h : pre_X4_longestWait as M) : (inL as).length ≤ 6 := by
  obtain ⟨c, u, x, rfl, -⟩ := h
  exact Nat.le_of_ble_eq_true rfl

theorem fl_114 : FLk "FairBlocks$Outlook" 37 10 7 0 := ⟨RX10, TX10, 10, rfl, inX10, by decide, w_114, by decide, rfl⟩
theorem fl_143 : FLk "FairBlocks$Outlook" 31 8 0 19 := ⟨RX8, TX8, 3, rfl, inX8, by decide, w_143, by decide, rfl⟩
theorem fl_200 : FLk "FairBlocks$Outlook" 21 1 3 9 := ⟨RX1, TX1, 4, rfl, inX1, by decide, w_200, by decide, rfl⟩
theorem fl_242 : FLk "FairBlocks$Outlook" 9 4 0 4 := ⟨RX4, TX4, 1, rfl, inX4, by decide, w_242, by decide, rfl⟩
theorem dX4_longestWait_0 : decode cX4_longestWait 0 = .ok (.aload_n 0, 1) := by decide +kernel
theorem dX4_longestWait_1 : decode cX4_longestWait 1 = .ok (.getfield 9, 3) := by decide +kernel
theorem dX4_longestWait_4 : decode cX4_longestWait 4 = .ok (.invokevirtual 15, 3) := by decide +kernel
theorem dX4_longestWait_7 : decode cX4_longestWait 7 = .ok (.astore_n 3, 1) := by decide +kernel
theorem dX4_longestWait_8 : decode cX4_longestWait 8 = .ok (.iconst 0, 1) := by decide +kernel
theorem dX4_longestWait_9 : decode cX4_longestWait 9 = .ok (.istore 4, 2) := by decide +kernel
theorem dX4_longestWait_11 : decode cX4_longestWait 11 = .ok (.iconst 0, 1) := by decide +kernel
theorem dX4_longestWait_12 : decode cX4_longestWait 12 = .ok (.istore 5, 2) := by decide +kernel
theorem dX4_longestWait_14 : decode cX4_longestWait 14 = .ok (.iload 5, 2) := by decide +kernel
theorem dX4_longestWait_16 : decode cX4_longestWait 16 = .ok (.iload_n 2, 1) := by decide +kernel
theorem dX4_longestWait_17 : decode cX4_longestWait 17 = .ok (.if_icmp .ge 38, 3) := by decide +kernel
theorem dX4_longestWait_20 : decode cX4_longestWait 20 = .ok (.aload_n 0, 1) := by decide +kernel
theorem dX4_longestWait_21 : decode cX4_longestWait 21 = .ok (.getfield 9, 3) := by decide +kernel
theorem dX4_longestWait_24 : decode cX4_longestWait 24 = .ok (.getfield 21, 3) := by decide +kernel
theorem dX4_longestWait_27 : decode cX4_longestWait 27 = .ok (.aload_n 3, 1) := by decide +kernel
theorem dX4_longestWait_28 : decode cX4_longestWait 28 = .ok (.iconst 0, 1) := by decide +kernel
theorem dX4_longestWait_29 : decode cX4_longestWait 29 = .ok (.invokevirtual 25, 3) := by decide +kernel
theorem dX4_longestWait_32 : decode cX4_longestWait 32 = .ok (.pop, 1) := by decide +kernel
theorem dX4_longestWait_33 : decode cX4_longestWait 33 = .ok (.iload 4, 2) := by decide +kernel
theorem dX4_longestWait_35 : decode cX4_longestWait 35 = .ok (.aload_n 3, 1) := by decide +kernel
theorem dX4_longestWait_36 : decode cX4_longestWait 36 = .ok (.getfield 31, 3) := by decide +kernel
theorem dX4_longestWait_39 : decode cX4_longestWait 39 = .ok (.iload_n 1, 1) := by decide +kernel
theorem dX4_longestWait_40 : decode cX4_longestWait 40 = .ok (.aaload, 1) := by decide +kernel
theorem dX4_longestWait_41 : decode cX4_longestWait 41 = .ok (.getfield 37, 3) := by decide +kernel
theorem dX4_longestWait_44 : decode cX4_longestWait 44 = .ok (.invokestatic 43, 3) := by decide +kernel
theorem dX4_longestWait_47 : decode cX4_longestWait 47 = .ok (.istore 4, 2) := by decide +kernel
theorem dX4_longestWait_49 : decode cX4_longestWait 49 = .ok (.iinc 5 1, 3) := by decide +kernel
theorem dX4_longestWait_52 : decode cX4_longestWait 52 = .ok (.goto (-38), 3) := by decide +kernel
theorem dX4_longestWait_55 : decode cX4_longestWait 55 = .ok (.iload 4, 2) := by decide +kernel
theorem dX4_longestWait_57 : decode cX4_longestWait 57 = .ok (.ireturn, 1) := by decide +kernel
theorem mk_X4_longestWait : MVk yX4_longestWait "FairBlocks$Outlook" cX4_longestWait 6 (Option.some FieldType.int) 2 := ⟨w_528, w_526, w_527, w_9, rfl, by decide +kernel, by decide +kernel, by decide +kernel⟩
def BX4_longestWait_0 (G : Nat → KT) (Q : Option mV → mM → Prop) : KT := (s_aload 0 (s_getr 4 1 (fun _ => 3) (s_callV 1 0 pre_X1_freshTrial fn_X1_freshTrial (s_astore 3 (s_iconst (0) (s_istore 4 (s_iconst (0) (s_istore 5 (s_at G 14 [true, true, true, true, true, true])))))))))
set_option maxRecDepth 4000 in
theorem bsX4_longestWait_0 {p : Program} {l : Launch} {e : Env} {s : State} {m : MethodId} {args : Array Value} {below : List Frame} {meth : Method} {c : Code} {D : va_G} {ca : Nat → ClassId} {ad : Nat → Nat} {A : Nat → Prop} {Q : Option mV → mM → Prop} (hX : CX p s m args meth c 6 cX4_longestWait "FairBlocks$Outlook" D ca ad A) (hr : meth.sig.returnType = (Option.some FieldType.int)) : ∀ lv st M, BX4_longestWait_0 (Gd p l e (rmD 3) s m args below meth c 6 D ca ad A 0 0 (MQ below (QC D ca ad A Q) args s 0 0 A)) Q lv st M → Gd p l e (rmD 3) s m args below meth c 6 D ca ad A 0 0 (MQ below (QC D ca ad A Q) args s 0 0 A) 0 lv st M :=
  (sd_aload_n hX dX4_longestWait_0 rfl (sd_getr hX fl_242 (fun _ => rfl) (fun _ _ _ => by decide +kernel) dX4_longestWait_1 (sd_callV hX (kd := 1) rfl (by decide) (ct_X1_freshTrial l) mk_X1_freshTrial w_529 ⟨⟨by decide, by decide⟩, by decide, by decide⟩ dX4_longestWait_4 (sd_astore_n hX (by decide) dX4_longestWait_7 rfl (sd_iconst hX dX4_longestWait_8 rfl (sd_istore hX (by decide) dX4_longestWait_9 (sd_iconst hX dX4_longestWait_11 rfl (sd_istore hX (by decide) dX4_longestWait_12 sd_at))))))))
def BX4_longestWait_14 (G : Nat → KT) (Q : Option mV → mM → Prop) : KT := (s_iload 5 (s_iload 2 (s_icmp (fun x y => y ≤ x) (s_at G 55 [false, false, false, false, true, false]) (s_aload 0 (s_getr 4 1 (fun _ => 3) (s_getr 1 6 (fun _ => 21) (s_aload 3 (s_iconst (0) (s_callV 6 2 pre_X6_runOne fn_X6_runOne (s_pop (s_iload 4 (s_aload 3 (s_getr 8 16 (fun k => k + 1) (s_iload 1 (s_aaldU (s_geti 10 7 (s_mth mx (s_istore 4 (s_iinc 5 (1) (s_at G 14 [true, true, true, true, true, true]))))))))))))))))))))
set_option maxRecDepth 4000 in
theorem bsX4_longestWait_14 {p : Program} {l : Launch} {e : Env} {s : State} {m : MethodId} {args : Array Value} {below : List Frame} {meth : Method} {c : Code} {D : va_G} {ca : Nat → ClassId} {ad : Nat → Nat} {A : Nat → Prop} {Q : Option mV → mM → Prop} (hX : CX p s m args meth c 6 cX4_longestWait "FairBlocks$Outlook" D ca ad A) (hr : meth.sig.returnType = (Option.some FieldType.int)) : ∀ lv st M, BX4_longestWait_14 (Gd p l e (rmD 3) s m args below meth c 6 D ca ad A 0 0 (MQ below (QC D ca ad A Q) args s 0 0 A)) Q lv st M → Gd p l e (rmD 3) s m args below meth c 6 D ca ad A 0 0 (MQ below (QC D ca ad A Q) args s 0 0 A) 14 lv st M :=
  (sd_iload hX dX4_longestWait_14 (sd_iload_n hX dX4_longestWait_16 rfl (sd_icmp_ge hX dX4_longestWait_17 (by decide) sd_at (sd_aload_n hX dX4_longestWait_20 rfl (sd_getr hX fl_242 (fun _ => rfl) (fun _ _ _ => by decide +kernel) dX4_longestWait_21 (sd_getr hX fl_200 (fun _ => rfl) (fun _ _ _ => by decide +kernel) dX4_longestWait_24 (sd_aload_n hX dX4_longestWait_27 rfl (sd_iconst hX dX4_longestWait_28 rfl (sd_callV hX (kd := 6) rfl (by decide) (ct_X6_runOne l) mk_X6_runOne w_530 ⟨⟨by decide, by decide⟩, by decide, by decide⟩ dX4_longestWait_29 (sd_pop hX dX4_longestWait_32 (sd_iload hX dX4_longestWait_33 (sd_aload_n hX dX4_longestWait_35 rfl (sd_getr hX fl_143 (fun _ => rfl) okA dX4_longestWait_36 (sd_iload_n hX dX4_longestWait_39 rfl (sd_aaldU hX dX4_longestWait_40 (sd_geti hX fl_114 (by decide) dX4_longestWait_41 (sd_mth hX (Or.inr ⟨rfl, rfl, rfl⟩) w_531 w_532 w_14 wm_max ⟨⟨by decide, by decide⟩, by decide, by decide⟩ dX4_longestWait_44 (sd_istore hX (by decide) dX4_longestWait_47 (sd_iinc hX (by decide) dX4_longestWait_49 rfl (sd_goto hX dX4_longestWait_52 (by decide) sd_at))))))))))))))))))))
def BX4_longestWait_55 (G : Nat → KT) (Q : Option mV → mM → Prop) : KT := (s_iload 4 (s_iret Q))
set_option maxRecDepth 4000 in
theorem bsX4_longestWait_55 {p : Program} {l : Launch} {e : Env} {s : State} {m : MethodId} {args : Array Value} {below : List Frame} {meth : Method} {c : Code} {D : va_G} {ca : Nat → ClassId} {ad : Nat → Nat} {A : Nat → Prop} {Q : Option mV → mM → Prop} (hX : CX p s m args meth c 6 cX4_longestWait "FairBlocks$Outlook" D ca ad A) (hr : meth.sig.returnType = (Option.some FieldType.int)) : ∀ lv st M, BX4_longestWait_55 (Gd p l e (rmD 3) s m args below meth c 6 D ca ad A 0 0 (MQ below (QC D ca ad A Q) args s 0 0 A)) Q lv st M → Gd p l e (rmD 3) s m args below meth c 6 D ca ad A 0 0 (MQ below (QC D ca ad A Q) args s 0 0 A) 55 lv st M :=
  (sd_iload hX dX4_longestWait_55 (sd_iret hX hr dX4_longestWait_57))
set_option maxHeartbeats 400000 in
theorem pf_X4_longestWait (G : Nat → KT) (Q : Option mV → mM → Prop) (h0 : ∀ lv st M, BX4_longestWait_0 G Q lv st M → G 0 lv st M) (h14 : ∀ lv st M, BX4_longestWait_14 G Q lv st M → G 14 lv st M) (h55 : ∀ lv st M, BX4_longestWait_55 G Q lv st M → G 55 lv st M) (as : List mV) (M : mM) (ho : ∀ v ∈ as, okV v) (hp : pre_X4_longestWait as M) (hQ : Q (fn_X4_longestWait as M).1 (fn_X4_longestWait as M).2) : G 0 (inL as ++ List.replicate (6 - (inL as).length) none) [] M := by
  obtain ⟨c, u, x, rfl, hG, ⟨U, hU, rfl⟩, N, hN, rfl⟩ := hp
  have eU : (nI U).toNatClampNeg = U := nI_clamp (by omega)
  simp only [fn_X4_longestWait, lw, eU, nI_clamp hN] at hQ
  have loop : ∀ (n i : Nat) (t : Int32) (M : mM), i + n = N → PL M → Q (some (.inl (itr (lwS U) i n (t, M)).1)) (itr (lwS U) i n (t, M)).2 → G 14 [some (.inr (.inr (4, c))), some (.inl (nI U)), some (.inl (nI N)), some (.inr (.inr (8, 14))), some (.inl t), some (.inl (nI i))] [] M := by
    intro n
    induction n with
    | zero =>
      intro i t M hi hPL hq
      obtain rfl : i = N := by omega
      (apply h14; simp only [BX4_longestWait_14, s_mth, s_mab, s_at, s_iconst, s_lconst, s_iload, s_lload, s_aload, s_istore, s_lstore, s_astore, s_iinc, s_bin, s_binG, s_un, s_lbin, s_lbinG, s_lsh, s_lcmp, s_i2l, s_l2i, s_dup, s_dup2, s_pop, s_if, s_icmp, s_geti, s_getl, s_getr, s_puti, s_putz, s_putl, s_iald, s_zald, s_iast, s_zast, s_aaldS, s_aaldU, s_gets, s_tald, s_tsw, tsw, s_iret, s_zret, s_lret, s_aret, s_vret, s_callV, s_callS, c1, nl1, keepL, csum, pushR, inL, List.getD_cons_zero, List.getD_cons_succ, List.set_cons_zero, List.set_cons_succ, List.cons_append, List.nil_append, List.append_nil, List.replicate, List.length_cons, List.length_nil, List.take_succ_cons, List.take_zero, List.drop_succ_cons, List.drop_zero, List.reverse_cons, List.reverse_nil, true_and, and_true, forall_const, not_true_eq_false, not_false_eq_true, false_implies, true_implies, implies_true, one0, m10, Nat.reduceAdd, Nat.reduceSub, Nat.reduceLeDiff, Nat.zero_add, Nat.add_zero, fn_X1_freshTrial, fn_X6_runOne])
      refine ⟨fun _ => ?_, fun h => absurd (nI_le (Nat.le_refl i) (by omega)) h⟩
      (apply h55; simp only [BX4_longestWait_55, s_mth, s_mab, s_at, s_iconst, s_lconst, s_iload, s_lload, s_aload, s_istore, s_lstore, s_astore, s_iinc, s_bin, s_binG, s_un, s_lbin, s_lbinG, s_lsh, s_lcmp, s_i2l, s_l2i, s_dup, s_dup2, s_pop, s_if, s_icmp, s_geti, s_getl, s_getr, s_puti, s_putz, s_putl, s_iald, s_zald, s_iast, s_zast, s_aaldS, s_aaldU, s_gets, s_tald, s_tsw, tsw, s_iret, s_zret, s_lret, s_aret, s_vret, s_callV, s_callS, c1, nl1, keepL, csum, pushR, inL, List.getD_cons_zero, List.getD_cons_succ, List.set_cons_zero, List.set_cons_succ, List.cons_append, List.nil_append, List.append_nil, List.replicate, List.length_cons, List.length_nil, List.take_succ_cons, List.take_zero, List.drop_succ_cons, List.drop_zero, List.reverse_cons, List.reverse_nil, true_and, and_true, forall_const, not_true_eq_false, not_false_eq_true, false_implies, true_implies, implies_true, one0, m10, Nat.reduceAdd, Nat.reduceSub, Nat.reduceLeDiff, Nat.zero_add, Nat.add_zero, fn_X1_freshTrial, fn_X6_runOne])
      exact hq
    | succ n ih =>
      intro i t M hi hPL hq
      (apply h14; simp only [BX4_longestWait_14, s_mth, s_mab, s_at, s_iconst, s_lconst, s_iload, s_lload, s_aload, s_istore, s_lstore, s_astore, s_iinc, s_bin, s_binG, s_un, s_lbin, s_lbinG, s_lsh, s_lcmp, s_i2l, s_l2i, s_dup, s_dup2, s_pop, s_if, s_icmp, s_geti, s_getl, s_getr, s_puti, s_putz, s_putl, s_iald, s_zald, s_iast, s_zast, s_aaldS, s_aaldU, s_gets, s_tald, s_tsw, tsw, s_iret, s_zret, s_lret, s_aret, s_vret, s_callV, s_callS, c1, nl1, keepL, csum, pushR, inL, List.getD_cons_zero, List.getD_cons_succ, List.set_cons_zero, List.set_cons_succ, List.cons_append, List.nil_append, List.append_nil, List.replicate, List.length_cons, List.length_nil, List.take_succ_cons, List.take_zero, List.drop_succ_cons, List.drop_zero, List.reverse_cons, List.reverse_nil, true_and, and_true, forall_const, not_true_eq_false, not_false_eq_true, false_implies, true_implies, implies_true, one0, m10, Nat.reduceAdd, Nat.reduceSub, Nat.reduceLeDiff, Nat.zero_add, Nat.add_zero, fn_X1_freshTrial, fn_X6_runOne])
      refine ⟨fun h => absurd h (nI_ge (by omega) (by omega)), fun _ => ⟨⟨_, _, _, rfl, hPL⟩, by rw [l15]; exact vp_in_nI hU (by decide), ?_⟩⟩
      rw [nI_1, eU]
      exact ih (i + 1) _ _ (by omega) (PL_ro k14 hPL) hq
  (apply h0; simp only [BX4_longestWait_0, s_mth, s_mab, s_at, s_iconst, s_lconst, s_iload, s_lload, s_aload, s_istore, s_lstore, s_astore, s_iinc, s_bin, s_binG, s_un, s_lbin, s_lbinG, s_lsh, s_lcmp, s_i2l, s_l2i, s_dup, s_dup2, s_pop, s_if, s_icmp, s_geti, s_getl, s_getr, s_puti, s_putz, s_putl, s_iald, s_zald, s_iast, s_zast, s_aaldS, s_aaldU, s_gets, s_tald, s_tsw, tsw, s_iret, s_zret, s_lret, s_aret, s_vret, s_callV, s_callS, c1, nl1, keepL, csum, pushR, inL, List.getD_cons_zero, List.getD_cons_succ, List.set_cons_zero, List.set_cons_succ, List.cons_append, List.nil_append, List.append_nil, List.replicate, List.length_cons, List.length_nil, List.take_succ_cons, List.take_zero, List.drop_succ_cons, List.drop_zero, List.reverse_cons, List.reverse_nil, true_and, and_true, forall_const, not_true_eq_false, not_false_eq_true, false_implies, true_implies, implies_true, one0, m10, Nat.reduceAdd, Nat.reduceSub, Nat.reduceLeDiff, Nat.zero_add, Nat.add_zero, fn_X1_freshTrial, fn_X6_runOne])
  exact ⟨⟨_, rfl, hG.1⟩, loop N 0 0 _ (by omega) (PL_stc hG.2 k14) hQ⟩
theorem ct_X4_longestWait (l : Launch) : Con l yX4_longestWait cX4_longestWait 6 (Option.some FieldType.int) 3 pre_X4_longestWait fn_X4_longestWait := con_of (by decide +kernel) ok_X4_longestWait len_X4_longestWait (fun p e s m args below meth c D ca ad A as M hX hr hp ho => pf_X4_longestWait _ _ (bsX4_longestWait_0 hX hr) (bsX4_longestWait_14 hX hr) (bsX4_longestWait_55 hX hr) as M ho hp ⟨rfl, rfl⟩)
def suL (U : Nat) : Nat → Nat → mM → Int32 × mM
  | 0, _, M => (-9, M)
  | n + 1, i, M => if M.1 (16 + U) 4 + M.1 (16 + U) 5 = 0 then (nI i, M) else suL U n (i + 1) (ro M 14 0).2
def seF (M : mM) (U : Nat) : Int32 × mM := suL U 61 0 (stc M 14 7)
def pre_X4_slotsUntilEmpty (as : List mV) (M : mM) : Prop := ∃ c u, as = [.inr (.inr (4, c)), .inl u] ∧ GD M ∧ ∃ j, j < 5 ∧ u = nI j
def fn_X4_slotsUntilEmpty : List mV → mM → Option mV × mM
  | [.inr (.inr (_, c)), .inl u], M => (some (.inl (seF M u.toNatClampNeg).1), (seF M u.toNatClampNeg).2)
  | _, M => (none, M)
theorem ok_X4_slotsUntilEmpty (as : List mV) (M : mM) (h : pre_X4_slotsUntilEmpty as M) (_ : ∀ v ∈ as, okV v) : okR (fn_X4_slotsUntilEmpty as M).1 := by
  obtain ⟨c, u, rfl, -⟩ := h
  first | trivial | exact (by decide +kernel : kof 14 = 8)
theorem len_X4_slotsUntilEmpty (as : List mV) (M : mM) (h : pre_X4_slotsUntilEmpty as M) : (inL as).length ≤ 4 := by
  obtain ⟨c, u, rfl, -⟩ := h
  exact Nat.le_of_ble_eq_true rfl


theorem dX4_slotsUntilEmpty_0 : decode cX4_slotsUntilEmpty 0 = .ok (.aload_n 0, 1) := by decide +kernel
theorem dX4_slotsUntilEmpty_1 : decode cX4_slotsUntilEmpty 1 = .ok (.getfield 9, 3) := by decide +kernel
theorem dX4_slotsUntilEmpty_4 : decode cX4_slotsUntilEmpty 4 = .ok (.invokevirtual 15, 3) := by decide +kernel
theorem dX4_slotsUntilEmpty_7 : decode cX4_slotsUntilEmpty 7 = .ok (.astore_n 2, 1) := by decide +kernel
theorem dX4_slotsUntilEmpty_8 : decode cX4_slotsUntilEmpty 8 = .ok (.iconst 0, 1) := by decide +kernel
theorem dX4_slotsUntilEmpty_9 : decode cX4_slotsUntilEmpty 9 = .ok (.istore_n 3, 1) := by decide +kernel
theorem dX4_slotsUntilEmpty_10 : decode cX4_slotsUntilEmpty 10 = .ok (.iload_n 3, 1) := by decide +kernel
theorem dX4_slotsUntilEmpty_11 : decode cX4_slotsUntilEmpty 11 = .ok (.bipush 60, 2) := by decide +kernel
theorem dX4_slotsUntilEmpty_13 : decode cX4_slotsUntilEmpty 13 = .ok (.if_icmp .gt 36, 3) := by decide +kernel
theorem dX4_slotsUntilEmpty_16 : decode cX4_slotsUntilEmpty 16 = .ok (.aload_n 2, 1) := by decide +kernel
theorem dX4_slotsUntilEmpty_17 : decode cX4_slotsUntilEmpty 17 = .ok (.getfield 31, 3) := by decide +kernel
theorem dX4_slotsUntilEmpty_20 : decode cX4_slotsUntilEmpty 20 = .ok (.iload_n 1, 1) := by decide +kernel
theorem dX4_slotsUntilEmpty_21 : decode cX4_slotsUntilEmpty 21 = .ok (.aaload, 1) := by decide +kernel
theorem dX4_slotsUntilEmpty_22 : decode cX4_slotsUntilEmpty 22 = .ok (.invokevirtual 49, 3) := by decide +kernel
theorem dX4_slotsUntilEmpty_25 : decode cX4_slotsUntilEmpty 25 = .ok (.ifCond .ne 5, 3) := by decide +kernel
theorem dX4_slotsUntilEmpty_28 : decode cX4_slotsUntilEmpty 28 = .ok (.iload_n 3, 1) := by decide +kernel
theorem dX4_slotsUntilEmpty_29 : decode cX4_slotsUntilEmpty 29 = .ok (.ireturn, 1) := by decide +kernel
theorem dX4_slotsUntilEmpty_30 : decode cX4_slotsUntilEmpty 30 = .ok (.aload_n 0, 1) := by decide +kernel
theorem dX4_slotsUntilEmpty_31 : decode cX4_slotsUntilEmpty 31 = .ok (.getfield 9, 3) := by decide +kernel
theorem dX4_slotsUntilEmpty_34 : decode cX4_slotsUntilEmpty 34 = .ok (.getfield 21, 3) := by decide +kernel
theorem dX4_slotsUntilEmpty_37 : decode cX4_slotsUntilEmpty 37 = .ok (.aload_n 2, 1) := by decide +kernel
theorem dX4_slotsUntilEmpty_38 : decode cX4_slotsUntilEmpty 38 = .ok (.iconst 0, 1) := by decide +kernel
theorem dX4_slotsUntilEmpty_39 : decode cX4_slotsUntilEmpty 39 = .ok (.invokevirtual 25, 3) := by decide +kernel
theorem dX4_slotsUntilEmpty_42 : decode cX4_slotsUntilEmpty 42 = .ok (.pop, 1) := by decide +kernel
theorem dX4_slotsUntilEmpty_43 : decode cX4_slotsUntilEmpty 43 = .ok (.iinc 3 1, 3) := by decide +kernel
theorem dX4_slotsUntilEmpty_46 : decode cX4_slotsUntilEmpty 46 = .ok (.goto (-36), 3) := by decide +kernel
theorem dX4_slotsUntilEmpty_49 : decode cX4_slotsUntilEmpty 49 = .ok (.bipush (-9), 2) := by decide +kernel
theorem dX4_slotsUntilEmpty_51 : decode cX4_slotsUntilEmpty 51 = .ok (.ireturn, 1) := by decide +kernel
theorem mk_X4_slotsUntilEmpty : MVk yX4_slotsUntilEmpty "FairBlocks$Outlook" cX4_slotsUntilEmpty 4 (Option.some FieldType.int) 1 := ⟨w_541, w_539, w_540, w_9, rfl, by decide +kernel, by decide +kernel, by decide +kernel⟩
def BX4_slotsUntilEmpty_0 (G : Nat → KT) (Q : Option mV → mM → Prop) : KT := (s_aload 0 (s_getr 4 1 (fun _ => 3) (s_callV 1 0 pre_X1_freshTrial fn_X1_freshTrial (s_astore 2 (s_iconst (0) (s_istore 3 (s_at G 10 [true, true, true, true])))))))
set_option maxRecDepth 4000 in
theorem bsX4_slotsUntilEmpty_0 {p : Program} {l : Launch} {e : Env} {s : State} {m : MethodId} {args : Array Value} {below : List Frame} {meth : Method} {c : Code} {D : va_G} {ca : Nat → ClassId} {ad : Nat → Nat} {A : Nat → Prop} {Q : Option mV → mM → Prop} (hX : CX p s m args meth c 4 cX4_slotsUntilEmpty "FairBlocks$Outlook" D ca ad A) (hr : meth.sig.returnType = (Option.some FieldType.int)) : ∀ lv st M, BX4_slotsUntilEmpty_0 (Gd p l e (rmD 3) s m args below meth c 4 D ca ad A 0 0 (MQ below (QC D ca ad A Q) args s 0 0 A)) Q lv st M → Gd p l e (rmD 3) s m args below meth c 4 D ca ad A 0 0 (MQ below (QC D ca ad A Q) args s 0 0 A) 0 lv st M :=
  (sd_aload_n hX dX4_slotsUntilEmpty_0 rfl (sd_getr hX fl_242 (fun _ => rfl) (fun _ _ _ => by decide +kernel) dX4_slotsUntilEmpty_1 (sd_callV hX (kd := 1) rfl (by decide) (ct_X1_freshTrial l) mk_X1_freshTrial w_529 ⟨⟨by decide, by decide⟩, by decide, by decide⟩ dX4_slotsUntilEmpty_4 (sd_astore_n hX (by decide) dX4_slotsUntilEmpty_7 rfl (sd_iconst hX dX4_slotsUntilEmpty_8 rfl (sd_istore_n hX (by decide) dX4_slotsUntilEmpty_9 rfl sd_at))))))
def BX4_slotsUntilEmpty_10 (G : Nat → KT) (Q : Option mV → mM → Prop) : KT := (s_iload 3 (s_iconst (60) (s_icmp (fun x y => y < x) (s_at G 49 [false, false, false, false]) (s_aload 2 (s_getr 8 16 (fun k => k + 1) (s_iload 1 (s_aaldU (s_callV 10 0 pre_X10_waiting fn_X10_waiting (s_if (fun x => x = 0) ((s_iload 3 (s_iret Q))) (s_at G 30 [true, true, true, true]))))))))))
set_option maxRecDepth 4000 in
theorem bsX4_slotsUntilEmpty_10 {p : Program} {l : Launch} {e : Env} {s : State} {m : MethodId} {args : Array Value} {below : List Frame} {meth : Method} {c : Code} {D : va_G} {ca : Nat → ClassId} {ad : Nat → Nat} {A : Nat → Prop} {Q : Option mV → mM → Prop} (hX : CX p s m args meth c 4 cX4_slotsUntilEmpty "FairBlocks$Outlook" D ca ad A) (hr : meth.sig.returnType = (Option.some FieldType.int)) : ∀ lv st M, BX4_slotsUntilEmpty_10 (Gd p l e (rmD 3) s m args below meth c 4 D ca ad A 0 0 (MQ below (QC D ca ad A Q) args s 0 0 A)) Q lv st M → Gd p l e (rmD 3) s m args below meth c 4 D ca ad A 0 0 (MQ below (QC D ca ad A Q) args s 0 0 A) 10 lv st M :=
  (sd_iload_n hX dX4_slotsUntilEmpty_10 rfl (sd_bipush hX dX4_slotsUntilEmpty_11 rfl (sd_icmp_gt hX dX4_slotsUntilEmpty_13 (by decide) sd_at (sd_aload_n hX dX4_slotsUntilEmpty_16 rfl (sd_getr hX fl_143 (fun _ => rfl) okA dX4_slotsUntilEmpty_17 (sd_iload_n hX dX4_slotsUntilEmpty_20 rfl (sd_aaldU hX dX4_slotsUntilEmpty_21 (sd_callV hX (kd := 10) rfl (by decide) (ct_X10_waiting l) mk_X10_waiting w_542 ⟨⟨by decide, by decide⟩, by decide, by decide⟩ dX4_slotsUntilEmpty_22 (sd_if_ne hX dX4_slotsUntilEmpty_25 (by decide) sd_at (sd_iload_n hX dX4_slotsUntilEmpty_28 rfl (sd_iret hX hr dX4_slotsUntilEmpty_29)))))))))))
def BX4_slotsUntilEmpty_30 (G : Nat → KT) (Q : Option mV → mM → Prop) : KT := (s_aload 0 (s_getr 4 1 (fun _ => 3) (s_getr 1 6 (fun _ => 21) (s_aload 2 (s_iconst (0) (s_callV 6 2 pre_X6_runOne fn_X6_runOne (s_pop (s_iinc 3 (1) (s_at G 10 [true, true, true, true])))))))))
set_option maxRecDepth 4000 in
theorem bsX4_slotsUntilEmpty_30 {p : Program} {l : Launch} {e : Env} {s : State} {m : MethodId} {args : Array Value} {below : List Frame} {meth : Method} {c : Code} {D : va_G} {ca : Nat → ClassId} {ad : Nat → Nat} {A : Nat → Prop} {Q : Option mV → mM → Prop} (hX : CX p s m args meth c 4 cX4_slotsUntilEmpty "FairBlocks$Outlook" D ca ad A) (hr : meth.sig.returnType = (Option.some FieldType.int)) : ∀ lv st M, BX4_slotsUntilEmpty_30 (Gd p l e (rmD 3) s m args below meth c 4 D ca ad A 0 0 (MQ below (QC D ca ad A Q) args s 0 0 A)) Q lv st M → Gd p l e (rmD 3) s m args below meth c 4 D ca ad A 0 0 (MQ below (QC D ca ad A Q) args s 0 0 A) 30 lv st M :=
  (sd_aload_n hX dX4_slotsUntilEmpty_30 rfl (sd_getr hX fl_242 (fun _ => rfl) (fun _ _ _ => by decide +kernel) dX4_slotsUntilEmpty_31 (sd_getr hX fl_200 (fun _ => rfl) (fun _ _ _ => by decide +kernel) dX4_slotsUntilEmpty_34 (sd_aload_n hX dX4_slotsUntilEmpty_37 rfl (sd_iconst hX dX4_slotsUntilEmpty_38 rfl (sd_callV hX (kd := 6) rfl (by decide) (ct_X6_runOne l) mk_X6_runOne w_530 ⟨⟨by decide, by decide⟩, by decide, by decide⟩ dX4_slotsUntilEmpty_39 (sd_pop hX dX4_slotsUntilEmpty_42 (sd_iinc hX (by decide) dX4_slotsUntilEmpty_43 rfl (sd_goto hX dX4_slotsUntilEmpty_46 (by decide) sd_at)))))))))
def BX4_slotsUntilEmpty_49 (G : Nat → KT) (Q : Option mV → mM → Prop) : KT := (s_iconst (-9) (s_iret Q))
set_option maxRecDepth 4000 in
theorem bsX4_slotsUntilEmpty_49 {p : Program} {l : Launch} {e : Env} {s : State} {m : MethodId} {args : Array Value} {below : List Frame} {meth : Method} {c : Code} {D : va_G} {ca : Nat → ClassId} {ad : Nat → Nat} {A : Nat → Prop} {Q : Option mV → mM → Prop} (hX : CX p s m args meth c 4 cX4_slotsUntilEmpty "FairBlocks$Outlook" D ca ad A) (hr : meth.sig.returnType = (Option.some FieldType.int)) : ∀ lv st M, BX4_slotsUntilEmpty_49 (Gd p l e (rmD 3) s m args below meth c 4 D ca ad A 0 0 (MQ below (QC D ca ad A Q) args s 0 0 A)) Q lv st M → Gd p l e (rmD 3) s m args below meth c 4 D ca ad A 0 0 (MQ below (QC D ca ad A Q) args s 0 0 A) 49 lv st M :=
  (sd_bipush hX dX4_slotsUntilEmpty_49 rfl (sd_iret hX hr dX4_slotsUntilEmpty_51))
set_option maxHeartbeats 400000 in
theorem pf_X4_slotsUntilEmpty (G : Nat → KT) (Q : Option mV → mM → Prop) (h0 : ∀ lv st M, BX4_slotsUntilEmpty_0 G Q lv st M → G 0 lv st M) (h10 : ∀ lv st M, BX4_slotsUntilEmpty_10 G Q lv st M → G 10 lv st M) (h30 : ∀ lv st M, BX4_slotsUntilEmpty_30 G Q lv st M → G 30 lv st M) (h49 : ∀ lv st M, BX4_slotsUntilEmpty_49 G Q lv st M → G 49 lv st M) (as : List mV) (M : mM) (ho : ∀ v ∈ as, okV v) (hp : pre_X4_slotsUntilEmpty as M) (hQ : Q (fn_X4_slotsUntilEmpty as M).1 (fn_X4_slotsUntilEmpty as M).2) : G 0 (inL as ++ List.replicate (4 - (inL as).length) none) [] M := by
  obtain ⟨c, u, rfl, hG, U, hU, rfl⟩ := hp
  have eU : (nI U).toNatClampNeg = U := nI_clamp (by omega)
  simp only [fn_X4_slotsUntilEmpty, seF, eU] at hQ
  have loop : ∀ (n i : Nat) (M : mM), i + n = 61 → PL M → Q (some (.inl (suL U n i M).1)) (suL U n i M).2 → G 10 [some (.inr (.inr (4, c))), some (.inl (nI U)), some (.inr (.inr (8, 14))), some (.inl (nI i))] [] M := by
    intro n
    induction n with
    | zero =>
      intro i M hi hPL hq
      obtain rfl : i = 61 := by omega
      (apply h10; simp only [BX4_slotsUntilEmpty_10, s_mth, s_mab, s_at, s_iconst, s_lconst, s_iload, s_lload, s_aload, s_istore, s_lstore, s_astore, s_iinc, s_bin, s_binG, s_un, s_lbin, s_lbinG, s_lsh, s_lcmp, s_i2l, s_l2i, s_dup, s_dup2, s_pop, s_if, s_icmp, s_geti, s_getl, s_getr, s_puti, s_putz, s_putl, s_iald, s_zald, s_iast, s_zast, s_aaldS, s_aaldU, s_gets, s_tald, s_tsw, tsw, s_iret, s_zret, s_lret, s_aret, s_vret, s_callV, s_callS, c1, nl1, keepL, csum, pushR, inL, List.getD_cons_zero, List.getD_cons_succ, List.set_cons_zero, List.set_cons_succ, List.cons_append, List.nil_append, List.append_nil, List.replicate, List.length_cons, List.length_nil, List.take_succ_cons, List.take_zero, List.drop_succ_cons, List.drop_zero, List.reverse_cons, List.reverse_nil, true_and, and_true, forall_const, not_true_eq_false, not_false_eq_true, false_implies, true_implies, implies_true, one0, m10, Nat.reduceAdd, Nat.reduceSub, Nat.reduceLeDiff, Nat.zero_add, Nat.add_zero, fn_X10_waiting, fn_X1_freshTrial, fn_X6_runOne])
      refine ⟨fun _ => ?_, fun h => absurd (by decide) h⟩
      (apply h49; simp only [BX4_slotsUntilEmpty_49, s_mth, s_mab, s_at, s_iconst, s_lconst, s_iload, s_lload, s_aload, s_istore, s_lstore, s_astore, s_iinc, s_bin, s_binG, s_un, s_lbin, s_lbinG, s_lsh, s_lcmp, s_i2l, s_l2i, s_dup, s_dup2, s_pop, s_if, s_icmp, s_geti, s_getl, s_getr, s_puti, s_putz, s_putl, s_iald, s_zald, s_iast, s_zast, s_aaldS, s_aaldU, s_gets, s_tald, s_tsw, tsw, s_iret, s_zret, s_lret, s_aret, s_vret, s_callV, s_callS, c1, nl1, keepL, csum, pushR, inL, List.getD_cons_zero, List.getD_cons_succ, List.set_cons_zero, List.set_cons_succ, List.cons_append, List.nil_append, List.append_nil, List.replicate, List.length_cons, List.length_nil, List.take_succ_cons, List.take_zero, List.drop_succ_cons, List.drop_zero, List.reverse_cons, List.reverse_nil, true_and, and_true, forall_const, not_true_eq_false, not_false_eq_true, false_implies, true_implies, implies_true, one0, m10, Nat.reduceAdd, Nat.reduceSub, Nat.reduceLeDiff, Nat.zero_add, Nat.add_zero, fn_X10_waiting, fn_X1_freshTrial, fn_X6_runOne])
      exact hq
    | succ n ih =>
      intro i M hi hPL hq
      (apply h10; simp only [BX4_slotsUntilEmpty_10, s_mth, s_mab, s_at, s_iconst, s_lconst, s_iload, s_lload, s_aload, s_istore, s_lstore, s_astore, s_iinc, s_bin, s_binG, s_un, s_lbin, s_lbinG, s_lsh, s_lcmp, s_i2l, s_l2i, s_dup, s_dup2, s_pop, s_if, s_icmp, s_geti, s_getl, s_getr, s_puti, s_putz, s_putl, s_iald, s_zald, s_iast, s_zast, s_aaldS, s_aaldU, s_gets, s_tald, s_tsw, tsw, s_iret, s_zret, s_lret, s_aret, s_vret, s_callV, s_callS, c1, nl1, keepL, csum, pushR, inL, List.getD_cons_zero, List.getD_cons_succ, List.set_cons_zero, List.set_cons_succ, List.cons_append, List.nil_append, List.append_nil, List.replicate, List.length_cons, List.length_nil, List.take_succ_cons, List.take_zero, List.drop_succ_cons, List.drop_zero, List.reverse_cons, List.reverse_nil, true_and, and_true, forall_const, not_true_eq_false, not_false_eq_true, false_implies, true_implies, implies_true, one0, m10, Nat.reduceAdd, Nat.reduceSub, Nat.reduceLeDiff, Nat.zero_add, Nat.add_zero, fn_X10_waiting, fn_X1_freshTrial, fn_X6_runOne])
      refine ⟨fun h => absurd h (nI_nlt (b := i) (a := 60) (by omega) (by decide)), fun _ => ⟨by rw [l15]; exact vp_in_nI hU (by decide), ⟨_, rfl⟩, fun h => ?_, fun h => ?_⟩⟩
      · rw [eU] at h
        rw [suL, if_pos h] at hq
        exact hq
      · rw [eU] at h
        rw [suL, if_neg h] at hq
        (apply h30; simp only [BX4_slotsUntilEmpty_30, s_mth, s_mab, s_at, s_iconst, s_lconst, s_iload, s_lload, s_aload, s_istore, s_lstore, s_astore, s_iinc, s_bin, s_binG, s_un, s_lbin, s_lbinG, s_lsh, s_lcmp, s_i2l, s_l2i, s_dup, s_dup2, s_pop, s_if, s_icmp, s_geti, s_getl, s_getr, s_puti, s_putz, s_putl, s_iald, s_zald, s_iast, s_zast, s_aaldS, s_aaldU, s_gets, s_tald, s_tsw, tsw, s_iret, s_zret, s_lret, s_aret, s_vret, s_callV, s_callS, c1, nl1, keepL, csum, pushR, inL, List.getD_cons_zero, List.getD_cons_succ, List.set_cons_zero, List.set_cons_succ, List.cons_append, List.nil_append, List.append_nil, List.replicate, List.length_cons, List.length_nil, List.take_succ_cons, List.take_zero, List.drop_succ_cons, List.drop_zero, List.reverse_cons, List.reverse_nil, true_and, and_true, forall_const, not_true_eq_false, not_false_eq_true, false_implies, true_implies, implies_true, one0, m10, Nat.reduceAdd, Nat.reduceSub, Nat.reduceLeDiff, Nat.zero_add, Nat.add_zero, fn_X10_waiting, fn_X1_freshTrial, fn_X6_runOne])
        refine ⟨⟨_, _, _, rfl, hPL⟩, ?_⟩
        rw [nI_1]
        exact ih (i + 1) _ (by omega) (PL_ro k14 hPL) hq
  (apply h0; simp only [BX4_slotsUntilEmpty_0, s_mth, s_mab, s_at, s_iconst, s_lconst, s_iload, s_lload, s_aload, s_istore, s_lstore, s_astore, s_iinc, s_bin, s_binG, s_un, s_lbin, s_lbinG, s_lsh, s_lcmp, s_i2l, s_l2i, s_dup, s_dup2, s_pop, s_if, s_icmp, s_geti, s_getl, s_getr, s_puti, s_putz, s_putl, s_iald, s_zald, s_iast, s_zast, s_aaldS, s_aaldU, s_gets, s_tald, s_tsw, tsw, s_iret, s_zret, s_lret, s_aret, s_vret, s_callV, s_callS, c1, nl1, keepL, csum, pushR, inL, List.getD_cons_zero, List.getD_cons_succ, List.set_cons_zero, List.set_cons_succ, List.cons_append, List.nil_append, List.append_nil, List.replicate, List.length_cons, List.length_nil, List.take_succ_cons, List.take_zero, List.drop_succ_cons, List.drop_zero, List.reverse_cons, List.reverse_nil, true_and, and_true, forall_const, not_true_eq_false, not_false_eq_true, false_implies, true_implies, implies_true, one0, m10, Nat.reduceAdd, Nat.reduceSub, Nat.reduceLeDiff, Nat.zero_add, Nat.add_zero, fn_X10_waiting, fn_X1_freshTrial, fn_X6_runOne])
  exact ⟨⟨_, rfl, hG.1⟩, loop 61 0 _ (by omega) (PL_stc hG.2 k14) hQ⟩
theorem ct_X4_slotsUntilEmpty (l : Launch) : Con l yX4_slotsUntilEmpty cX4_slotsUntilEmpty 4 (Option.some FieldType.int) 3 pre_X4_slotsUntilEmpty fn_X4_slotsUntilEmpty := con_of (by decide +kernel) ok_X4_slotsUntilEmpty len_X4_slotsUntilEmpty (fun p e s m args below meth c D ca ad A as M hX hr hp ho => pf_X4_slotsUntilEmpty _ _ (bsX4_slotsUntilEmpty_0 hX hr) (bsX4_slotsUntilEmpty_10 hX hr) (bsX4_slotsUntilEmpty_30 hX hr) (bsX4_slotsUntilEmpty_49 hX hr) as M ho hp ⟨rfl, rfl⟩)
def lgS (M : mM) (k i : Nat) (l : Int32) : Int32 := mn l (M.1 (k + 1 + 1 + i) 9 - M.1 (9 + i) 9)
def lg (M : mM) (k : Nat) : Int32 := itr (lgS M k) 1 (nU M - 1) (M.1 (k + 1 + 1) 9 - M.1 9 9)
def pre_X4_leastGain (as : List mV) (M : mM) : Prop := ∃ c k, as = [.inr (.inr (4, c)), .inr (.inr (8, k))] ∧ PL M
def fn_X4_leastGain : List mV → mM → Option mV × mM
  | [.inr (.inr (_, c)), .inr (.inr (_, k))], M => (some (.inl (lg M k)), M)
  | _, M => (none, M)
theorem ok_X4_leastGain (as : List mV) (M : mM) (h : pre_X4_leastGain as M) (_ : ∀ v ∈ as, okV v) : okR (fn_X4_leastGain as M).1 := by
  obtain ⟨c, k, rfl, -⟩ := h
  first | trivial | exact (by decide +kernel : kof 14 = 8)
theorem len_X4_leastGain (as : List mV) (M : mM) (h : pre_X4_leastGain as M) : (inL as).length ≤ 4 := by
  obtain ⟨c, k, rfl, -⟩ := h
  exact Nat.le_of_ble_eq_true rfl

theorem fl_120 : FLk "FairBlocks$Outlook" 64 10 9 0 := ⟨RX10, TX10, 10, rfl, inX10, by decide, w_120, by decide, rfl⟩
theorem fl_192 : FLk "FairBlocks$Outlook" 71 1 0 8 := ⟨RX1, TX1, 4, rfl, inX1, by decide, w_192, by decide, rfl⟩
theorem fl_197 : FLk "FairBlocks$Outlook" 67 1 1 11 := ⟨RX1, TX1, 4, rfl, inX1, by decide, w_197, by decide, rfl⟩
theorem fl_64 : FLk "FairBlocks$Outlook" 75 5 2 0 := ⟨RX5, TX5, 5, rfl, inX5, by decide, w_64, by decide, rfl⟩
theorem dX4_leastGain_0 : decode cX4_leastGain 0 = .ok (.aload_n 1, 1) := by decide +kernel
theorem dX4_leastGain_1 : decode cX4_leastGain 1 = .ok (.getfield 31, 3) := by decide +kernel
theorem dX4_leastGain_4 : decode cX4_leastGain 4 = .ok (.iconst 0, 1) := by decide +kernel
theorem dX4_leastGain_5 : decode cX4_leastGain 5 = .ok (.aaload, 1) := by decide +kernel
theorem dX4_leastGain_6 : decode cX4_leastGain 6 = .ok (.getfield 64, 3) := by decide +kernel
theorem dX4_leastGain_9 : decode cX4_leastGain 9 = .ok (.aload_n 0, 1) := by decide +kernel
theorem dX4_leastGain_10 : decode cX4_leastGain 10 = .ok (.getfield 9, 3) := by decide +kernel
theorem dX4_leastGain_13 : decode cX4_leastGain 13 = .ok (.getfield 67, 3) := by decide +kernel
theorem dX4_leastGain_16 : decode cX4_leastGain 16 = .ok (.getfield 31, 3) := by decide +kernel
theorem dX4_leastGain_19 : decode cX4_leastGain 19 = .ok (.iconst 0, 1) := by decide +kernel
theorem dX4_leastGain_20 : decode cX4_leastGain 20 = .ok (.aaload, 1) := by decide +kernel
theorem dX4_leastGain_21 : decode cX4_leastGain 21 = .ok (.getfield 64, 3) := by decide +kernel
theorem dX4_leastGain_24 : decode cX4_leastGain 24 = .ok (.isub, 1) := by decide +kernel
theorem dX4_leastGain_25 : decode cX4_leastGain 25 = .ok (.istore_n 2, 1) := by decide +kernel
theorem dX4_leastGain_26 : decode cX4_leastGain 26 = .ok (.iconst 1, 1) := by decide +kernel
theorem dX4_leastGain_27 : decode cX4_leastGain 27 = .ok (.istore_n 3, 1) := by decide +kernel
theorem dX4_leastGain_28 : decode cX4_leastGain 28 = .ok (.iload_n 3, 1) := by decide +kernel
theorem dX4_leastGain_29 : decode cX4_leastGain 29 = .ok (.aload_n 0, 1) := by decide +kernel
theorem dX4_leastGain_30 : decode cX4_leastGain 30 = .ok (.getfield 9, 3) := by decide +kernel
theorem dX4_leastGain_33 : decode cX4_leastGain 33 = .ok (.getfield 71, 3) := by decide +kernel
theorem dX4_leastGain_36 : decode cX4_leastGain 36 = .ok (.getfield 75, 3) := by decide +kernel
theorem dX4_leastGain_39 : decode cX4_leastGain 39 = .ok (.if_icmp .ge 39, 3) := by decide +kernel
theorem dX4_leastGain_42 : decode cX4_leastGain 42 = .ok (.iload_n 2, 1) := by decide +kernel
theorem dX4_leastGain_43 : decode cX4_leastGain 43 = .ok (.aload_n 1, 1) := by decide +kernel
theorem dX4_leastGain_44 : decode cX4_leastGain 44 = .ok (.getfield 31, 3) := by decide +kernel
theorem dX4_leastGain_47 : decode cX4_leastGain 47 = .ok (.iload_n 3, 1) := by decide +kernel
theorem dX4_leastGain_48 : decode cX4_leastGain 48 = .ok (.aaload, 1) := by decide +kernel
theorem dX4_leastGain_49 : decode cX4_leastGain 49 = .ok (.getfield 64, 3) := by decide +kernel
theorem dX4_leastGain_52 : decode cX4_leastGain 52 = .ok (.aload_n 0, 1) := by decide +kernel
theorem dX4_leastGain_53 : decode cX4_leastGain 53 = .ok (.getfield 9, 3) := by decide +kernel
theorem dX4_leastGain_56 : decode cX4_leastGain 56 = .ok (.getfield 67, 3) := by decide +kernel
theorem dX4_leastGain_59 : decode cX4_leastGain 59 = .ok (.getfield 31, 3) := by decide +kernel
theorem dX4_leastGain_62 : decode cX4_leastGain 62 = .ok (.iload_n 3, 1) := by decide +kernel
theorem dX4_leastGain_63 : decode cX4_leastGain 63 = .ok (.aaload, 1) := by decide +kernel
theorem dX4_leastGain_64 : decode cX4_leastGain 64 = .ok (.getfield 64, 3) := by decide +kernel
theorem dX4_leastGain_67 : decode cX4_leastGain 67 = .ok (.isub, 1) := by decide +kernel
theorem dX4_leastGain_68 : decode cX4_leastGain 68 = .ok (.invokestatic 79, 3) := by decide +kernel
theorem dX4_leastGain_71 : decode cX4_leastGain 71 = .ok (.istore_n 2, 1) := by decide +kernel
theorem dX4_leastGain_72 : decode cX4_leastGain 72 = .ok (.iinc 3 1, 3) := by decide +kernel
theorem dX4_leastGain_75 : decode cX4_leastGain 75 = .ok (.goto (-47), 3) := by decide +kernel
theorem dX4_leastGain_78 : decode cX4_leastGain 78 = .ok (.iload_n 2, 1) := by decide +kernel
theorem dX4_leastGain_79 : decode cX4_leastGain 79 = .ok (.ireturn, 1) := by decide +kernel
theorem mk_X4_leastGain : MVk yX4_leastGain "FairBlocks$Outlook" cX4_leastGain 4 (Option.some FieldType.int) 1 := ⟨w_555, w_554, wp_6, w_9, rfl, by decide +kernel, by decide +kernel, by decide +kernel⟩
def BX4_leastGain_0 (G : Nat → KT) (Q : Option mV → mM → Prop) : KT := (s_aload 1 (s_getr 8 16 (fun k => k + 1) (s_iconst (0) (s_aaldU (s_geti 10 9 (s_aload 0 (s_getr 4 1 (fun _ => 3) (s_getr 1 8 (fun _ => 7) (s_getr 8 16 (fun k => k + 1) (s_iconst (0) (s_aaldU (s_geti 10 9 (s_bin (fun x y => x - y) (s_istore 2 (s_iconst (1) (s_istore 3 (s_at G 28 [true, true, true, true])))))))))))))))))
set_option maxRecDepth 4000 in
theorem bsX4_leastGain_0 {p : Program} {l : Launch} {e : Env} {s : State} {m : MethodId} {args : Array Value} {below : List Frame} {meth : Method} {c : Code} {D : va_G} {ca : Nat → ClassId} {ad : Nat → Nat} {A : Nat → Prop} {Q : Option mV → mM → Prop} (hX : CX p s m args meth c 4 cX4_leastGain "FairBlocks$Outlook" D ca ad A) (hr : meth.sig.returnType = (Option.some FieldType.int)) : ∀ lv st M, BX4_leastGain_0 (Gd p l e (rmD 1) s m args below meth c 4 D ca ad A 0 0 (MQ below (QC D ca ad A Q) args s 0 0 A)) Q lv st M → Gd p l e (rmD 1) s m args below meth c 4 D ca ad A 0 0 (MQ below (QC D ca ad A Q) args s 0 0 A) 0 lv st M :=
  (sd_aload_n hX dX4_leastGain_0 rfl (sd_getr hX fl_143 (fun _ => rfl) okA dX4_leastGain_1 (sd_iconst hX dX4_leastGain_4 rfl (sd_aaldU hX dX4_leastGain_5 (sd_geti hX fl_120 (by decide) dX4_leastGain_6 (sd_aload_n hX dX4_leastGain_9 rfl (sd_getr hX fl_242 (fun _ => rfl) (fun _ _ _ => by decide +kernel) dX4_leastGain_10 (sd_getr hX fl_197 (fun _ => rfl) (fun _ _ _ => by decide +kernel) dX4_leastGain_13 (sd_getr hX fl_143 (fun _ => rfl) okA dX4_leastGain_16 (sd_iconst hX dX4_leastGain_19 rfl (sd_aaldU hX dX4_leastGain_20 (sd_geti hX fl_120 (by decide) dX4_leastGain_21 (sd_isub hX dX4_leastGain_24 (sd_istore_n hX (by decide) dX4_leastGain_25 rfl (sd_iconst hX dX4_leastGain_26 rfl (sd_istore_n hX (by decide) dX4_leastGain_27 rfl sd_at))))))))))))))))
def BX4_leastGain_28 (G : Nat → KT) (Q : Option mV → mM → Prop) : KT := (s_iload 3 (s_aload 0 (s_getr 4 1 (fun _ => 3) (s_getr 1 5 (fun _ => 4) (s_geti 5 2 (s_icmp (fun x y => y ≤ x) (s_at G 78 [false, false, true, false]) (s_iload 2 (s_aload 1 (s_getr 8 16 (fun k => k + 1) (s_iload 3 (s_aaldU (s_geti 10 9 (s_aload 0 (s_getr 4 1 (fun _ => 3) (s_getr 1 8 (fun _ => 7) (s_getr 8 16 (fun k => k + 1) (s_iload 3 (s_aaldU (s_geti 10 9 (s_bin (fun x y => x - y) (s_mth mn (s_istore 2 (s_iinc 3 (1) (s_at G 28 [true, true, true, true]))))))))))))))))))))))))
set_option maxRecDepth 4000 in
theorem bsX4_leastGain_28 {p : Program} {l : Launch} {e : Env} {s : State} {m : MethodId} {args : Array Value} {below : List Frame} {meth : Method} {c : Code} {D : va_G} {ca : Nat → ClassId} {ad : Nat → Nat} {A : Nat → Prop} {Q : Option mV → mM → Prop} (hX : CX p s m args meth c 4 cX4_leastGain "FairBlocks$Outlook" D ca ad A) (hr : meth.sig.returnType = (Option.some FieldType.int)) : ∀ lv st M, BX4_leastGain_28 (Gd p l e (rmD 1) s m args below meth c 4 D ca ad A 0 0 (MQ below (QC D ca ad A Q) args s 0 0 A)) Q lv st M → Gd p l e (rmD 1) s m args below meth c 4 D ca ad A 0 0 (MQ below (QC D ca ad A Q) args s 0 0 A) 28 lv st M :=
  (sd_iload_n hX dX4_leastGain_28 rfl (sd_aload_n hX dX4_leastGain_29 rfl (sd_getr hX fl_242 (fun _ => rfl) (fun _ _ _ => by decide +kernel) dX4_leastGain_30 (sd_getr hX fl_192 (fun _ => rfl) (fun _ _ _ => by decide +kernel) dX4_leastGain_33 (sd_geti hX fl_64 (by decide) dX4_leastGain_36 (sd_icmp_ge hX dX4_leastGain_39 (by decide) sd_at (sd_iload_n hX dX4_leastGain_42 rfl (sd_aload_n hX dX4_leastGain_43 rfl (sd_getr hX fl_143 (fun _ => rfl) okA dX4_leastGain_44 (sd_iload_n hX dX4_leastGain_47 rfl (sd_aaldU hX dX4_leastGain_48 (sd_geti hX fl_120 (by decide) dX4_leastGain_49 (sd_aload_n hX dX4_leastGain_52 rfl (sd_getr hX fl_242 (fun _ => rfl) (fun _ _ _ => by decide +kernel) dX4_leastGain_53 (sd_getr hX fl_197 (fun _ => rfl) (fun _ _ _ => by decide +kernel) dX4_leastGain_56 (sd_getr hX fl_143 (fun _ => rfl) okA dX4_leastGain_59 (sd_iload_n hX dX4_leastGain_62 rfl (sd_aaldU hX dX4_leastGain_63 (sd_geti hX fl_120 (by decide) dX4_leastGain_64 (sd_isub hX dX4_leastGain_67 (sd_mth hX (Or.inl ⟨rfl, rfl, rfl⟩) w_556 w_459 w_14 wm_min ⟨⟨by decide, by decide⟩, by decide, by decide⟩ dX4_leastGain_68 (sd_istore_n hX (by decide) dX4_leastGain_71 rfl (sd_iinc hX (by decide) dX4_leastGain_72 rfl (sd_goto hX dX4_leastGain_75 (by decide) sd_at))))))))))))))))))))))))
def BX4_leastGain_78 (G : Nat → KT) (Q : Option mV → mM → Prop) : KT := (s_iload 2 (s_iret Q))
set_option maxRecDepth 4000 in
theorem bsX4_leastGain_78 {p : Program} {l : Launch} {e : Env} {s : State} {m : MethodId} {args : Array Value} {below : List Frame} {meth : Method} {c : Code} {D : va_G} {ca : Nat → ClassId} {ad : Nat → Nat} {A : Nat → Prop} {Q : Option mV → mM → Prop} (hX : CX p s m args meth c 4 cX4_leastGain "FairBlocks$Outlook" D ca ad A) (hr : meth.sig.returnType = (Option.some FieldType.int)) : ∀ lv st M, BX4_leastGain_78 (Gd p l e (rmD 1) s m args below meth c 4 D ca ad A 0 0 (MQ below (QC D ca ad A Q) args s 0 0 A)) Q lv st M → Gd p l e (rmD 1) s m args below meth c 4 D ca ad A 0 0 (MQ below (QC D ca ad A Q) args s 0 0 A) 78 lv st M :=
  (sd_iload_n hX dX4_leastGain_78 rfl (sd_iret hX hr dX4_leastGain_79))
set_option maxHeartbeats 400000 in
theorem pf_X4_leastGain (G : Nat → KT) (Q : Option mV → mM → Prop) (h0 : ∀ lv st M, BX4_leastGain_0 G Q lv st M → G 0 lv st M) (h28 : ∀ lv st M, BX4_leastGain_28 G Q lv st M → G 28 lv st M) (h78 : ∀ lv st M, BX4_leastGain_78 G Q lv st M → G 78 lv st M) (as : List mV) (M : mM) (ho : ∀ v ∈ as, okV v) (hp : pre_X4_leastGain as M) (hQ : Q (fn_X4_leastGain as M).1 (fn_X4_leastGain as M).2) : G 0 (inL as ++ List.replicate (4 - (inL as).length) none) [] M := by
  obtain ⟨c, k, rfl, hPL⟩ := hp
  have hk : kof k = 8 := ho (.inr (.inr (8, k))) (by simp)
  have hl := lnU hk
  have hn := n5 hPL
  simp only [fn_X4_leastGain, lg] at hQ
  have loop : ∀ (n i : Nat) (t : Int32), 1 ≤ i → i + n = nU M ∨ (n = 0 ∧ nU M ≤ i ∧ i < 10) → Q (some (.inl (itr (lgS M k) i n t))) M → G 28 [some (.inr (.inr (4, c))), some (.inr (.inr (8, k))), some (.inl t), some (.inl (nI i))] [] M := by
    intro n
    induction n with
    | zero =>
      intro i t h1 hi hq
      (apply h28; simp only [BX4_leastGain_28, s_mth, s_mab, s_at, s_iconst, s_lconst, s_iload, s_lload, s_aload, s_istore, s_lstore, s_astore, s_iinc, s_bin, s_binG, s_un, s_lbin, s_lbinG, s_lsh, s_lcmp, s_i2l, s_l2i, s_dup, s_dup2, s_pop, s_if, s_icmp, s_geti, s_getl, s_getr, s_puti, s_putz, s_putl, s_iald, s_zald, s_iast, s_zast, s_aaldS, s_aaldU, s_gets, s_tald, s_tsw, tsw, s_iret, s_zret, s_lret, s_aret, s_vret, s_callV, s_callS, c1, nl1, keepL, csum, pushR, inL, List.getD_cons_zero, List.getD_cons_succ, List.set_cons_zero, List.set_cons_succ, List.cons_append, List.nil_append, List.append_nil, List.replicate, List.length_cons, List.length_nil, List.take_succ_cons, List.take_zero, List.drop_succ_cons, List.drop_zero, List.reverse_cons, List.reverse_nil, true_and, and_true, forall_const, not_true_eq_false, not_false_eq_true, false_implies, true_implies, implies_true, one0, m10, Nat.reduceAdd, Nat.reduceSub, Nat.reduceLeDiff, Nat.zero_add, Nat.add_zero])
      rw [uN hPL]
      refine ⟨fun _ => ?_, fun h => absurd (nI_le (by omega) (by omega)) h⟩
      (apply h78; simp only [BX4_leastGain_78, s_mth, s_mab, s_at, s_iconst, s_lconst, s_iload, s_lload, s_aload, s_istore, s_lstore, s_astore, s_iinc, s_bin, s_binG, s_un, s_lbin, s_lbinG, s_lsh, s_lcmp, s_i2l, s_l2i, s_dup, s_dup2, s_pop, s_if, s_icmp, s_geti, s_getl, s_getr, s_puti, s_putz, s_putl, s_iald, s_zald, s_iast, s_zast, s_aaldS, s_aaldU, s_gets, s_tald, s_tsw, tsw, s_iret, s_zret, s_lret, s_aret, s_vret, s_callV, s_callS, c1, nl1, keepL, csum, pushR, inL, List.getD_cons_zero, List.getD_cons_succ, List.set_cons_zero, List.set_cons_succ, List.cons_append, List.nil_append, List.append_nil, List.replicate, List.length_cons, List.length_nil, List.take_succ_cons, List.take_zero, List.drop_succ_cons, List.drop_zero, List.reverse_cons, List.reverse_nil, true_and, and_true, forall_const, not_true_eq_false, not_false_eq_true, false_implies, true_implies, implies_true, one0, m10, Nat.reduceAdd, Nat.reduceSub, Nat.reduceLeDiff, Nat.zero_add, Nat.add_zero])
      exact hq
    | succ n ih =>
      intro i t h1 hi hq
      have ei : (nI i).toNatClampNeg = i := nI_clamp (by omega)
      have hv : vp_in (nI i) 5 := vp_in_nI (by omega) (by decide)
      (apply h28; simp only [BX4_leastGain_28, s_mth, s_mab, s_at, s_iconst, s_lconst, s_iload, s_lload, s_aload, s_istore, s_lstore, s_astore, s_iinc, s_bin, s_binG, s_un, s_lbin, s_lbinG, s_lsh, s_lcmp, s_i2l, s_l2i, s_dup, s_dup2, s_pop, s_if, s_icmp, s_geti, s_getl, s_getr, s_puti, s_putz, s_putl, s_iald, s_zald, s_iast, s_zast, s_aaldS, s_aaldU, s_gets, s_tald, s_tsw, tsw, s_iret, s_zret, s_lret, s_aret, s_vret, s_callV, s_callS, c1, nl1, keepL, csum, pushR, inL, List.getD_cons_zero, List.getD_cons_succ, List.set_cons_zero, List.set_cons_succ, List.cons_append, List.nil_append, List.append_nil, List.replicate, List.length_cons, List.length_nil, List.take_succ_cons, List.take_zero, List.drop_succ_cons, List.drop_zero, List.reverse_cons, List.reverse_nil, true_and, and_true, forall_const, not_true_eq_false, not_false_eq_true, false_implies, true_implies, implies_true, one0, m10, Nat.reduceAdd, Nat.reduceSub, Nat.reduceLeDiff, Nat.zero_add, Nat.add_zero])
      simp only [uN hPL, hl, l8, ei]
      refine ⟨fun h => absurd h (nI_ge (by omega) (by omega)), fun _ => ⟨hv, hv, ?_⟩⟩
      rw [nI_1]
      exact ih (i + 1) _ (by omega) (by omega) hq
  (apply h0; simp only [BX4_leastGain_0, s_mth, s_mab, s_at, s_iconst, s_lconst, s_iload, s_lload, s_aload, s_istore, s_lstore, s_astore, s_iinc, s_bin, s_binG, s_un, s_lbin, s_lbinG, s_lsh, s_lcmp, s_i2l, s_l2i, s_dup, s_dup2, s_pop, s_if, s_icmp, s_geti, s_getl, s_getr, s_puti, s_putz, s_putl, s_iald, s_zald, s_iast, s_zast, s_aaldS, s_aaldU, s_gets, s_tald, s_tsw, tsw, s_iret, s_zret, s_lret, s_aret, s_vret, s_callV, s_callS, c1, nl1, keepL, csum, pushR, inL, List.getD_cons_zero, List.getD_cons_succ, List.set_cons_zero, List.set_cons_succ, List.cons_append, List.nil_append, List.append_nil, List.replicate, List.length_cons, List.length_nil, List.take_succ_cons, List.take_zero, List.drop_succ_cons, List.drop_zero, List.reverse_cons, List.reverse_nil, true_and, and_true, forall_const, not_true_eq_false, not_false_eq_true, false_implies, true_implies, implies_true, one0, m10, Nat.reduceAdd, Nat.reduceSub, Nat.reduceLeDiff, Nat.zero_add, Nat.add_zero])
  simp only [hl, l8, sb_cl0]
  exact ⟨vp_in_nI (n := 0) (by decide) (by decide), vp_in_nI (n := 0) (by decide) (by decide), loop (nU M - 1) 1 _ (by omega) (by omega) hQ⟩
theorem ct_X4_leastGain (l : Launch) : Con l yX4_leastGain cX4_leastGain 4 (Option.some FieldType.int) 1 pre_X4_leastGain fn_X4_leastGain := con_of (by decide +kernel) ok_X4_leastGain len_X4_leastGain (fun p e s m args below meth c D ca ad A as M hX hr hp ho => pf_X4_leastGain _ _ (bsX4_leastGain_0 hX hr) (bsX4_leastGain_28 hX hr) (bsX4_leastGain_78 hX hr) as M ho hp ⟨rfl, rfl⟩)
def bwM (M : mM) (U w : Nat) : mM := (ru (mset (stc M 14 7) (16 + U) 1 (nI w)) 14 30).2
def bwS (U w : Nat) (q : Int32 × Int32 × mM) : Int32 × Int32 × mM := if lg (bwM q.2.2 U w) 14 ≤ q.2.1 then (q.1, q.2.1, bwM q.2.2 U w) else (nI w, lg (bwM q.2.2 U w) 14, bwM q.2.2 U w)
def bw (M : mM) (U : Nat) : Int32 × Int32 × mM := itr (bwS U) 1 9 (1, -1, M)
theorem GD_bwM {M : mM} {U w : Nat} (h : GD M) (hU : U < 5) : GD (mset (stc M 14 7) (16 + U) 1 (nI w)) ∧ GD (bwM M U w) := by
  have h1 := GD_stc k14 k7 h
  have h2 : GD (mset (stc M 14 7) (16 + U) 1 (nI w)) := ⟨fun a ha => by rw [mset_get, if_neg (by omega)]; exact h1.1 a ha, PL_mset h1.2 (by omega) (by omega)⟩
  exact ⟨h2, GD_ru k14 h2⟩
def pre_X4_bestWeight (as : List mV) (M : mM) : Prop := ∃ c u, as = [.inr (.inr (4, c)), .inl u] ∧ GD M ∧ ∃ j, j < 5 ∧ u = nI j
def fn_X4_bestWeight : List mV → mM → Option mV × mM
  | [.inr (.inr (_, c)), .inl u], M => (some (.inl (bw M u.toNatClampNeg).1), (bw M u.toNatClampNeg).2.2)
  | _, M => (none, M)
theorem ok_X4_bestWeight (as : List mV) (M : mM) (h : pre_X4_bestWeight as M) (_ : ∀ v ∈ as, okV v) : okR (fn_X4_bestWeight as M).1 := by
  obtain ⟨c, u, rfl, -⟩ := h
  first | trivial | exact (by decide +kernel : kof 14 = 8)
theorem len_X4_bestWeight (as : List mV) (M : mM) (h : pre_X4_bestWeight as M) : (inL as).length ≤ 7 := by
  obtain ⟨c, u, rfl, -⟩ := h
  exact Nat.le_of_ble_eq_true rfl

theorem fp_96 : FPk "FairBlocks$Outlook" 53 10 1 0 .int := ⟨RX10, TX10, 10, tyX10, rfl, inX10, by decide, w_96, by decide, rfl, tyX10_ok, nmX10, rfl, rfl⟩
theorem dX4_bestWeight_0 : decode cX4_bestWeight 0 = .ok (.iconst 1, 1) := by decide +kernel
theorem dX4_bestWeight_1 : decode cX4_bestWeight 1 = .ok (.istore_n 2, 1) := by decide +kernel
theorem dX4_bestWeight_2 : decode cX4_bestWeight 2 = .ok (.iconst (-1), 1) := by decide +kernel
theorem dX4_bestWeight_3 : decode cX4_bestWeight 3 = .ok (.istore_n 3, 1) := by decide +kernel
theorem dX4_bestWeight_4 : decode cX4_bestWeight 4 = .ok (.iconst 1, 1) := by decide +kernel
theorem dX4_bestWeight_5 : decode cX4_bestWeight 5 = .ok (.istore 4, 2) := by decide +kernel
theorem dX4_bestWeight_7 : decode cX4_bestWeight 7 = .ok (.iload 4, 2) := by decide +kernel
theorem dX4_bestWeight_9 : decode cX4_bestWeight 9 = .ok (.bipush 9, 2) := by decide +kernel
theorem dX4_bestWeight_11 : decode cX4_bestWeight 11 = .ok (.if_icmp .gt 65, 3) := by decide +kernel
theorem dX4_bestWeight_14 : decode cX4_bestWeight 14 = .ok (.aload_n 0, 1) := by decide +kernel
theorem dX4_bestWeight_15 : decode cX4_bestWeight 15 = .ok (.getfield 9, 3) := by decide +kernel
theorem dX4_bestWeight_18 : decode cX4_bestWeight 18 = .ok (.invokevirtual 15, 3) := by decide +kernel
theorem dX4_bestWeight_21 : decode cX4_bestWeight 21 = .ok (.astore 5, 2) := by decide +kernel
theorem dX4_bestWeight_23 : decode cX4_bestWeight 23 = .ok (.aload 5, 2) := by decide +kernel
theorem dX4_bestWeight_25 : decode cX4_bestWeight 25 = .ok (.getfield 31, 3) := by decide +kernel
theorem dX4_bestWeight_28 : decode cX4_bestWeight 28 = .ok (.iload_n 1, 1) := by decide +kernel
theorem dX4_bestWeight_29 : decode cX4_bestWeight 29 = .ok (.aaload, 1) := by decide +kernel
theorem dX4_bestWeight_30 : decode cX4_bestWeight 30 = .ok (.iload 4, 2) := by decide +kernel
theorem dX4_bestWeight_32 : decode cX4_bestWeight 32 = .ok (.putfield 53, 3) := by decide +kernel
theorem dX4_bestWeight_35 : decode cX4_bestWeight 35 = .ok (.aload_n 0, 1) := by decide +kernel
theorem dX4_bestWeight_36 : decode cX4_bestWeight 36 = .ok (.getfield 9, 3) := by decide +kernel
theorem dX4_bestWeight_39 : decode cX4_bestWeight 39 = .ok (.getfield 21, 3) := by decide +kernel
theorem dX4_bestWeight_42 : decode cX4_bestWeight 42 = .ok (.aload 5, 2) := by decide +kernel
theorem dX4_bestWeight_44 : decode cX4_bestWeight 44 = .ok (.bipush 30, 2) := by decide +kernel
theorem dX4_bestWeight_46 : decode cX4_bestWeight 46 = .ok (.invokevirtual 56, 3) := by decide +kernel
theorem dX4_bestWeight_49 : decode cX4_bestWeight 49 = .ok (.pop, 1) := by decide +kernel
theorem dX4_bestWeight_50 : decode cX4_bestWeight 50 = .ok (.aload_n 0, 1) := by decide +kernel
theorem dX4_bestWeight_51 : decode cX4_bestWeight 51 = .ok (.aload 5, 2) := by decide +kernel
theorem dX4_bestWeight_53 : decode cX4_bestWeight 53 = .ok (.invokevirtual 60, 3) := by decide +kernel
theorem dX4_bestWeight_56 : decode cX4_bestWeight 56 = .ok (.istore 6, 2) := by decide +kernel
theorem dX4_bestWeight_58 : decode cX4_bestWeight 58 = .ok (.iload 6, 2) := by decide +kernel
theorem dX4_bestWeight_60 : decode cX4_bestWeight 60 = .ok (.iload_n 3, 1) := by decide +kernel
theorem dX4_bestWeight_61 : decode cX4_bestWeight 61 = .ok (.if_icmp .le 9, 3) := by decide +kernel
theorem dX4_bestWeight_64 : decode cX4_bestWeight 64 = .ok (.iload 6, 2) := by decide +kernel
theorem dX4_bestWeight_66 : decode cX4_bestWeight 66 = .ok (.istore_n 3, 1) := by decide +kernel
theorem dX4_bestWeight_67 : decode cX4_bestWeight 67 = .ok (.iload 4, 2) := by decide +kernel
theorem dX4_bestWeight_69 : decode cX4_bestWeight 69 = .ok (.istore_n 2, 1) := by decide +kernel
theorem dX4_bestWeight_70 : decode cX4_bestWeight 70 = .ok (.iinc 4 1, 3) := by decide +kernel
theorem dX4_bestWeight_73 : decode cX4_bestWeight 73 = .ok (.goto (-66), 3) := by decide +kernel
theorem dX4_bestWeight_76 : decode cX4_bestWeight 76 = .ok (.iload_n 2, 1) := by decide +kernel
theorem dX4_bestWeight_77 : decode cX4_bestWeight 77 = .ok (.ireturn, 1) := by decide +kernel
theorem mk_X4_bestWeight : MVk yX4_bestWeight "FairBlocks$Outlook" cX4_bestWeight 7 (Option.some FieldType.int) 1 := ⟨w_550, w_548, w_549, w_9, rfl, by decide +kernel, by decide +kernel, by decide +kernel⟩
def BX4_bestWeight_0 (G : Nat → KT) (Q : Option mV → mM → Prop) : KT := (s_iconst (1) (s_istore 2 (s_iconst (-1) (s_istore 3 (s_iconst (1) (s_istore 4 (s_at G 7 [true, true, true, true, true, false, false])))))))
set_option maxRecDepth 4000 in
theorem bsX4_bestWeight_0 {p : Program} {l : Launch} {e : Env} {s : State} {m : MethodId} {args : Array Value} {below : List Frame} {meth : Method} {c : Code} {D : va_G} {ca : Nat → ClassId} {ad : Nat → Nat} {A : Nat → Prop} {Q : Option mV → mM → Prop} (hX : CX p s m args meth c 7 cX4_bestWeight "FairBlocks$Outlook" D ca ad A) (hr : meth.sig.returnType = (Option.some FieldType.int)) : ∀ lv st M, BX4_bestWeight_0 (Gd p l e (rmD 4) s m args below meth c 7 D ca ad A 0 0 (MQ below (QC D ca ad A Q) args s 0 0 A)) Q lv st M → Gd p l e (rmD 4) s m args below meth c 7 D ca ad A 0 0 (MQ below (QC D ca ad A Q) args s 0 0 A) 0 lv st M :=
  (sd_iconst hX dX4_bestWeight_0 rfl (sd_istore_n hX (by decide) dX4_bestWeight_1 rfl (sd_iconst hX dX4_bestWeight_2 rfl (sd_istore_n hX (by decide) dX4_bestWeight_3 rfl (sd_iconst hX dX4_bestWeight_4 rfl (sd_istore hX (by decide) dX4_bestWeight_5 sd_at))))))
def BX4_bestWeight_7 (G : Nat → KT) (Q : Option mV → mM → Prop) : KT := (s_iload 4 (s_iconst (9) (s_icmp (fun x y => y < x) (s_at G 76 [false, false, true, false, false, false, false]) (s_aload 0 (s_getr 4 1 (fun _ => 3) (s_callV 1 0 pre_X1_freshTrial fn_X1_freshTrial (s_astore 5 (s_aload 5 (s_getr 8 16 (fun k => k + 1) (s_iload 1 (s_aaldU (s_iload 4 (s_puti 10 1 (s_aload 0 (s_getr 4 1 (fun _ => 3) (s_getr 1 6 (fun _ => 21) (s_aload 5 (s_iconst (30) (s_callV 6 2 pre_X6_run fn_X6_run (s_pop (s_aload 0 (s_aload 5 (s_callV 4 1 pre_X4_leastGain fn_X4_leastGain (s_istore 6 (s_iload 6 (s_iload 3 (s_icmp (fun x y => x ≤ y) (s_at G 70 [true, true, true, true, true, false, false]) (s_iload 6 (s_istore 3 (s_iload 4 (s_istore 2 (s_at G 70 [true, true, true, true, true, false, false]))))))))))))))))))))))))))))))))
set_option maxRecDepth 4000 in
theorem bsX4_bestWeight_7 {p : Program} {l : Launch} {e : Env} {s : State} {m : MethodId} {args : Array Value} {below : List Frame} {meth : Method} {c : Code} {D : va_G} {ca : Nat → ClassId} {ad : Nat → Nat} {A : Nat → Prop} {Q : Option mV → mM → Prop} (hX : CX p s m args meth c 7 cX4_bestWeight "FairBlocks$Outlook" D ca ad A) (hr : meth.sig.returnType = (Option.some FieldType.int)) : ∀ lv st M, BX4_bestWeight_7 (Gd p l e (rmD 4) s m args below meth c 7 D ca ad A 0 0 (MQ below (QC D ca ad A Q) args s 0 0 A)) Q lv st M → Gd p l e (rmD 4) s m args below meth c 7 D ca ad A 0 0 (MQ below (QC D ca ad A Q) args s 0 0 A) 7 lv st M :=
  (sd_iload hX dX4_bestWeight_7 (sd_bipush hX dX4_bestWeight_9 rfl (sd_icmp_gt hX dX4_bestWeight_11 (by decide) sd_at (sd_aload_n hX dX4_bestWeight_14 rfl (sd_getr hX fl_242 (fun _ => rfl) (fun _ _ _ => by decide +kernel) dX4_bestWeight_15 (sd_callV hX (kd := 1) rfl (by decide) (ct_X1_freshTrial l) mk_X1_freshTrial w_529 ⟨⟨by decide, by decide⟩, by decide, by decide⟩ dX4_bestWeight_18 (sd_astore hX (by decide) dX4_bestWeight_21 (sd_aload hX dX4_bestWeight_23 (sd_getr hX fl_143 (fun _ => rfl) okA dX4_bestWeight_25 (sd_iload_n hX dX4_bestWeight_28 rfl (sd_aaldU hX dX4_bestWeight_29 (sd_iload hX dX4_bestWeight_30 (sd_puti hX fp_96 dX4_bestWeight_32 (sd_aload_n hX dX4_bestWeight_35 rfl (sd_getr hX fl_242 (fun _ => rfl) (fun _ _ _ => by decide +kernel) dX4_bestWeight_36 (sd_getr hX fl_200 (fun _ => rfl) (fun _ _ _ => by decide +kernel) dX4_bestWeight_39 (sd_aload hX dX4_bestWeight_42 (sd_bipush hX dX4_bestWeight_44 rfl (sd_callV hX (kd := 6) rfl (by decide) (ct_X6_run l) mk_X6_run w_551 ⟨⟨by decide, by decide⟩, by decide, by decide⟩ dX4_bestWeight_46 (sd_pop hX dX4_bestWeight_49 (sd_aload_n hX dX4_bestWeight_50 rfl (sd_aload hX dX4_bestWeight_51 (sd_callV hX (kd := 4) rfl (by decide) (ct_X4_leastGain l) mk_X4_leastGain w_552 ⟨⟨by decide, by decide⟩, by decide, by decide⟩ dX4_bestWeight_53 (sd_istore hX (by decide) dX4_bestWeight_56 (sd_iload hX dX4_bestWeight_58 (sd_iload_n hX dX4_bestWeight_60 rfl (sd_icmp_le hX dX4_bestWeight_61 (by decide) sd_at (sd_iload hX dX4_bestWeight_64 (sd_istore_n hX (by decide) dX4_bestWeight_66 rfl (sd_iload hX dX4_bestWeight_67 (sd_istore_n hX (by decide) dX4_bestWeight_69 rfl sd_at)))))))))))))))))))))))))))))))
def BX4_bestWeight_70 (G : Nat → KT) (Q : Option mV → mM → Prop) : KT := (s_iinc 4 (1) (s_at G 7 [true, true, true, true, true, false, false]))
set_option maxRecDepth 4000 in
theorem bsX4_bestWeight_70 {p : Program} {l : Launch} {e : Env} {s : State} {m : MethodId} {args : Array Value} {below : List Frame} {meth : Method} {c : Code} {D : va_G} {ca : Nat → ClassId} {ad : Nat → Nat} {A : Nat → Prop} {Q : Option mV → mM → Prop} (hX : CX p s m args meth c 7 cX4_bestWeight "FairBlocks$Outlook" D ca ad A) (hr : meth.sig.returnType = (Option.some FieldType.int)) : ∀ lv st M, BX4_bestWeight_70 (Gd p l e (rmD 4) s m args below meth c 7 D ca ad A 0 0 (MQ below (QC D ca ad A Q) args s 0 0 A)) Q lv st M → Gd p l e (rmD 4) s m args below meth c 7 D ca ad A 0 0 (MQ below (QC D ca ad A Q) args s 0 0 A) 70 lv st M :=
  (sd_iinc hX (by decide) dX4_bestWeight_70 rfl (sd_goto hX dX4_bestWeight_73 (by decide) sd_at))
def BX4_bestWeight_76 (G : Nat → KT) (Q : Option mV → mM → Prop) : KT := (s_iload 2 (s_iret Q))
set_option maxRecDepth 4000 in
theorem bsX4_bestWeight_76 {p : Program} {l : Launch} {e : Env} {s : State} {m : MethodId} {args : Array Value} {below : List Frame} {meth : Method} {c : Code} {D : va_G} {ca : Nat → ClassId} {ad : Nat → Nat} {A : Nat → Prop} {Q : Option mV → mM → Prop} (hX : CX p s m args meth c 7 cX4_bestWeight "FairBlocks$Outlook" D ca ad A) (hr : meth.sig.returnType = (Option.some FieldType.int)) : ∀ lv st M, BX4_bestWeight_76 (Gd p l e (rmD 4) s m args below meth c 7 D ca ad A 0 0 (MQ below (QC D ca ad A Q) args s 0 0 A)) Q lv st M → Gd p l e (rmD 4) s m args below meth c 7 D ca ad A 0 0 (MQ below (QC D ca ad A Q) args s 0 0 A) 76 lv st M :=
  (sd_iload_n hX dX4_bestWeight_76 rfl (sd_iret hX hr dX4_bestWeight_77))
set_option maxHeartbeats 400000 in
theorem pf_X4_bestWeight (G : Nat → KT) (Q : Option mV → mM → Prop) (h0 : ∀ lv st M, BX4_bestWeight_0 G Q lv st M → G 0 lv st M) (h7 : ∀ lv st M, BX4_bestWeight_7 G Q lv st M → G 7 lv st M) (h70 : ∀ lv st M, BX4_bestWeight_70 G Q lv st M → G 70 lv st M) (h76 : ∀ lv st M, BX4_bestWeight_76 G Q lv st M → G 76 lv st M) (as : List mV) (M : mM) (ho : ∀ v ∈ as, okV v) (hp : pre_X4_bestWeight as M) (hQ : Q (fn_X4_bestWeight as M).1 (fn_X4_bestWeight as M).2) : G 0 (inL as ++ List.replicate (7 - (inL as).length) none) [] M := by
  obtain ⟨c, u, rfl, hG, U, hU, rfl⟩ := hp
  have eU : (nI U).toNatClampNeg = U := nI_clamp (by omega)
  simp only [fn_X4_bestWeight, bw, eU] at hQ
  have loop : ∀ (n i : Nat) (b t : Int32) (M : mM), i + n = 10 → GD M → Q (some (.inl (itr (bwS U) i n (b, t, M)).1)) (itr (bwS U) i n (b, t, M)).2.2 → G 7 [some (.inr (.inr (4, c))), some (.inl (nI U)), some (.inl b), some (.inl t), some (.inl (nI i)), none, none] [] M := by
    intro n
    induction n with
    | zero =>
      intro i b t M hi hG hq
      obtain rfl : i = 10 := by omega
      (apply h7; simp only [BX4_bestWeight_7, s_mth, s_mab, s_at, s_iconst, s_lconst, s_iload, s_lload, s_aload, s_istore, s_lstore, s_astore, s_iinc, s_bin, s_binG, s_un, s_lbin, s_lbinG, s_lsh, s_lcmp, s_i2l, s_l2i, s_dup, s_dup2, s_pop, s_if, s_icmp, s_geti, s_getl, s_getr, s_puti, s_putz, s_putl, s_iald, s_zald, s_iast, s_zast, s_aaldS, s_aaldU, s_gets, s_tald, s_tsw, tsw, s_iret, s_zret, s_lret, s_aret, s_vret, s_callV, s_callS, c1, nl1, keepL, csum, pushR, inL, List.getD_cons_zero, List.getD_cons_succ, List.set_cons_zero, List.set_cons_succ, List.cons_append, List.nil_append, List.append_nil, List.replicate, List.length_cons, List.length_nil, List.take_succ_cons, List.take_zero, List.drop_succ_cons, List.drop_zero, List.reverse_cons, List.reverse_nil, true_and, and_true, forall_const, not_true_eq_false, not_false_eq_true, false_implies, true_implies, implies_true, one0, m10, Nat.reduceAdd, Nat.reduceSub, Nat.reduceLeDiff, Nat.zero_add, Nat.add_zero, fn_X1_freshTrial, fn_X4_leastGain, fn_X6_run])
      refine ⟨fun _ => ?_, fun h => absurd (by decide) h⟩
      (apply h76; simp only [BX4_bestWeight_76, s_mth, s_mab, s_at, s_iconst, s_lconst, s_iload, s_lload, s_aload, s_istore, s_lstore, s_astore, s_iinc, s_bin, s_binG, s_un, s_lbin, s_lbinG, s_lsh, s_lcmp, s_i2l, s_l2i, s_dup, s_dup2, s_pop, s_if, s_icmp, s_geti, s_getl, s_getr, s_puti, s_putz, s_putl, s_iald, s_zald, s_iast, s_zast, s_aaldS, s_aaldU, s_gets, s_tald, s_tsw, tsw, s_iret, s_zret, s_lret, s_aret, s_vret, s_callV, s_callS, c1, nl1, keepL, csum, pushR, inL, List.getD_cons_zero, List.getD_cons_succ, List.set_cons_zero, List.set_cons_succ, List.cons_append, List.nil_append, List.append_nil, List.replicate, List.length_cons, List.length_nil, List.take_succ_cons, List.take_zero, List.drop_succ_cons, List.drop_zero, List.reverse_cons, List.reverse_nil, true_and, and_true, forall_const, not_true_eq_false, not_false_eq_true, false_implies, true_implies, implies_true, one0, m10, Nat.reduceAdd, Nat.reduceSub, Nat.reduceLeDiff, Nat.zero_add, Nat.add_zero, fn_X1_freshTrial, fn_X4_leastGain, fn_X6_run])
      exact hq
    | succ n ih =>
      intro i b t M hi hG hq
      have hb := GD_bwM (w := i) hG hU
      have L : ∀ b2 t2, (b2, t2, bwM M U i) = bwS U i (b, t, M) → G 70 [some (.inr (.inr (4, c))), some (.inl (nI U)), some (.inl b2), some (.inl t2), some (.inl (nI i)), none, none] [] (bwM M U i) := by
        intro b2 t2 e
        (apply h70; simp only [BX4_bestWeight_70, s_mth, s_mab, s_at, s_iconst, s_lconst, s_iload, s_lload, s_aload, s_istore, s_lstore, s_astore, s_iinc, s_bin, s_binG, s_un, s_lbin, s_lbinG, s_lsh, s_lcmp, s_i2l, s_l2i, s_dup, s_dup2, s_pop, s_if, s_icmp, s_geti, s_getl, s_getr, s_puti, s_putz, s_putl, s_iald, s_zald, s_iast, s_zast, s_aaldS, s_aaldU, s_gets, s_tald, s_tsw, tsw, s_iret, s_zret, s_lret, s_aret, s_vret, s_callV, s_callS, c1, nl1, keepL, csum, pushR, inL, List.getD_cons_zero, List.getD_cons_succ, List.set_cons_zero, List.set_cons_succ, List.cons_append, List.nil_append, List.append_nil, List.replicate, List.length_cons, List.length_nil, List.take_succ_cons, List.take_zero, List.drop_succ_cons, List.drop_zero, List.reverse_cons, List.reverse_nil, true_and, and_true, forall_const, not_true_eq_false, not_false_eq_true, false_implies, true_implies, implies_true, one0, m10, Nat.reduceAdd, Nat.reduceSub, Nat.reduceLeDiff, Nat.zero_add, Nat.add_zero, fn_X1_freshTrial, fn_X4_leastGain, fn_X6_run])
        rw [nI_1]
        refine ih (i + 1) _ _ _ (by omega) hb.2 ?_
        rw [e]
        exact hq
      (apply h7; simp only [BX4_bestWeight_7, s_mth, s_mab, s_at, s_iconst, s_lconst, s_iload, s_lload, s_aload, s_istore, s_lstore, s_astore, s_iinc, s_bin, s_binG, s_un, s_lbin, s_lbinG, s_lsh, s_lcmp, s_i2l, s_l2i, s_dup, s_dup2, s_pop, s_if, s_icmp, s_geti, s_getl, s_getr, s_puti, s_putz, s_putl, s_iald, s_zald, s_iast, s_zast, s_aaldS, s_aaldU, s_gets, s_tald, s_tsw, tsw, s_iret, s_zret, s_lret, s_aret, s_vret, s_callV, s_callS, c1, nl1, keepL, csum, pushR, inL, List.getD_cons_zero, List.getD_cons_succ, List.set_cons_zero, List.set_cons_succ, List.cons_append, List.nil_append, List.append_nil, List.replicate, List.length_cons, List.length_nil, List.take_succ_cons, List.take_zero, List.drop_succ_cons, List.drop_zero, List.reverse_cons, List.reverse_nil, true_and, and_true, forall_const, not_true_eq_false, not_false_eq_true, false_implies, true_implies, implies_true, one0, m10, Nat.reduceAdd, Nat.reduceSub, Nat.reduceLeDiff, Nat.zero_add, Nat.add_zero, fn_X1_freshTrial, fn_X4_leastGain, fn_X6_run])
      simp only [eU, l15, c30]
      refine ⟨fun h => absurd h (nI_nlt (b := i) (a := 9) (by omega) (by decide)), fun _ => ⟨⟨_, rfl, hG.1⟩, vp_in_nI hU (by decide), ⟨_, _, _, rfl, hb.1.2, 30, by decide, rfl⟩, ⟨_, _, rfl, hb.2.2⟩, fun h => ?_, fun h => ?_⟩⟩
      · have h' : lg (bwM M U i) 14 ≤ t := h
        exact L b t (by simp only [bwS, if_pos h'])
      · have h' : ¬ lg (bwM M U i) 14 ≤ t := h
        exact L (nI i) (lg (bwM M U i) 14) (by simp only [bwS, if_neg h'])
  (apply h0; simp only [BX4_bestWeight_0, s_mth, s_mab, s_at, s_iconst, s_lconst, s_iload, s_lload, s_aload, s_istore, s_lstore, s_astore, s_iinc, s_bin, s_binG, s_un, s_lbin, s_lbinG, s_lsh, s_lcmp, s_i2l, s_l2i, s_dup, s_dup2, s_pop, s_if, s_icmp, s_geti, s_getl, s_getr, s_puti, s_putz, s_putl, s_iald, s_zald, s_iast, s_zast, s_aaldS, s_aaldU, s_gets, s_tald, s_tsw, tsw, s_iret, s_zret, s_lret, s_aret, s_vret, s_callV, s_callS, c1, nl1, keepL, csum, pushR, inL, List.getD_cons_zero, List.getD_cons_succ, List.set_cons_zero, List.set_cons_succ, List.cons_append, List.nil_append, List.append_nil, List.replicate, List.length_cons, List.length_nil, List.take_succ_cons, List.take_zero, List.drop_succ_cons, List.drop_zero, List.reverse_cons, List.reverse_nil, true_and, and_true, forall_const, not_true_eq_false, not_false_eq_true, false_implies, true_implies, implies_true, one0, m10, Nat.reduceAdd, Nat.reduceSub, Nat.reduceLeDiff, Nat.zero_add, Nat.add_zero, fn_X1_freshTrial, fn_X4_leastGain, fn_X6_run])
  exact loop 9 1 1 (-1) M rfl hG hQ
theorem ct_X4_bestWeight (l : Launch) : Con l yX4_bestWeight cX4_bestWeight 7 (Option.some FieldType.int) 4 pre_X4_bestWeight fn_X4_bestWeight := con_of (by decide +kernel) ok_X4_bestWeight len_X4_bestWeight (fun p e s m args below meth c D ca ad A as M hX hr hp ho => pf_X4_bestWeight _ _ (bsX4_bestWeight_0 hX hr) (bsX4_bestWeight_7 hX hr) (bsX4_bestWeight_70 hX hr) (bsX4_bestWeight_76 hX hr) as M ho hp ⟨rfl, rfl⟩)
