/-! the model: a cell read -/
theorem rh4_n {M : mM} : (rh4 M).2 = M := rfl
theorem rh3_f {M : mM} (h : PS M) : PS (rh3 M).2 ∧ ∀ k j, (k ≠ 158 ∨ (j ≠ 3 ∧ j ≠ 9 ∧ j ≠ 10 ∧ j ≠ 11)) → (rh3 M).2.1 k j = M.1 k j := by
  unfold rh3
  split
  · rw [rh4_n]
    exact ⟨PS_m h (Or.inr ⟨by decide, by decide⟩), fun k j hk => by rw [mset_get, if_neg (by omega)]⟩
  · rw [rh4_n]
    exact ⟨PS_m (PS_fgr h w9b) (Or.inr ⟨by decide, by decide⟩), fun k j hk => by rw [mset_get, if_neg (by omega), fgr_n (by omega)]⟩
theorem rh2_f {M : mM} (h : PS M) : PS (rh2 M).2 ∧ ∀ k j, (k ≠ 158 ∨ (j ≠ 3 ∧ j ≠ 9 ∧ j ≠ 10 ∧ j ≠ 11)) → (rh2 M).2.1 k j = M.1 k j := by
  unfold rh2
  split
  · have g := rh3_f (M := mset M 158 10 (-9)) (PS_m h (Or.inr ⟨by decide, by decide⟩))
    exact ⟨g.1, fun k j hk => by rw [g.2 k j hk, mset_get, if_neg (by omega)]⟩
  · have g := rh3_f (M := mset (fgr M 1 4).2 158 10 (fgr M 1 4).1) (PS_m (PS_fgr h w9a) (Or.inr ⟨by decide, by decide⟩))
    exact ⟨g.1, fun k j hk => by rw [g.2 k j hk, mset_get, if_neg (by omega), fgr_n (by omega)]⟩
theorem rh1_f {M : mM} (h : PS M) : PS (rh1 M).2 ∧ ∀ k j, (k ≠ 158 ∨ (j ≠ 3 ∧ j ≠ 9 ∧ j ≠ 10 ∧ j ≠ 11)) → (rh1 M).2.1 k j = M.1 k j := by
  unfold rh1
  have g := rh2_f (M := mset (fgr M 1 4).2 158 9 (fgr M 1 4).1) (PS_m (PS_fgr h w9a) (Or.inr ⟨by decide, by decide⟩))
  exact ⟨g.1, fun k j hk => by rw [g.2 k j hk, mset_get, if_neg (by omega), fgr_n (by omega)]⟩
theorem rhd_f {M : mM} (h : PS M) : PS (rhd M).2 ∧ ∀ k j, (k ≠ 158 ∨ (j ≠ 3 ∧ j ≠ 9 ∧ j ≠ 10 ∧ j ≠ 11)) → (rhd M).2.1 k j = M.1 k j := by
  unfold rhd
  split
  · exact ⟨h, fun _ _ _ => rfl⟩
  · next h0 =>
    split
    · have hS : PS (mset M 158 3 1) := by
        obtain ⟨t, p, ht, hp, et, ep⟩ := h
        have ht0 : t ≠ 0 := fun g => h0 (by rw [et, g]; rfl)
        exact ⟨t, 1, ht, by omega, by rw [mset_o (by decide)]; exact et, mset_s⟩
      have g := rh1_f hS
      exact ⟨g.1, fun k j hk => by rw [g.2 k j hk, mset_get, if_neg (by omega)]⟩
    · exact ⟨h, fun _ _ _ => rfl⟩
theorem rlL_f {u : Nat} : ∀ (k : Nat) (v : Int32) (M : mM), PS M → PS (rlL u k v M) ∧ ∀ a j, (a ≠ 158 ∨ j ≠ 3) → a ≠ 162 → a ≠ 163 → (rlL u k v M).1 a j = M.1 a j
  | 0, v, M, h => ⟨h, fun _ _ _ _ _ => rfl⟩
  | k + 1, v, M, h => by
    have hA : PS (rlA u v M) := PS_m (PS_m h (Or.inl (by decide))) (Or.inl (by decide))
    have fA : ∀ a j, a ≠ 162 → a ≠ 163 → (rlA u v M).1 a j = M.1 a j := fun a j h1 h2 => by unfold rlA; rw [mset_n h2, mset_n h1]
    rw [rlL]
    split
    · exact ⟨h, fun _ _ _ _ _ => rfl⟩
    · split
      · exact ⟨hA, fun a j _ h1 h2 => fA a j h1 h2⟩
      · have g := rlL_f (u := u) k (fgr (rlA u v M) 0 9).1 (fgr (rlA u v M) 0 9).2 (PS_fgr hA w9b)
        exact ⟨g.1, fun a j h0 h1 h2 => by rw [g.2 a j h0 h1 h2, fgr_n h0, fA a j h1 h2]⟩
theorem rus_f {M : mM} {t p u : Nat} (ht : t ≤ 80) (hp : p < t) (hu : u ≤ 5) (et : M.1 158 2 = nI t) (ep : M.1 158 3 = nI p) (eu : M.1 158 12 = nI u) : PS (rus M).2 ∧ (∀ a j, (a ≠ 158 ∨ (j ≠ 3 ∧ j ≠ 12)) → a ≠ 162 → a ≠ 163 → a ≠ 164 → (rus M).2.1 a j = M.1 a j) ∧ ((rus M).1 = 0 ∨ (u < 5 ∧ (rus M).2.1 158 12 = nI (u + 1))) := by
  have hS : PS M := ⟨t, p, ht, by omega, et, ep⟩
  unfold rus
  split
  · exact ⟨hS, fun _ _ _ _ _ _ => rfl, Or.inl rfl⟩
  · next h5 =>
    have hu5 : u < 5 := by
      have : u ≠ 5 := fun g => h5 (by rw [eu, g]; rfl)
      omega
    split
    · have hS1 : PS (mset M 158 3 (M.1 158 3 + 1)) := ⟨t, p + 1, ht, by omega, by rw [mset_o (by decide)]; exact et, by rw [mset_s, ep, nI_1]⟩
      have f1 : ∀ a j, (a ≠ 158 ∨ j ≠ 3) → (mset M 158 3 (M.1 158 3 + 1)).1 a j = M.1 a j := fun a j h => by rw [mset_get, if_neg (by omega)]
      generalize (M.1 158 12).toNatClampNeg = u'
      generalize mset M 158 3 (M.1 158 3 + 1) = M1 at *
      unfold ru1
      have g1 := PS_fgr (a := 0) (b := 9) hS1 w9b
      have n1 : ∀ a j, (a ≠ 158 ∨ j ≠ 3) → (fgr M1 0 9).2.1 a j = M.1 a j := fun a j h => by rw [fgr_n h, f1 a j h]
      generalize fgr M1 0 9 = q1 at *
      have g2 := PS_ruX (a := 1) (b := 9) g1 w9c
      have n2 : ∀ a j, (a ≠ 158 ∨ j ≠ 3) → (ruX q1 1 9).2.1 a j = M.1 a j := fun a j h => by rw [ruX_n h, n1 a j h]
      generalize ruX q1 1 9 = q2 at *
      have g3 := PS_ruX (a := 0) (b := 9) g2 w9b
      have n3 : ∀ a j, (a ≠ 158 ∨ j ≠ 3) → (ruX q2 0 9).2.1 a j = M.1 a j := fun a j h => by rw [ruX_n h, n2 a j h]
      generalize ruX q2 0 9 = q3 at *
      have g4 := PS_ruX (a := 0) (b := 9) g3 w9b
      have n4 : ∀ a j, (a ≠ 158 ∨ j ≠ 3) → (ruX q3 0 9).2.1 a j = M.1 a j := fun a j h => by rw [ruX_n h, n3 a j h]
      generalize ruX q3 0 9 = q4 at *
      unfold ru5
      split
      · exact ⟨g4, fun a j h _ _ _ => n4 a j (by omega), Or.inl rfl⟩
      · have g5 := rlL_f (u := u') 6 q4.1 (mset q4.2 163 u' 0) (PS_m g4 (Or.inl (by decide)))
        have n5 : ∀ a j, (a ≠ 158 ∨ j ≠ 3) → a ≠ 162 → a ≠ 163 → (rlL u' 6 q4.1 (mset q4.2 163 u' 0)).1 a j = M.1 a j := fun a j h h1 h2 => by rw [g5.2 a j h h1 h2, mset_n h2, n4 a j h]
        have g6 := g5.1
        generalize rlL u' 6 q4.1 (mset q4.2 163 u' 0) = M5 at *
        unfold ru6
        split
        · exact ⟨g6, fun a j h h1 h2 h3 => n5 a j (by omega) h1 h2, Or.inl rfl⟩
        · next hne =>
          split
          · refine ⟨?_, ?_, Or.inr ⟨hu5, ?_⟩⟩
            · obtain ⟨t', p', ht', hp', et', ep'⟩ := g6
              have hlt : p' ≠ t' := fun g => hne (by rw [et', ep', g])
              refine ⟨t', p' + 1, ht', by omega, ?_, ?_⟩
              · unfold ruZ
                rw [mset_o (by decide), mset_n (by decide), mset_n (by decide), mset_n (by decide), mset_o (by decide)]
                exact et'
              · unfold ruZ
                rw [mset_o (by decide), mset_n (by decide), mset_n (by decide), mset_n (by decide), mset_s, ep', nI_1]
            · intro a j h h1 h2 h3
              unfold ruZ
              rw [mset_get, if_neg (by omega), mset_n h3, mset_n h3, mset_n h3, mset_get, if_neg (by omega)]
              exact n5 a j (by omega) h1 h2
            · unfold ruZ
              rw [mset_s, n5 158 12 (Or.inr (by decide)) (by decide) (by decide), eu, nI_1]
          · exact ⟨g6, fun a j h h1 h2 h3 => n5 a j (by omega) h1 h2, Or.inl rfl⟩
    · exact ⟨hS, fun _ _ _ _ _ _ => rfl, Or.inl rfl⟩
def rcL : Nat → mM → Int32 × mM
  | 0, M => (-9, M)
  | k + 1, M => if M.1 158 2 ≤ M.1 158 3 then (-9, M) else if (rus M).1 = 0 then ((rus M).2.1 158 3, (rus M).2) else rcL k (rus M).2
def rc0 (M : mM) : mM := rset (mset (mset M 158 12 0) 158 3 0) 164 (cpyR (M.1 164) (fun _ => 0) 0 52 0)
def rc1 (q : Int32 × mM) : Int32 × mM := if q.1 = 0 then (q.2.1 158 3, q.2) else rcL 6 (mset q.2 164 50 (q.2.1 158 11))
def rc (M : mM) : Int32 × mM := rc1 (rhd (rc0 M))
theorem rc0_n {M : mM} {a j : Nat} (h : a ≠ 158 ∨ (j ≠ 3 ∧ j ≠ 12)) (h1 : a ≠ 164) : (rc0 M).1 a j = M.1 a j := by
  unfold rc0
  rw [rset_n h1, mset_get, if_neg (by omega), mset_get, if_neg (by omega)]
def pre_X12_readCell (as : List mV) (M : mM) : Prop := ∃ c, as = [.inr (.inr (12, c))] ∧ ∃ t, t ≤ 80 ∧ M.1 158 2 = nI t
def fn_X12_readCell : List mV → mM → Option mV × mM
  | [.inr (.inr (_, c))], M => (some (.inl (rc M).1), (rc M).2)
  | _, M => (none, M)
theorem ok_X12_readCell (as : List mV) (M : mM) (h : pre_X12_readCell as M) (_ : ∀ v ∈ as, okV v) : okR (fn_X12_readCell as M).1 := by
  obtain ⟨c, rfl, -⟩ := h
  first | trivial | exact (by decide +kernel : kof 14 = 8)
theorem len_X12_readCell (as : List mV) (M : mM) (h : pre_X12_readCell as M) : (inL as).length ≤ 2 := by
  obtain ⟨c, rfl, -⟩ := h
  exact Nat.le_of_ble_eq_true rfl


theorem dX12_readCell_0 : decode cX12_readCell 0 = .ok (.aload_n 0, 1) := by decide +kernel
theorem dX12_readCell_1 : decode cX12_readCell 1 = .ok (.iconst 0, 1) := by decide +kernel
theorem dX12_readCell_2 : decode cX12_readCell 2 = .ok (.putfield 106, 3) := by decide +kernel
theorem dX12_readCell_5 : decode cX12_readCell 5 = .ok (.aload_n 0, 1) := by decide +kernel
theorem dX12_readCell_6 : decode cX12_readCell 6 = .ok (.iconst 0, 1) := by decide +kernel
theorem dX12_readCell_7 : decode cX12_readCell 7 = .ok (.putfield 90, 3) := by decide +kernel
theorem dX12_readCell_10 : decode cX12_readCell 10 = .ok (.iconst 0, 1) := by decide +kernel
theorem dX12_readCell_11 : decode cX12_readCell 11 = .ok (.istore_n 1, 1) := by decide +kernel
theorem dX12_readCell_12 : decode cX12_readCell 12 = .ok (.iload_n 1, 1) := by decide +kernel
theorem dX12_readCell_13 : decode cX12_readCell 13 = .ok (.bipush 52, 2) := by decide +kernel
theorem dX12_readCell_15 : decode cX12_readCell 15 = .ok (.if_icmp .ge 16, 3) := by decide +kernel
theorem dX12_readCell_18 : decode cX12_readCell 18 = .ok (.aload_n 0, 1) := by decide +kernel
theorem dX12_readCell_19 : decode cX12_readCell 19 = .ok (.getfield 48, 3) := by decide +kernel
theorem dX12_readCell_22 : decode cX12_readCell 22 = .ok (.iload_n 1, 1) := by decide +kernel
theorem dX12_readCell_23 : decode cX12_readCell 23 = .ok (.iconst 0, 1) := by decide +kernel
theorem dX12_readCell_24 : decode cX12_readCell 24 = .ok (.iastore, 1) := by decide +kernel
theorem dX12_readCell_25 : decode cX12_readCell 25 = .ok (.iinc 1 1, 3) := by decide +kernel
theorem dX12_readCell_28 : decode cX12_readCell 28 = .ok (.goto (-16), 3) := by decide +kernel
theorem dX12_readCell_31 : decode cX12_readCell 31 = .ok (.aload_n 0, 1) := by decide +kernel
theorem dX12_readCell_32 : decode cX12_readCell 32 = .ok (.invokevirtual 109, 3) := by decide +kernel
theorem dX12_readCell_35 : decode cX12_readCell 35 = .ok (.ifCond .ne 8, 3) := by decide +kernel
theorem dX12_readCell_38 : decode cX12_readCell 38 = .ok (.aload_n 0, 1) := by decide +kernel
theorem dX12_readCell_39 : decode cX12_readCell 39 = .ok (.getfield 90, 3) := by decide +kernel
theorem dX12_readCell_42 : decode cX12_readCell 42 = .ok (.ireturn, 1) := by decide +kernel
theorem dX12_readCell_43 : decode cX12_readCell 43 = .ok (.aload_n 0, 1) := by decide +kernel
theorem dX12_readCell_44 : decode cX12_readCell 44 = .ok (.getfield 48, 3) := by decide +kernel
theorem dX12_readCell_47 : decode cX12_readCell 47 = .ok (.bipush 50, 2) := by decide +kernel
theorem dX12_readCell_49 : decode cX12_readCell 49 = .ok (.aload_n 0, 1) := by decide +kernel
theorem dX12_readCell_50 : decode cX12_readCell 50 = .ok (.getfield 103, 3) := by decide +kernel
theorem dX12_readCell_53 : decode cX12_readCell 53 = .ok (.iastore, 1) := by decide +kernel
theorem dX12_readCell_54 : decode cX12_readCell 54 = .ok (.aload_n 0, 1) := by decide +kernel
theorem dX12_readCell_55 : decode cX12_readCell 55 = .ok (.getfield 90, 3) := by decide +kernel
theorem dX12_readCell_58 : decode cX12_readCell 58 = .ok (.aload_n 0, 1) := by decide +kernel
theorem dX12_readCell_59 : decode cX12_readCell 59 = .ok (.getfield 87, 3) := by decide +kernel
theorem dX12_readCell_62 : decode cX12_readCell 62 = .ok (.if_icmp .ge 15, 3) := by decide +kernel
theorem dX12_readCell_65 : decode cX12_readCell 65 = .ok (.aload_n 0, 1) := by decide +kernel
theorem dX12_readCell_66 : decode cX12_readCell 66 = .ok (.invokevirtual 113, 3) := by decide +kernel
theorem dX12_readCell_69 : decode cX12_readCell 69 = .ok (.ifCond .ne (-15), 3) := by decide +kernel
theorem dX12_readCell_72 : decode cX12_readCell 72 = .ok (.aload_n 0, 1) := by decide +kernel
theorem dX12_readCell_73 : decode cX12_readCell 73 = .ok (.getfield 90, 3) := by decide +kernel
theorem dX12_readCell_76 : decode cX12_readCell 76 = .ok (.ireturn, 1) := by decide +kernel
theorem dX12_readCell_77 : decode cX12_readCell 77 = .ok (.bipush (-9), 2) := by decide +kernel
theorem dX12_readCell_79 : decode cX12_readCell 79 = .ok (.ireturn, 1) := by decide +kernel
theorem mk_X12_readCell : MVk yX12_readCell "FairBlocksModel" cX12_readCell 2 (Option.some FieldType.int) 0 := ⟨w_839, w_838, wp_14, w_13, rfl, by decide +kernel, by decide +kernel, by decide +kernel⟩
def BX12_readCell_0 (G : Nat → KT) (Q : Option mV → mM → Prop) : KT := (s_aload 0 (s_iconst (0) (s_puti 12 12 (s_aload 0 (s_iconst (0) (s_puti 12 3 (s_iconst (0) (s_istore 1 (s_at G 12 [true, true])))))))))
set_option maxRecDepth 4000 in
theorem bsX12_readCell_0 {p : Program} {l : Launch} {e : Env} {s : State} {m : MethodId} {args : Array Value} {below : List Frame} {meth : Method} {c : Code} {D : va_G} {ca : Nat → ClassId} {ad : Nat → Nat} {A : Nat → Prop} {Q : Option mV → mM → Prop} (hX : CX p s m args meth c 2 cX12_readCell "FairBlocksModel" D ca ad A) (hr : meth.sig.returnType = (Option.some FieldType.int)) : ∀ lv st M, BX12_readCell_0 (Gd p l e (rmD 3) s m args below meth c 2 D ca ad A 0 0 (MQ below (QC D ca ad A Q) args s 0 0 A)) Q lv st M → Gd p l e (rmD 3) s m args below meth c 2 D ca ad A 0 0 (MQ below (QC D ca ad A Q) args s 0 0 A) 0 lv st M :=
  (sd_aload_n hX dX12_readCell_0 rfl (sd_iconst hX dX12_readCell_1 rfl (sd_puti hX fp_735 dX12_readCell_2 (sd_aload_n hX dX12_readCell_5 rfl (sd_iconst hX dX12_readCell_6 rfl (sd_puti hX fp_726 dX12_readCell_7 (sd_iconst hX dX12_readCell_10 rfl (sd_istore_n hX (by decide) dX12_readCell_11 rfl sd_at))))))))
def BX12_readCell_12 (G : Nat → KT) (Q : Option mV → mM → Prop) : KT := (s_iload 1 (s_iconst (52) (s_icmp (fun x y => y ≤ x) (s_at G 31 [true, false]) (s_aload 0 (s_getr 12 13 (fun _ => 164) (s_iload 1 (s_iconst (0) (s_iast (s_iinc 1 (1) (s_at G 12 [true, true]))))))))))
set_option maxRecDepth 4000 in
theorem bsX12_readCell_12 {p : Program} {l : Launch} {e : Env} {s : State} {m : MethodId} {args : Array Value} {below : List Frame} {meth : Method} {c : Code} {D : va_G} {ca : Nat → ClassId} {ad : Nat → Nat} {A : Nat → Prop} {Q : Option mV → mM → Prop} (hX : CX p s m args meth c 2 cX12_readCell "FairBlocksModel" D ca ad A) (hr : meth.sig.returnType = (Option.some FieldType.int)) : ∀ lv st M, BX12_readCell_12 (Gd p l e (rmD 3) s m args below meth c 2 D ca ad A 0 0 (MQ below (QC D ca ad A Q) args s 0 0 A)) Q lv st M → Gd p l e (rmD 3) s m args below meth c 2 D ca ad A 0 0 (MQ below (QC D ca ad A Q) args s 0 0 A) 12 lv st M :=
  (sd_iload_n hX dX12_readCell_12 rfl (sd_bipush hX dX12_readCell_13 rfl (sd_icmp_ge hX dX12_readCell_15 (by decide) sd_at (sd_aload_n hX dX12_readCell_18 rfl (sd_getr hX fl_738 (fun _ => rfl) (fun _ _ _ => by decide +kernel) dX12_readCell_19 (sd_iload_n hX dX12_readCell_22 rfl (sd_iconst hX dX12_readCell_23 rfl (sd_iast hX dX12_readCell_24 (sd_iinc hX (by decide) dX12_readCell_25 rfl (sd_goto hX dX12_readCell_28 (by decide) sd_at))))))))))
def BX12_readCell_31 (G : Nat → KT) (Q : Option mV → mM → Prop) : KT := (s_aload 0 (s_callV 12 0 pre_X12_readHead fn_X12_readHead (s_if (fun x => x = 0) ((s_aload 0 (s_geti 12 3 (s_iret Q)))) (s_at G 43 [true, false]))))
set_option maxRecDepth 4000 in
theorem bsX12_readCell_31 {p : Program} {l : Launch} {e : Env} {s : State} {m : MethodId} {args : Array Value} {below : List Frame} {meth : Method} {c : Code} {D : va_G} {ca : Nat → ClassId} {ad : Nat → Nat} {A : Nat → Prop} {Q : Option mV → mM → Prop} (hX : CX p s m args meth c 2 cX12_readCell "FairBlocksModel" D ca ad A) (hr : meth.sig.returnType = (Option.some FieldType.int)) : ∀ lv st M, BX12_readCell_31 (Gd p l e (rmD 3) s m args below meth c 2 D ca ad A 0 0 (MQ below (QC D ca ad A Q) args s 0 0 A)) Q lv st M → Gd p l e (rmD 3) s m args below meth c 2 D ca ad A 0 0 (MQ below (QC D ca ad A Q) args s 0 0 A) 31 lv st M :=
  (sd_aload_n hX dX12_readCell_31 rfl (sd_callV hX (kd := 12) rfl (by decide) (ct_X12_readHead l) mk_X12_readHead w_840 ⟨⟨by decide, by decide⟩, by decide, by decide⟩ dX12_readCell_32 (sd_if_ne hX dX12_readCell_35 (by decide) sd_at (sd_aload_n hX dX12_readCell_38 rfl (sd_geti hX fl_726 (by decide) dX12_readCell_39 (sd_iret hX hr dX12_readCell_42))))))
def BX12_readCell_43 (G : Nat → KT) (Q : Option mV → mM → Prop) : KT := (s_aload 0 (s_getr 12 13 (fun _ => 164) (s_iconst (50) (s_aload 0 (s_geti 12 11 (s_iast (s_at G 54 [true, false])))))))
set_option maxRecDepth 4000 in
theorem bsX12_readCell_43 {p : Program} {l : Launch} {e : Env} {s : State} {m : MethodId} {args : Array Value} {below : List Frame} {meth : Method} {c : Code} {D : va_G} {ca : Nat → ClassId} {ad : Nat → Nat} {A : Nat → Prop} {Q : Option mV → mM → Prop} (hX : CX p s m args meth c 2 cX12_readCell "FairBlocksModel" D ca ad A) (hr : meth.sig.returnType = (Option.some FieldType.int)) : ∀ lv st M, BX12_readCell_43 (Gd p l e (rmD 3) s m args below meth c 2 D ca ad A 0 0 (MQ below (QC D ca ad A Q) args s 0 0 A)) Q lv st M → Gd p l e (rmD 3) s m args below meth c 2 D ca ad A 0 0 (MQ below (QC D ca ad A Q) args s 0 0 A) 43 lv st M :=
  (sd_aload_n hX dX12_readCell_43 rfl (sd_getr hX fl_738 (fun _ => rfl) (fun _ _ _ => by decide +kernel) dX12_readCell_44 (sd_bipush hX dX12_readCell_47 rfl (sd_aload_n hX dX12_readCell_49 rfl (sd_geti hX fl_734 (by decide) dX12_readCell_50 (sd_iast hX dX12_readCell_53 sd_at))))))
def BX12_readCell_54 (G : Nat → KT) (Q : Option mV → mM → Prop) : KT := (s_aload 0 (s_geti 12 3 (s_aload 0 (s_geti 12 2 (s_icmp (fun x y => y ≤ x) (s_at G 77 [false, false]) (s_aload 0 (s_callV 12 0 pre_X12_readUser fn_X12_readUser (s_if (fun x => x = 0) ((s_aload 0 (s_geti 12 3 (s_iret Q)))) (s_at G 54 [true, false])))))))))
set_option maxRecDepth 4000 in
theorem bsX12_readCell_54 {p : Program} {l : Launch} {e : Env} {s : State} {m : MethodId} {args : Array Value} {below : List Frame} {meth : Method} {c : Code} {D : va_G} {ca : Nat → ClassId} {ad : Nat → Nat} {A : Nat → Prop} {Q : Option mV → mM → Prop} (hX : CX p s m args meth c 2 cX12_readCell "FairBlocksModel" D ca ad A) (hr : meth.sig.returnType = (Option.some FieldType.int)) : ∀ lv st M, BX12_readCell_54 (Gd p l e (rmD 3) s m args below meth c 2 D ca ad A 0 0 (MQ below (QC D ca ad A Q) args s 0 0 A)) Q lv st M → Gd p l e (rmD 3) s m args below meth c 2 D ca ad A 0 0 (MQ below (QC D ca ad A Q) args s 0 0 A) 54 lv st M :=
  (sd_aload_n hX dX12_readCell_54 rfl (sd_geti hX fl_726 (by decide) dX12_readCell_55 (sd_aload_n hX dX12_readCell_58 rfl (sd_geti hX fl_725 (by decide) dX12_readCell_59 (sd_icmp_ge hX dX12_readCell_62 (by decide) sd_at (sd_aload_n hX dX12_readCell_65 rfl (sd_callV hX (kd := 12) rfl (by decide) (ct_X12_readUser l) mk_X12_readUser w_848 ⟨⟨by decide, by decide⟩, by decide, by decide⟩ dX12_readCell_66 (sd_if_ne hX dX12_readCell_69 (by decide) sd_at (sd_aload_n hX dX12_readCell_72 rfl (sd_geti hX fl_726 (by decide) dX12_readCell_73 (sd_iret hX hr dX12_readCell_76)))))))))))
def BX12_readCell_77 (G : Nat → KT) (Q : Option mV → mM → Prop) : KT := (s_iconst (-9) (s_iret Q))
set_option maxRecDepth 4000 in
theorem bsX12_readCell_77 {p : Program} {l : Launch} {e : Env} {s : State} {m : MethodId} {args : Array Value} {below : List Frame} {meth : Method} {c : Code} {D : va_G} {ca : Nat → ClassId} {ad : Nat → Nat} {A : Nat → Prop} {Q : Option mV → mM → Prop} (hX : CX p s m args meth c 2 cX12_readCell "FairBlocksModel" D ca ad A) (hr : meth.sig.returnType = (Option.some FieldType.int)) : ∀ lv st M, BX12_readCell_77 (Gd p l e (rmD 3) s m args below meth c 2 D ca ad A 0 0 (MQ below (QC D ca ad A Q) args s 0 0 A)) Q lv st M → Gd p l e (rmD 3) s m args below meth c 2 D ca ad A 0 0 (MQ below (QC D ca ad A Q) args s 0 0 A) 77 lv st M :=
  (sd_bipush hX dX12_readCell_77 rfl (sd_iret hX hr dX12_readCell_79))
set_option maxHeartbeats 400000 in
theorem pf_X12_readCell (G : Nat → KT) (Q : Option mV → mM → Prop) (h0 : ∀ lv st M, BX12_readCell_0 G Q lv st M → G 0 lv st M) (h12 : ∀ lv st M, BX12_readCell_12 G Q lv st M → G 12 lv st M) (h31 : ∀ lv st M, BX12_readCell_31 G Q lv st M → G 31 lv st M) (h43 : ∀ lv st M, BX12_readCell_43 G Q lv st M → G 43 lv st M) (h54 : ∀ lv st M, BX12_readCell_54 G Q lv st M → G 54 lv st M) (h77 : ∀ lv st M, BX12_readCell_77 G Q lv st M → G 77 lv st M) (as : List mV) (M : mM) (ho : ∀ v ∈ as, okV v) (hp : pre_X12_readCell as M) (hQ : Q (fn_X12_readCell as M).1 (fn_X12_readCell as M).2) : G 0 (inL as ++ List.replicate (2 - (inL as).length) none) [] M := by
  obtain ⟨c, rfl, t, ht, et⟩ := hp
  obtain rfl : c = 158 := k12 (ho (.inr (.inr (12, c))) (by simp))
  simp only [fn_X12_readCell, rc] at hQ
  have users : ∀ (k u : Nat) (M : mM), u + k = 6 → u ≤ 5 → PS M → M.1 158 2 = nI t → M.1 158 12 = nI u → Q (some (.inl (rcL k M).1)) (rcL k M).2 → G 54 [some (.inr (.inr (12, 158))), none] [] M := by
    intro k
    induction k with
    | zero => intro u M h1 h2; omega
    | succ k ih =>
      intro u M h1 h2 hS e2 eu hq
      obtain ⟨t', p, ht', hp', et', ep⟩ := hS
      rw [rcL] at hq
      (apply h54; simp only [BX12_readCell_54, s_mth, s_mab, s_at, s_iconst, s_lconst, s_iload, s_lload, s_aload, s_istore, s_lstore, s_astore, s_iinc, s_bin, s_binG, s_un, s_lbin, s_lbinG, s_lsh, s_lcmp, s_i2l, s_l2i, s_dup, s_dup2, s_pop, s_if, s_icmp, s_geti, s_getl, s_getr, s_puti, s_putz, s_putl, s_iald, s_zald, s_iast, s_zast, s_aaldS, s_aaldU, s_gets, s_tald, s_tsw, tsw, s_iret, s_zret, s_lret, s_aret, s_vret, s_callV, s_callS, c1, nl1, keepL, csum, pushR, inL, List.getD_cons_zero, List.getD_cons_succ, List.set_cons_zero, List.set_cons_succ, List.cons_append, List.nil_append, List.append_nil, List.replicate, List.length_cons, List.length_nil, List.take_succ_cons, List.take_zero, List.drop_succ_cons, List.drop_zero, List.reverse_cons, List.reverse_nil, true_and, and_true, forall_const, not_true_eq_false, not_false_eq_true, false_implies, true_implies, implies_true, one0, m10, Nat.reduceAdd, Nat.reduceSub, Nat.reduceLeDiff, Nat.zero_add, Nat.add_zero, fn_X12_readHead, fn_X12_readUser])
      refine ⟨fun g => ?_, fun g => ?_⟩
      · rw [if_pos g] at hq
        (apply h77; simp only [BX12_readCell_77, s_mth, s_mab, s_at, s_iconst, s_lconst, s_iload, s_lload, s_aload, s_istore, s_lstore, s_astore, s_iinc, s_bin, s_binG, s_un, s_lbin, s_lbinG, s_lsh, s_lcmp, s_i2l, s_l2i, s_dup, s_dup2, s_pop, s_if, s_icmp, s_geti, s_getl, s_getr, s_puti, s_putz, s_putl, s_iald, s_zald, s_iast, s_zast, s_aaldS, s_aaldU, s_gets, s_tald, s_tsw, tsw, s_iret, s_zret, s_lret, s_aret, s_vret, s_callV, s_callS, c1, nl1, keepL, csum, pushR, inL, List.getD_cons_zero, List.getD_cons_succ, List.set_cons_zero, List.set_cons_succ, List.cons_append, List.nil_append, List.append_nil, List.replicate, List.length_cons, List.length_nil, List.take_succ_cons, List.take_zero, List.drop_succ_cons, List.drop_zero, List.reverse_cons, List.reverse_nil, true_and, and_true, forall_const, not_true_eq_false, not_false_eq_true, false_implies, true_implies, implies_true, one0, m10, Nat.reduceAdd, Nat.reduceSub, Nat.reduceLeDiff, Nat.zero_add, Nat.add_zero, fn_X12_readHead, fn_X12_readUser])
        exact hq
      · rw [if_neg g] at hq
        have hlt : p < t' := by
          rcases Nat.lt_or_ge p t' with g2 | g2
          · exact g2
          · exact absurd (by rw [et', ep]; exact nI_le g2 (by omega)) g
        obtain ⟨f1, f2, f3⟩ := rus_f ht' hlt h2 et' ep eu
        refine ⟨⟨_, rfl, t', p, u, ht', hlt, h2, et', ep, eu⟩, fun g2 => ?_, fun g2 => ?_⟩
        · rw [if_pos g2] at hq
          exact hq
        · rw [if_neg g2] at hq
          rcases f3 with f3 | ⟨f3, f4⟩
          · exact absurd f3 g2
          · exact ih (u + 1) _ (by omega) (by omega) f1 (by rw [f2 158 2 (Or.inr ⟨by decide, by decide⟩) (by decide) (by decide) (by decide)]; exact e2) f4 hq
  have L31 : ∀ M1, M1 = rc0 M → G 31 [some (.inr (.inr (12, 158))), none] [] M1 := by
    rintro _ rfl
    have et0 : (rc0 M).1 158 2 = nI t := by rw [rc0_n (Or.inr ⟨by decide, by decide⟩) (by decide)]; exact et
    have ep0 : (rc0 M).1 158 3 = nI 0 := by unfold rc0; rw [rset_n (by decide), mset_s]; rfl
    have eu0 : (rc0 M).1 158 12 = nI 0 := by unfold rc0; rw [rset_n (by decide), mset_o (by decide), mset_s]; rfl
    have hS : PS (rc0 M) := ⟨t, 0, ht, by omega, et0, ep0⟩
    obtain ⟨f1, f2⟩ := rhd_f hS
    unfold rc1 at hQ
    (apply h31; simp only [BX12_readCell_31, s_mth, s_mab, s_at, s_iconst, s_lconst, s_iload, s_lload, s_aload, s_istore, s_lstore, s_astore, s_iinc, s_bin, s_binG, s_un, s_lbin, s_lbinG, s_lsh, s_lcmp, s_i2l, s_l2i, s_dup, s_dup2, s_pop, s_if, s_icmp, s_geti, s_getl, s_getr, s_puti, s_putz, s_putl, s_iald, s_zald, s_iast, s_zast, s_aaldS, s_aaldU, s_gets, s_tald, s_tsw, tsw, s_iret, s_zret, s_lret, s_aret, s_vret, s_callV, s_callS, c1, nl1, keepL, csum, pushR, inL, List.getD_cons_zero, List.getD_cons_succ, List.set_cons_zero, List.set_cons_succ, List.cons_append, List.nil_append, List.append_nil, List.replicate, List.length_cons, List.length_nil, List.take_succ_cons, List.take_zero, List.drop_succ_cons, List.drop_zero, List.reverse_cons, List.reverse_nil, true_and, and_true, forall_const, not_true_eq_false, not_false_eq_true, false_implies, true_implies, implies_true, one0, m10, Nat.reduceAdd, Nat.reduceSub, Nat.reduceLeDiff, Nat.zero_add, Nat.add_zero, fn_X12_readHead, fn_X12_readUser])
    refine ⟨⟨_, rfl, t, ht, et0⟩, fun g => ?_, fun g => ?_⟩
    · rw [if_pos g] at hQ
      exact hQ
    · rw [if_neg g] at hQ
      (apply h43; simp only [BX12_readCell_43, s_mth, s_mab, s_at, s_iconst, s_lconst, s_iload, s_lload, s_aload, s_istore, s_lstore, s_astore, s_iinc, s_bin, s_binG, s_un, s_lbin, s_lbinG, s_lsh, s_lcmp, s_i2l, s_l2i, s_dup, s_dup2, s_pop, s_if, s_icmp, s_geti, s_getl, s_getr, s_puti, s_putz, s_putl, s_iald, s_zald, s_iast, s_zast, s_aaldS, s_aaldU, s_gets, s_tald, s_tsw, tsw, s_iret, s_zret, s_lret, s_aret, s_vret, s_callV, s_callS, c1, nl1, keepL, csum, pushR, inL, List.getD_cons_zero, List.getD_cons_succ, List.set_cons_zero, List.set_cons_succ, List.cons_append, List.nil_append, List.append_nil, List.replicate, List.length_cons, List.length_nil, List.take_succ_cons, List.take_zero, List.drop_succ_cons, List.drop_zero, List.reverse_cons, List.reverse_nil, true_and, and_true, forall_const, not_true_eq_false, not_false_eq_true, false_implies, true_implies, implies_true, one0, m10, Nat.reduceAdd, Nat.reduceSub, Nat.reduceLeDiff, Nat.zero_add, Nat.add_zero, fn_X12_readHead, fn_X12_readUser])
      simp only [lM, x50']
      refine ⟨v50', ?_⟩
      refine users 6 0 _ rfl (by decide) (PS_m f1 (Or.inl (by decide))) ?_ ?_ hQ
      · rw [mset_n (by decide), f2 158 2 (Or.inr ⟨by decide, by decide, by decide, by decide⟩)]; exact et0
      · rw [mset_n (by decide), f2 158 12 (Or.inr ⟨by decide, by decide, by decide, by decide⟩)]; exact eu0
  have loop : ∀ (n i : Nat) (M' : mM), i + n = 52 → cpyM M' 164 (fun _ => 0) 0 n i = rc0 M → G 12 [some (.inr (.inr (12, 158))), some (.inl (nI i))] [] M' := by
    intro n
    induction n with
    | zero =>
      intro i M' hi hq
      obtain rfl : i = 52 := by omega
      (apply h12; simp only [BX12_readCell_12, s_mth, s_mab, s_at, s_iconst, s_lconst, s_iload, s_lload, s_aload, s_istore, s_lstore, s_astore, s_iinc, s_bin, s_binG, s_un, s_lbin, s_lbinG, s_lsh, s_lcmp, s_i2l, s_l2i, s_dup, s_dup2, s_pop, s_if, s_icmp, s_geti, s_getl, s_getr, s_puti, s_putz, s_putl, s_iald, s_zald, s_iast, s_zast, s_aaldS, s_aaldU, s_gets, s_tald, s_tsw, tsw, s_iret, s_zret, s_lret, s_aret, s_vret, s_callV, s_callS, c1, nl1, keepL, csum, pushR, inL, List.getD_cons_zero, List.getD_cons_succ, List.set_cons_zero, List.set_cons_succ, List.cons_append, List.nil_append, List.append_nil, List.replicate, List.length_cons, List.length_nil, List.take_succ_cons, List.take_zero, List.drop_succ_cons, List.drop_zero, List.reverse_cons, List.reverse_nil, true_and, and_true, forall_const, not_true_eq_false, not_false_eq_true, false_implies, true_implies, implies_true, one0, m10, Nat.reduceAdd, Nat.reduceSub, Nat.reduceLeDiff, Nat.zero_add, Nat.add_zero, fn_X12_readHead, fn_X12_readUser])
      refine ⟨fun _ => ?_, fun h => absurd (by decide) h⟩
      exact L31 _ hq
    | succ n ih =>
      intro i M' hi hq
      have ei : (nI i).toNatClampNeg = i := nI_clamp (by omega)
      have hv : vp_in (nI i) 52 := vp_in_nI (by omega) (by decide)
      (apply h12; simp only [BX12_readCell_12, s_mth, s_mab, s_at, s_iconst, s_lconst, s_iload, s_lload, s_aload, s_istore, s_lstore, s_astore, s_iinc, s_bin, s_binG, s_un, s_lbin, s_lbinG, s_lsh, s_lcmp, s_i2l, s_l2i, s_dup, s_dup2, s_pop, s_if, s_icmp, s_geti, s_getl, s_getr, s_puti, s_putz, s_putl, s_iald, s_zald, s_iast, s_zast, s_aaldS, s_aaldU, s_gets, s_tald, s_tsw, tsw, s_iret, s_zret, s_lret, s_aret, s_vret, s_callV, s_callS, c1, nl1, keepL, csum, pushR, inL, List.getD_cons_zero, List.getD_cons_succ, List.set_cons_zero, List.set_cons_succ, List.cons_append, List.nil_append, List.append_nil, List.replicate, List.length_cons, List.length_nil, List.take_succ_cons, List.take_zero, List.drop_succ_cons, List.drop_zero, List.reverse_cons, List.reverse_nil, true_and, and_true, forall_const, not_true_eq_false, not_false_eq_true, false_implies, true_implies, implies_true, one0, m10, Nat.reduceAdd, Nat.reduceSub, Nat.reduceLeDiff, Nat.zero_add, Nat.add_zero, fn_X12_readHead, fn_X12_readUser])
      simp only [lM, ei]
      refine ⟨fun h => absurd h (nI_ge (b := 52) (by omega) (by decide)), fun _ => ⟨hv, ?_⟩⟩
      rw [nI_1]
      refine ih (i + 1) _ (by omega) ?_
      rw [cpyM, Nat.zero_add] at hq; exact hq
  (apply h0; simp only [BX12_readCell_0, s_mth, s_mab, s_at, s_iconst, s_lconst, s_iload, s_lload, s_aload, s_istore, s_lstore, s_astore, s_iinc, s_bin, s_binG, s_un, s_lbin, s_lbinG, s_lsh, s_lcmp, s_i2l, s_l2i, s_dup, s_dup2, s_pop, s_if, s_icmp, s_geti, s_getl, s_getr, s_puti, s_putz, s_putl, s_iald, s_zald, s_iast, s_zast, s_aaldS, s_aaldU, s_gets, s_tald, s_tsw, tsw, s_iret, s_zret, s_lret, s_aret, s_vret, s_callV, s_callS, c1, nl1, keepL, csum, pushR, inL, List.getD_cons_zero, List.getD_cons_succ, List.set_cons_zero, List.set_cons_succ, List.cons_append, List.nil_append, List.append_nil, List.replicate, List.length_cons, List.length_nil, List.take_succ_cons, List.take_zero, List.drop_succ_cons, List.drop_zero, List.reverse_cons, List.reverse_nil, true_and, and_true, forall_const, not_true_eq_false, not_false_eq_true, false_implies, true_implies, implies_true, one0, m10, Nat.reduceAdd, Nat.reduceSub, Nat.reduceLeDiff, Nat.zero_add, Nat.add_zero, fn_X12_readHead, fn_X12_readUser])
  refine loop 52 0 _ rfl ?_
  rw [cpyM_e]
  unfold rc0
  rw [mset_n (by decide), mset_n (by decide)]
theorem ct_X12_readCell (l : Launch) : Con l yX12_readCell cX12_readCell 2 (Option.some FieldType.int) 3 pre_X12_readCell fn_X12_readCell := con_of (by decide +kernel) ok_X12_readCell len_X12_readCell (fun p e s m args below meth c D ca ad A as M hX hr hp ho => pf_X12_readCell _ _ (bsX12_readCell_0 hX hr) (bsX12_readCell_12 hX hr) (bsX12_readCell_31 hX hr) (bsX12_readCell_43 hX hr) (bsX12_readCell_54 hX hr) (bsX12_readCell_77 hX hr) as M ho hp ⟨rfl, rfl⟩)
def pre_X12_fault (as : List mV) (M : mM) : Prop := ∃ c, as = [.inr (.inr (12, c))] ∧ MI M
def fn_X12_fault : List mV → mM → Option mV × mM
  | [.inr (.inr (_, c))], M => (some (.inl (rc (m0 M)).1), (rc (m0 M)).2)
  | _, M => (none, M)
theorem ok_X12_fault (as : List mV) (M : mM) (h : pre_X12_fault as M) (_ : ∀ v ∈ as, okV v) : okR (fn_X12_fault as M).1 := by
  obtain ⟨c, rfl, -⟩ := h
  first | trivial | exact (by decide +kernel : kof 14 = 8)
theorem len_X12_fault (as : List mV) (M : mM) (h : pre_X12_fault as M) : (inL as).length ≤ 1 := by
  obtain ⟨c, rfl, -⟩ := h
  exact Nat.le_of_ble_eq_true rfl


theorem dX12_fault_0 : decode cX12_fault 0 = .ok (.aload_n 0, 1) := by decide +kernel
theorem dX12_fault_1 : decode cX12_fault 1 = .ok (.iconst 0, 1) := by decide +kernel
theorem dX12_fault_2 : decode cX12_fault 2 = .ok (.putfield 1, 3) := by decide +kernel
theorem dX12_fault_5 : decode cX12_fault 5 = .ok (.aload_n 0, 1) := by decide +kernel
theorem dX12_fault_6 : decode cX12_fault 6 = .ok (.invokevirtual 116, 3) := by decide +kernel
theorem dX12_fault_9 : decode cX12_fault 9 = .ok (.ireturn, 1) := by decide +kernel
theorem mk_X12_fault : MVk yX12_fault "FairBlocksModel" cX12_fault 1 (Option.some FieldType.int) 0 := ⟨w_835, w_833, w_834, w_13, rfl, by decide +kernel, by decide +kernel, by decide +kernel⟩
def BX12_fault_0 (G : Nat → KT) (Q : Option mV → mM → Prop) : KT := (s_aload 0 (s_iconst (0) (s_puti 12 0 (s_aload 0 (s_callV 12 0 pre_X12_readCell fn_X12_readCell (s_iret Q))))))
set_option maxRecDepth 4000 in
theorem bsX12_fault_0 {p : Program} {l : Launch} {e : Env} {s : State} {m : MethodId} {args : Array Value} {below : List Frame} {meth : Method} {c : Code} {D : va_G} {ca : Nat → ClassId} {ad : Nat → Nat} {A : Nat → Prop} {Q : Option mV → mM → Prop} (hX : CX p s m args meth c 1 cX12_fault "FairBlocksModel" D ca ad A) (hr : meth.sig.returnType = (Option.some FieldType.int)) : ∀ lv st M, BX12_fault_0 (Gd p l e (rmD 4) s m args below meth c 1 D ca ad A 0 0 (MQ below (QC D ca ad A Q) args s 0 0 A)) Q lv st M → Gd p l e (rmD 4) s m args below meth c 1 D ca ad A 0 0 (MQ below (QC D ca ad A Q) args s 0 0 A) 0 lv st M :=
  (sd_aload_n hX dX12_fault_0 rfl (sd_iconst hX dX12_fault_1 rfl (sd_puti hX fp_723 dX12_fault_2 (sd_aload_n hX dX12_fault_5 rfl (sd_callV hX (kd := 12) rfl (by decide) (ct_X12_readCell l) mk_X12_readCell w_836 ⟨⟨by decide, by decide⟩, by decide, by decide⟩ dX12_fault_6 (sd_iret hX hr dX12_fault_9))))))
set_option maxHeartbeats 400000 in
theorem pf_X12_fault (G : Nat → KT) (Q : Option mV → mM → Prop) (h0 : ∀ lv st M, BX12_fault_0 G Q lv st M → G 0 lv st M) (as : List mV) (M : mM) (ho : ∀ v ∈ as, okV v) (hp : pre_X12_fault as M) (hQ : Q (fn_X12_fault as M).1 (fn_X12_fault as M).2) : G 0 (inL as ++ List.replicate (1 - (inL as).length) none) [] M := by
  obtain ⟨c, rfl, hM⟩ := hp
  obtain rfl : c = 158 := k12 (ho (.inr (.inr (12, c))) (by simp))
  have hI := MI_0 hM
  simp only [fn_X12_fault] at hQ
  (apply h0; simp only [BX12_fault_0, s_mth, s_mab, s_at, s_iconst, s_lconst, s_iload, s_lload, s_aload, s_istore, s_lstore, s_astore, s_iinc, s_bin, s_binG, s_un, s_lbin, s_lbinG, s_lsh, s_lcmp, s_i2l, s_l2i, s_dup, s_dup2, s_pop, s_if, s_icmp, s_geti, s_getl, s_getr, s_puti, s_putz, s_putl, s_iald, s_zald, s_iast, s_zast, s_aaldS, s_aaldU, s_gets, s_tald, s_tsw, tsw, s_iret, s_zret, s_lret, s_aret, s_vret, s_callV, s_callS, c1, nl1, keepL, csum, pushR, inL, List.getD_cons_zero, List.getD_cons_succ, List.set_cons_zero, List.set_cons_succ, List.cons_append, List.nil_append, List.append_nil, List.replicate, List.length_cons, List.length_nil, List.take_succ_cons, List.take_zero, List.drop_succ_cons, List.drop_zero, List.reverse_cons, List.reverse_nil, true_and, and_true, forall_const, not_true_eq_false, not_false_eq_true, false_implies, true_implies, implies_true, one0, m10, Nat.reduceAdd, Nat.reduceSub, Nat.reduceLeDiff, Nat.zero_add, Nat.add_zero, fn_X12_readCell])
  exact ⟨⟨_, rfl, hI.2.2.1⟩, hQ⟩
theorem ct_X12_fault (l : Launch) : Con l yX12_fault cX12_fault 1 (Option.some FieldType.int) 4 pre_X12_fault fn_X12_fault := con_of (by decide +kernel) ok_X12_fault len_X12_fault (fun p e s m args below meth c D ca ad A as M hX hr hp ho => pf_X12_fault _ _ (bsX12_fault_0 hX hr) as M ho hp ⟨rfl, rfl⟩)
def ceA (M : mM) : mM := mset (mset (mset M 158 4 (M.1 158 9)) 158 5 (M.1 158 10)) 158 6 (M.1 158 12)
def ceB (M : mM) : mM := rset (rset (rset M 160 (cpyR (M.1 160) (M.1 162) 0 30 0)) 161 (cpyR (M.1 161) (M.1 163) 0 5 0)) 165 (cpyR (M.1 165) (M.1 164) 0 52 0)
def ceC (M : mM) : mM := mset (mset (mset M 158 20 0) 170 0 0) 170 1 0
def m_cell (M : mM) : Int32 × mM := if (rc M).1 = -9 then ((ceC (ceB (ceA (rc M).2))).1 158 6, ceC (ceB (ceA (rc M).2))) else (-3, (rc M).2)
def pre_X12_cell (as : List mV) (M : mM) : Prop := ∃ c, as = [.inr (.inr (12, c))] ∧ MI M
def fn_X12_cell : List mV → mM → Option mV × mM
  | [.inr (.inr (_, c))], M => (some (.inl (m_cell (m0 M)).1), (m_cell (m0 M)).2)
  | _, M => (none, M)
theorem ok_X12_cell (as : List mV) (M : mM) (h : pre_X12_cell as M) (_ : ∀ v ∈ as, okV v) : okR (fn_X12_cell as M).1 := by
  obtain ⟨c, rfl, -⟩ := h
  first | trivial | exact (by decide +kernel : kof 14 = 8)
theorem len_X12_cell (as : List mV) (M : mM) (h : pre_X12_cell as M) : (inL as).length ≤ 2 := by
  obtain ⟨c, rfl, -⟩ := h
  exact Nat.le_of_ble_eq_true rfl

theorem fp_727 : FPk "FairBlocksModel" 30 12 4 0 .int := ⟨RX12, TX12, 32, tyX12, rfl, inX12, by decide, w_727, by decide, rfl, tyX12_ok, nmX12, rfl, rfl⟩
theorem fp_728 : FPk "FairBlocksModel" 33 12 5 0 .int := ⟨RX12, TX12, 32, tyX12, rfl, inX12, by decide, w_728, by decide, rfl, tyX12_ok, nmX12, rfl, rfl⟩
theorem fp_729 : FPk "FairBlocksModel" 14 12 6 0 .int := ⟨RX12, TX12, 32, tyX12, rfl, inX12, by decide, w_729, by decide, rfl, tyX12_ok, nmX12, rfl, rfl⟩
theorem dX12_cell_0 : decode cX12_cell 0 = .ok (.aload_n 0, 1) := by decide +kernel
theorem dX12_cell_1 : decode cX12_cell 1 = .ok (.iconst 0, 1) := by decide +kernel
theorem dX12_cell_2 : decode cX12_cell 2 = .ok (.putfield 1, 3) := by decide +kernel
theorem dX12_cell_5 : decode cX12_cell 5 = .ok (.aload_n 0, 1) := by decide +kernel
theorem dX12_cell_6 : decode cX12_cell 6 = .ok (.invokevirtual 116, 3) := by decide +kernel
theorem dX12_cell_9 : decode cX12_cell 9 = .ok (.bipush (-9), 2) := by decide +kernel
theorem dX12_cell_11 : decode cX12_cell 11 = .ok (.if_icmp .eq 6, 3) := by decide +kernel
theorem dX12_cell_14 : decode cX12_cell 14 = .ok (.bipush (-3), 2) := by decide +kernel
theorem dX12_cell_16 : decode cX12_cell 16 = .ok (.ireturn, 1) := by decide +kernel
theorem dX12_cell_17 : decode cX12_cell 17 = .ok (.aload_n 0, 1) := by decide +kernel
theorem dX12_cell_18 : decode cX12_cell 18 = .ok (.aload_n 0, 1) := by decide +kernel
theorem dX12_cell_19 : decode cX12_cell 19 = .ok (.getfield 97, 3) := by decide +kernel
theorem dX12_cell_22 : decode cX12_cell 22 = .ok (.putfield 30, 3) := by decide +kernel
theorem dX12_cell_25 : decode cX12_cell 25 = .ok (.aload_n 0, 1) := by decide +kernel
theorem dX12_cell_26 : decode cX12_cell 26 = .ok (.aload_n 0, 1) := by decide +kernel
theorem dX12_cell_27 : decode cX12_cell 27 = .ok (.getfield 100, 3) := by decide +kernel
theorem dX12_cell_30 : decode cX12_cell 30 = .ok (.putfield 33, 3) := by decide +kernel
theorem dX12_cell_33 : decode cX12_cell 33 = .ok (.aload_n 0, 1) := by decide +kernel
theorem dX12_cell_34 : decode cX12_cell 34 = .ok (.aload_n 0, 1) := by decide +kernel
theorem dX12_cell_35 : decode cX12_cell 35 = .ok (.getfield 106, 3) := by decide +kernel
theorem dX12_cell_38 : decode cX12_cell 38 = .ok (.putfield 14, 3) := by decide +kernel
theorem dX12_cell_41 : decode cX12_cell 41 = .ok (.iconst 0, 1) := by decide +kernel
theorem dX12_cell_42 : decode cX12_cell 42 = .ok (.istore_n 1, 1) := by decide +kernel
theorem dX12_cell_43 : decode cX12_cell 43 = .ok (.iload_n 1, 1) := by decide +kernel
theorem dX12_cell_44 : decode cX12_cell 44 = .ok (.bipush 30, 2) := by decide +kernel
theorem dX12_cell_46 : decode cX12_cell 46 = .ok (.if_icmp .ge 21, 3) := by decide +kernel
theorem dX12_cell_49 : decode cX12_cell 49 = .ok (.aload_n 0, 1) := by decide +kernel
theorem dX12_cell_50 : decode cX12_cell 50 = .ok (.getfield 36, 3) := by decide +kernel
theorem dX12_cell_53 : decode cX12_cell 53 = .ok (.iload_n 1, 1) := by decide +kernel
theorem dX12_cell_54 : decode cX12_cell 54 = .ok (.aload_n 0, 1) := by decide +kernel
theorem dX12_cell_55 : decode cX12_cell 55 = .ok (.getfield 42, 3) := by decide +kernel
theorem dX12_cell_58 : decode cX12_cell 58 = .ok (.iload_n 1, 1) := by decide +kernel
theorem dX12_cell_59 : decode cX12_cell 59 = .ok (.iaload, 1) := by decide +kernel
theorem dX12_cell_60 : decode cX12_cell 60 = .ok (.iastore, 1) := by decide +kernel
theorem dX12_cell_61 : decode cX12_cell 61 = .ok (.iinc 1 1, 3) := by decide +kernel
theorem dX12_cell_64 : decode cX12_cell 64 = .ok (.goto (-21), 3) := by decide +kernel
theorem dX12_cell_67 : decode cX12_cell 67 = .ok (.iconst 0, 1) := by decide +kernel
theorem dX12_cell_68 : decode cX12_cell 68 = .ok (.istore_n 1, 1) := by decide +kernel
theorem dX12_cell_69 : decode cX12_cell 69 = .ok (.iload_n 1, 1) := by decide +kernel
theorem dX12_cell_70 : decode cX12_cell 70 = .ok (.iconst 5, 1) := by decide +kernel
theorem dX12_cell_71 : decode cX12_cell 71 = .ok (.if_icmp .ge 21, 3) := by decide +kernel
theorem dX12_cell_74 : decode cX12_cell 74 = .ok (.aload_n 0, 1) := by decide +kernel
theorem dX12_cell_75 : decode cX12_cell 75 = .ok (.getfield 39, 3) := by decide +kernel
theorem dX12_cell_78 : decode cX12_cell 78 = .ok (.iload_n 1, 1) := by decide +kernel
theorem dX12_cell_79 : decode cX12_cell 79 = .ok (.aload_n 0, 1) := by decide +kernel
theorem dX12_cell_80 : decode cX12_cell 80 = .ok (.getfield 45, 3) := by decide +kernel
theorem dX12_cell_83 : decode cX12_cell 83 = .ok (.iload_n 1, 1) := by decide +kernel
theorem dX12_cell_84 : decode cX12_cell 84 = .ok (.iaload, 1) := by decide +kernel
theorem dX12_cell_85 : decode cX12_cell 85 = .ok (.iastore, 1) := by decide +kernel
theorem dX12_cell_86 : decode cX12_cell 86 = .ok (.iinc 1 1, 3) := by decide +kernel
theorem dX12_cell_89 : decode cX12_cell 89 = .ok (.goto (-20), 3) := by decide +kernel
theorem dX12_cell_92 : decode cX12_cell 92 = .ok (.iconst 0, 1) := by decide +kernel
theorem dX12_cell_93 : decode cX12_cell 93 = .ok (.istore_n 1, 1) := by decide +kernel
theorem dX12_cell_94 : decode cX12_cell 94 = .ok (.iload_n 1, 1) := by decide +kernel
theorem dX12_cell_95 : decode cX12_cell 95 = .ok (.bipush 52, 2) := by decide +kernel
theorem dX12_cell_97 : decode cX12_cell 97 = .ok (.if_icmp .ge 21, 3) := by decide +kernel
theorem dX12_cell_100 : decode cX12_cell 100 = .ok (.aload_n 0, 1) := by decide +kernel
theorem dX12_cell_101 : decode cX12_cell 101 = .ok (.getfield 11, 3) := by decide +kernel
theorem dX12_cell_104 : decode cX12_cell 104 = .ok (.iload_n 1, 1) := by decide +kernel
theorem dX12_cell_105 : decode cX12_cell 105 = .ok (.aload_n 0, 1) := by decide +kernel
theorem dX12_cell_106 : decode cX12_cell 106 = .ok (.getfield 48, 3) := by decide +kernel
theorem dX12_cell_109 : decode cX12_cell 109 = .ok (.iload_n 1, 1) := by decide +kernel
theorem dX12_cell_110 : decode cX12_cell 110 = .ok (.iaload, 1) := by decide +kernel
theorem dX12_cell_111 : decode cX12_cell 111 = .ok (.iastore, 1) := by decide +kernel
theorem dX12_cell_112 : decode cX12_cell 112 = .ok (.iinc 1 1, 3) := by decide +kernel
theorem dX12_cell_115 : decode cX12_cell 115 = .ok (.goto (-21), 3) := by decide +kernel
theorem dX12_cell_118 : decode cX12_cell 118 = .ok (.aload_n 0, 1) := by decide +kernel
theorem dX12_cell_119 : decode cX12_cell 119 = .ok (.iconst 0, 1) := by decide +kernel
theorem dX12_cell_120 : decode cX12_cell 120 = .ok (.putfield 120, 3) := by decide +kernel
theorem dX12_cell_123 : decode cX12_cell 123 = .ok (.aload_n 0, 1) := by decide +kernel
theorem dX12_cell_124 : decode cX12_cell 124 = .ok (.getfield 60, 3) := by decide +kernel
theorem dX12_cell_127 : decode cX12_cell 127 = .ok (.iconst 0, 1) := by decide +kernel
theorem dX12_cell_128 : decode cX12_cell 128 = .ok (.iconst 0, 1) := by decide +kernel
theorem dX12_cell_129 : decode cX12_cell 129 = .ok (.bastore, 1) := by decide +kernel
theorem dX12_cell_130 : decode cX12_cell 130 = .ok (.aload_n 0, 1) := by decide +kernel
theorem dX12_cell_131 : decode cX12_cell 131 = .ok (.getfield 60, 3) := by decide +kernel
theorem dX12_cell_134 : decode cX12_cell 134 = .ok (.iconst 1, 1) := by decide +kernel
theorem dX12_cell_135 : decode cX12_cell 135 = .ok (.iconst 0, 1) := by decide +kernel
theorem dX12_cell_136 : decode cX12_cell 136 = .ok (.bastore, 1) := by decide +kernel
theorem dX12_cell_137 : decode cX12_cell 137 = .ok (.aload_n 0, 1) := by decide +kernel
theorem dX12_cell_138 : decode cX12_cell 138 = .ok (.getfield 14, 3) := by decide +kernel
theorem dX12_cell_141 : decode cX12_cell 141 = .ok (.ireturn, 1) := by decide +kernel
theorem mk_X12_cell : MVk yX12_cell "FairBlocksModel" cX12_cell 2 (Option.some FieldType.int) 0 := ⟨w_855, w_853, w_854, w_13, rfl, by decide +kernel, by decide +kernel, by decide +kernel⟩
def BX12_cell_0 (G : Nat → KT) (Q : Option mV → mM → Prop) : KT := (s_aload 0 (s_iconst (0) (s_puti 12 0 (s_aload 0 (s_callV 12 0 pre_X12_readCell fn_X12_readCell (s_iconst (-9) (s_icmp (fun x y => x = y) (s_at G 17 [true, false]) (s_iconst (-3) (s_iret Q)))))))))
set_option maxRecDepth 4000 in
theorem bsX12_cell_0 {p : Program} {l : Launch} {e : Env} {s : State} {m : MethodId} {args : Array Value} {below : List Frame} {meth : Method} {c : Code} {D : va_G} {ca : Nat → ClassId} {ad : Nat → Nat} {A : Nat → Prop} {Q : Option mV → mM → Prop} (hX : CX p s m args meth c 2 cX12_cell "FairBlocksModel" D ca ad A) (hr : meth.sig.returnType = (Option.some FieldType.int)) : ∀ lv st M, BX12_cell_0 (Gd p l e (rmD 4) s m args below meth c 2 D ca ad A 0 0 (MQ below (QC D ca ad A Q) args s 0 0 A)) Q lv st M → Gd p l e (rmD 4) s m args below meth c 2 D ca ad A 0 0 (MQ below (QC D ca ad A Q) args s 0 0 A) 0 lv st M :=
  (sd_aload_n hX dX12_cell_0 rfl (sd_iconst hX dX12_cell_1 rfl (sd_puti hX fp_723 dX12_cell_2 (sd_aload_n hX dX12_cell_5 rfl (sd_callV hX (kd := 12) rfl (by decide) (ct_X12_readCell l) mk_X12_readCell w_836 ⟨⟨by decide, by decide⟩, by decide, by decide⟩ dX12_cell_6 (sd_bipush hX dX12_cell_9 rfl (sd_icmp_eq hX dX12_cell_11 (by decide) sd_at (sd_bipush hX dX12_cell_14 rfl (sd_iret hX hr dX12_cell_16)))))))))
def BX12_cell_17 (G : Nat → KT) (Q : Option mV → mM → Prop) : KT := (s_aload 0 (s_aload 0 (s_geti 12 9 (s_puti 12 4 (s_aload 0 (s_aload 0 (s_geti 12 10 (s_puti 12 5 (s_aload 0 (s_aload 0 (s_geti 12 12 (s_puti 12 6 (s_iconst (0) (s_istore 1 (s_at G 43 [true, true])))))))))))))))
set_option maxRecDepth 4000 in
theorem bsX12_cell_17 {p : Program} {l : Launch} {e : Env} {s : State} {m : MethodId} {args : Array Value} {below : List Frame} {meth : Method} {c : Code} {D : va_G} {ca : Nat → ClassId} {ad : Nat → Nat} {A : Nat → Prop} {Q : Option mV → mM → Prop} (hX : CX p s m args meth c 2 cX12_cell "FairBlocksModel" D ca ad A) (hr : meth.sig.returnType = (Option.some FieldType.int)) : ∀ lv st M, BX12_cell_17 (Gd p l e (rmD 4) s m args below meth c 2 D ca ad A 0 0 (MQ below (QC D ca ad A Q) args s 0 0 A)) Q lv st M → Gd p l e (rmD 4) s m args below meth c 2 D ca ad A 0 0 (MQ below (QC D ca ad A Q) args s 0 0 A) 17 lv st M :=
  (sd_aload_n hX dX12_cell_17 rfl (sd_aload_n hX dX12_cell_18 rfl (sd_geti hX fl_732 (by decide) dX12_cell_19 (sd_puti hX fp_727 dX12_cell_22 (sd_aload_n hX dX12_cell_25 rfl (sd_aload_n hX dX12_cell_26 rfl (sd_geti hX fl_733 (by decide) dX12_cell_27 (sd_puti hX fp_728 dX12_cell_30 (sd_aload_n hX dX12_cell_33 rfl (sd_aload_n hX dX12_cell_34 rfl (sd_geti hX fl_735 (by decide) dX12_cell_35 (sd_puti hX fp_729 dX12_cell_38 (sd_iconst hX dX12_cell_41 rfl (sd_istore_n hX (by decide) dX12_cell_42 rfl sd_at))))))))))))))
def BX12_cell_43 (G : Nat → KT) (Q : Option mV → mM → Prop) : KT := (s_iload 1 (s_iconst (30) (s_icmp (fun x y => y ≤ x) (s_at G 67 [true, false]) (s_aload 0 (s_getr 12 13 (fun _ => 160) (s_iload 1 (s_aload 0 (s_getr 12 13 (fun _ => 162) (s_iload 1 (s_iald (s_iast (s_iinc 1 (1) (s_at G 43 [true, true])))))))))))))
set_option maxRecDepth 4000 in
theorem bsX12_cell_43 {p : Program} {l : Launch} {e : Env} {s : State} {m : MethodId} {args : Array Value} {below : List Frame} {meth : Method} {c : Code} {D : va_G} {ca : Nat → ClassId} {ad : Nat → Nat} {A : Nat → Prop} {Q : Option mV → mM → Prop} (hX : CX p s m args meth c 2 cX12_cell "FairBlocksModel" D ca ad A) (hr : meth.sig.returnType = (Option.some FieldType.int)) : ∀ lv st M, BX12_cell_43 (Gd p l e (rmD 4) s m args below meth c 2 D ca ad A 0 0 (MQ below (QC D ca ad A Q) args s 0 0 A)) Q lv st M → Gd p l e (rmD 4) s m args below meth c 2 D ca ad A 0 0 (MQ below (QC D ca ad A Q) args s 0 0 A) 43 lv st M :=
  (sd_iload_n hX dX12_cell_43 rfl (sd_bipush hX dX12_cell_44 rfl (sd_icmp_ge hX dX12_cell_46 (by decide) sd_at (sd_aload_n hX dX12_cell_49 rfl (sd_getr hX fl_730 (fun _ => rfl) (fun _ _ _ => by decide +kernel) dX12_cell_50 (sd_iload_n hX dX12_cell_53 rfl (sd_aload_n hX dX12_cell_54 rfl (sd_getr hX fl_736 (fun _ => rfl) (fun _ _ _ => by decide +kernel) dX12_cell_55 (sd_iload_n hX dX12_cell_58 rfl (sd_iald hX dX12_cell_59 (sd_iast hX dX12_cell_60 (sd_iinc hX (by decide) dX12_cell_61 rfl (sd_goto hX dX12_cell_64 (by decide) sd_at)))))))))))))
def BX12_cell_67 (G : Nat → KT) (Q : Option mV → mM → Prop) : KT := (s_iconst (0) (s_istore 1 (s_at G 69 [true, true])))
set_option maxRecDepth 4000 in
theorem bsX12_cell_67 {p : Program} {l : Launch} {e : Env} {s : State} {m : MethodId} {args : Array Value} {below : List Frame} {meth : Method} {c : Code} {D : va_G} {ca : Nat → ClassId} {ad : Nat → Nat} {A : Nat → Prop} {Q : Option mV → mM → Prop} (hX : CX p s m args meth c 2 cX12_cell "FairBlocksModel" D ca ad A) (hr : meth.sig.returnType = (Option.some FieldType.int)) : ∀ lv st M, BX12_cell_67 (Gd p l e (rmD 4) s m args below meth c 2 D ca ad A 0 0 (MQ below (QC D ca ad A Q) args s 0 0 A)) Q lv st M → Gd p l e (rmD 4) s m args below meth c 2 D ca ad A 0 0 (MQ below (QC D ca ad A Q) args s 0 0 A) 67 lv st M :=
  (sd_iconst hX dX12_cell_67 rfl (sd_istore_n hX (by decide) dX12_cell_68 rfl sd_at))
def BX12_cell_69 (G : Nat → KT) (Q : Option mV → mM → Prop) : KT := (s_iload 1 (s_iconst (5) (s_icmp (fun x y => y ≤ x) (s_at G 92 [true, false]) (s_aload 0 (s_getr 12 13 (fun _ => 161) (s_iload 1 (s_aload 0 (s_getr 12 13 (fun _ => 163) (s_iload 1 (s_iald (s_iast (s_iinc 1 (1) (s_at G 69 [true, true])))))))))))))
set_option maxRecDepth 4000 in
theorem bsX12_cell_69 {p : Program} {l : Launch} {e : Env} {s : State} {m : MethodId} {args : Array Value} {below : List Frame} {meth : Method} {c : Code} {D : va_G} {ca : Nat → ClassId} {ad : Nat → Nat} {A : Nat → Prop} {Q : Option mV → mM → Prop} (hX : CX p s m args meth c 2 cX12_cell "FairBlocksModel" D ca ad A) (hr : meth.sig.returnType = (Option.some FieldType.int)) : ∀ lv st M, BX12_cell_69 (Gd p l e (rmD 4) s m args below meth c 2 D ca ad A 0 0 (MQ below (QC D ca ad A Q) args s 0 0 A)) Q lv st M → Gd p l e (rmD 4) s m args below meth c 2 D ca ad A 0 0 (MQ below (QC D ca ad A Q) args s 0 0 A) 69 lv st M :=
  (sd_iload_n hX dX12_cell_69 rfl (sd_iconst hX dX12_cell_70 rfl (sd_icmp_ge hX dX12_cell_71 (by decide) sd_at (sd_aload_n hX dX12_cell_74 rfl (sd_getr hX fl_731 (fun _ => rfl) (fun _ _ _ => by decide +kernel) dX12_cell_75 (sd_iload_n hX dX12_cell_78 rfl (sd_aload_n hX dX12_cell_79 rfl (sd_getr hX fl_737 (fun _ => rfl) (fun _ _ _ => by decide +kernel) dX12_cell_80 (sd_iload_n hX dX12_cell_83 rfl (sd_iald hX dX12_cell_84 (sd_iast hX dX12_cell_85 (sd_iinc hX (by decide) dX12_cell_86 rfl (sd_goto hX dX12_cell_89 (by decide) sd_at)))))))))))))
def BX12_cell_92 (G : Nat → KT) (Q : Option mV → mM → Prop) : KT := (s_iconst (0) (s_istore 1 (s_at G 94 [true, true])))
set_option maxRecDepth 4000 in
theorem bsX12_cell_92 {p : Program} {l : Launch} {e : Env} {s : State} {m : MethodId} {args : Array Value} {below : List Frame} {meth : Method} {c : Code} {D : va_G} {ca : Nat → ClassId} {ad : Nat → Nat} {A : Nat → Prop} {Q : Option mV → mM → Prop} (hX : CX p s m args meth c 2 cX12_cell "FairBlocksModel" D ca ad A) (hr : meth.sig.returnType = (Option.some FieldType.int)) : ∀ lv st M, BX12_cell_92 (Gd p l e (rmD 4) s m args below meth c 2 D ca ad A 0 0 (MQ below (QC D ca ad A Q) args s 0 0 A)) Q lv st M → Gd p l e (rmD 4) s m args below meth c 2 D ca ad A 0 0 (MQ below (QC D ca ad A Q) args s 0 0 A) 92 lv st M :=
  (sd_iconst hX dX12_cell_92 rfl (sd_istore_n hX (by decide) dX12_cell_93 rfl sd_at))
def BX12_cell_94 (G : Nat → KT) (Q : Option mV → mM → Prop) : KT := (s_iload 1 (s_iconst (52) (s_icmp (fun x y => y ≤ x) (s_at G 118 [true, false]) (s_aload 0 (s_getr 12 13 (fun _ => 165) (s_iload 1 (s_aload 0 (s_getr 12 13 (fun _ => 164) (s_iload 1 (s_iald (s_iast (s_iinc 1 (1) (s_at G 94 [true, true])))))))))))))
set_option maxRecDepth 4000 in
theorem bsX12_cell_94 {p : Program} {l : Launch} {e : Env} {s : State} {m : MethodId} {args : Array Value} {below : List Frame} {meth : Method} {c : Code} {D : va_G} {ca : Nat → ClassId} {ad : Nat → Nat} {A : Nat → Prop} {Q : Option mV → mM → Prop} (hX : CX p s m args meth c 2 cX12_cell "FairBlocksModel" D ca ad A) (hr : meth.sig.returnType = (Option.some FieldType.int)) : ∀ lv st M, BX12_cell_94 (Gd p l e (rmD 4) s m args below meth c 2 D ca ad A 0 0 (MQ below (QC D ca ad A Q) args s 0 0 A)) Q lv st M → Gd p l e (rmD 4) s m args below meth c 2 D ca ad A 0 0 (MQ below (QC D ca ad A Q) args s 0 0 A) 94 lv st M :=
  (sd_iload_n hX dX12_cell_94 rfl (sd_bipush hX dX12_cell_95 rfl (sd_icmp_ge hX dX12_cell_97 (by decide) sd_at (sd_aload_n hX dX12_cell_100 rfl (sd_getr hX fl_739 (fun _ => rfl) (fun _ _ _ => by decide +kernel) dX12_cell_101 (sd_iload_n hX dX12_cell_104 rfl (sd_aload_n hX dX12_cell_105 rfl (sd_getr hX fl_738 (fun _ => rfl) (fun _ _ _ => by decide +kernel) dX12_cell_106 (sd_iload_n hX dX12_cell_109 rfl (sd_iald hX dX12_cell_110 (sd_iast hX dX12_cell_111 (sd_iinc hX (by decide) dX12_cell_112 rfl (sd_goto hX dX12_cell_115 (by decide) sd_at)))))))))))))
def BX12_cell_118 (G : Nat → KT) (Q : Option mV → mM → Prop) : KT := (s_aload 0 (s_iconst (0) (s_puti 12 20 (s_aload 0 (s_getr 12 14 (fun _ => 170) (s_iconst (0) (s_iconst (0) (s_zast (s_aload 0 (s_getr 12 14 (fun _ => 170) (s_iconst (1) (s_iconst (0) (s_zast (s_aload 0 (s_geti 12 6 (s_iret Q))))))))))))))))
set_option maxRecDepth 4000 in
theorem bsX12_cell_118 {p : Program} {l : Launch} {e : Env} {s : State} {m : MethodId} {args : Array Value} {below : List Frame} {meth : Method} {c : Code} {D : va_G} {ca : Nat → ClassId} {ad : Nat → Nat} {A : Nat → Prop} {Q : Option mV → mM → Prop} (hX : CX p s m args meth c 2 cX12_cell "FairBlocksModel" D ca ad A) (hr : meth.sig.returnType = (Option.some FieldType.int)) : ∀ lv st M, BX12_cell_118 (Gd p l e (rmD 4) s m args below meth c 2 D ca ad A 0 0 (MQ below (QC D ca ad A Q) args s 0 0 A)) Q lv st M → Gd p l e (rmD 4) s m args below meth c 2 D ca ad A 0 0 (MQ below (QC D ca ad A Q) args s 0 0 A) 118 lv st M :=
  (sd_aload_n hX dX12_cell_118 rfl (sd_iconst hX dX12_cell_119 rfl (sd_puti hX fp_743 dX12_cell_120 (sd_aload_n hX dX12_cell_123 rfl (sd_getr hX fl_745 (fun _ => rfl) (fun _ _ _ => by decide +kernel) dX12_cell_124 (sd_iconst hX dX12_cell_127 rfl (sd_iconst hX dX12_cell_128 rfl (sd_zast hX dX12_cell_129 (sd_aload_n hX dX12_cell_130 rfl (sd_getr hX fl_745 (fun _ => rfl) (fun _ _ _ => by decide +kernel) dX12_cell_131 (sd_iconst hX dX12_cell_134 rfl (sd_iconst hX dX12_cell_135 rfl (sd_zast hX dX12_cell_136 (sd_aload_n hX dX12_cell_137 rfl (sd_geti hX fl_729 (by decide) dX12_cell_138 (sd_iret hX hr dX12_cell_141))))))))))))))))
set_option maxHeartbeats 400000 in
theorem pf_X12_cell (G : Nat → KT) (Q : Option mV → mM → Prop) (h0 : ∀ lv st M, BX12_cell_0 G Q lv st M → G 0 lv st M) (h17 : ∀ lv st M, BX12_cell_17 G Q lv st M → G 17 lv st M) (h43 : ∀ lv st M, BX12_cell_43 G Q lv st M → G 43 lv st M) (h67 : ∀ lv st M, BX12_cell_67 G Q lv st M → G 67 lv st M) (h69 : ∀ lv st M, BX12_cell_69 G Q lv st M → G 69 lv st M) (h92 : ∀ lv st M, BX12_cell_92 G Q lv st M → G 92 lv st M) (h94 : ∀ lv st M, BX12_cell_94 G Q lv st M → G 94 lv st M) (h118 : ∀ lv st M, BX12_cell_118 G Q lv st M → G 118 lv st M) (as : List mV) (M : mM) (ho : ∀ v ∈ as, okV v) (hp : pre_X12_cell as M) (hQ : Q (fn_X12_cell as M).1 (fn_X12_cell as M).2) : G 0 (inL as ++ List.replicate (2 - (inL as).length) none) [] M := by
  obtain ⟨c, rfl, hM⟩ := hp
  obtain rfl : c = 158 := k12 (ho (.inr (.inr (12, c))) (by simp))
  have hI := MI_0 hM
  simp only [fn_X12_cell, m_cell] at hQ
  (apply h0; simp only [BX12_cell_0, s_mth, s_mab, s_at, s_iconst, s_lconst, s_iload, s_lload, s_aload, s_istore, s_lstore, s_astore, s_iinc, s_bin, s_binG, s_un, s_lbin, s_lbinG, s_lsh, s_lcmp, s_i2l, s_l2i, s_dup, s_dup2, s_pop, s_if, s_icmp, s_geti, s_getl, s_getr, s_puti, s_putz, s_putl, s_iald, s_zald, s_iast, s_zast, s_aaldS, s_aaldU, s_gets, s_tald, s_tsw, tsw, s_iret, s_zret, s_lret, s_aret, s_vret, s_callV, s_callS, c1, nl1, keepL, csum, pushR, inL, List.getD_cons_zero, List.getD_cons_succ, List.set_cons_zero, List.set_cons_succ, List.cons_append, List.nil_append, List.append_nil, List.replicate, List.length_cons, List.length_nil, List.take_succ_cons, List.take_zero, List.drop_succ_cons, List.drop_zero, List.reverse_cons, List.reverse_nil, true_and, and_true, forall_const, not_true_eq_false, not_false_eq_true, false_implies, true_implies, implies_true, one0, m10, Nat.reduceAdd, Nat.reduceSub, Nat.reduceLeDiff, Nat.zero_add, Nat.add_zero, fn_X12_readCell])
  rw [show mset M 158 0 0 = m0 M from rfl]
  generalize m0 M = M0 at *
  refine ⟨⟨_, rfl, hI.2.2.1⟩, fun h => ?_, fun h => ?_⟩
  · rw [if_pos h] at hQ
    generalize (rc M0).2 = M1 at *
    clear hI h
    (apply h17; simp only [BX12_cell_17, s_mth, s_mab, s_at, s_iconst, s_lconst, s_iload, s_lload, s_aload, s_istore, s_lstore, s_astore, s_iinc, s_bin, s_binG, s_un, s_lbin, s_lbinG, s_lsh, s_lcmp, s_i2l, s_l2i, s_dup, s_dup2, s_pop, s_if, s_icmp, s_geti, s_getl, s_getr, s_puti, s_putz, s_putl, s_iald, s_zald, s_iast, s_zast, s_aaldS, s_aaldU, s_gets, s_tald, s_tsw, tsw, s_iret, s_zret, s_lret, s_aret, s_vret, s_callV, s_callS, c1, nl1, keepL, csum, pushR, inL, List.getD_cons_zero, List.getD_cons_succ, List.set_cons_zero, List.set_cons_succ, List.cons_append, List.nil_append, List.append_nil, List.replicate, List.length_cons, List.length_nil, List.take_succ_cons, List.take_zero, List.drop_succ_cons, List.drop_zero, List.reverse_cons, List.reverse_nil, true_and, and_true, forall_const, not_true_eq_false, not_false_eq_true, false_implies, true_implies, implies_true, one0, m10, Nat.reduceAdd, Nat.reduceSub, Nat.reduceLeDiff, Nat.zero_add, Nat.add_zero, fn_X12_readCell])
    simp only [mset_get, Nat.reduceEqDiff, and_false, if_false, false_and]
    rw [show mset (mset (mset M1 158 4 (M1.1 158 9)) 158 5 (M1.1 158 10)) 158 6 (M1.1 158 12) = ceA M1 from rfl]
    generalize ceA M1 = M2 at *
    have L118 : ∀ M3, M3 = ceB M2 → G 118 [some (.inr (.inr (12, 158))), none] [] M3 := by
      rintro _ rfl
      unfold ceC at hQ
      (apply h118; simp only [BX12_cell_118, s_mth, s_mab, s_at, s_iconst, s_lconst, s_iload, s_lload, s_aload, s_istore, s_lstore, s_astore, s_iinc, s_bin, s_binG, s_un, s_lbin, s_lbinG, s_lsh, s_lcmp, s_i2l, s_l2i, s_dup, s_dup2, s_pop, s_if, s_icmp, s_geti, s_getl, s_getr, s_puti, s_putz, s_putl, s_iald, s_zald, s_iast, s_zast, s_aaldS, s_aaldU, s_gets, s_tald, s_tsw, tsw, s_iret, s_zret, s_lret, s_aret, s_vret, s_callV, s_callS, c1, nl1, keepL, csum, pushR, inL, List.getD_cons_zero, List.getD_cons_succ, List.set_cons_zero, List.set_cons_succ, List.cons_append, List.nil_append, List.append_nil, List.replicate, List.length_cons, List.length_nil, List.take_succ_cons, List.take_zero, List.drop_succ_cons, List.drop_zero, List.reverse_cons, List.reverse_nil, true_and, and_true, forall_const, not_true_eq_false, not_false_eq_true, false_implies, true_implies, implies_true, one0, m10, Nat.reduceAdd, Nat.reduceSub, Nat.reduceLeDiff, Nat.zero_add, Nat.add_zero, fn_X12_readCell])
      simp only [lM, z00]
      exact ⟨vp_in_nI (n := 0) (by decide) (by decide), vp_in_nI (n := 1) (by decide) (by decide), hQ⟩
    have loop3 : ∀ (n i : Nat) (M' : mM) (f : Nat → Int32), i + n = 52 → M'.1 164 = f → cpyM M' 165 f 0 n i = ceB M2 → G 94 [some (.inr (.inr (12, 158))), some (.inl (nI i))] [] M' := by
      intro n
      induction n with
      | zero =>
        intro i M' f hi hf hq
        obtain rfl : i = 52 := by omega
        (apply h94; simp only [BX12_cell_94, s_mth, s_mab, s_at, s_iconst, s_lconst, s_iload, s_lload, s_aload, s_istore, s_lstore, s_astore, s_iinc, s_bin, s_binG, s_un, s_lbin, s_lbinG, s_lsh, s_lcmp, s_i2l, s_l2i, s_dup, s_dup2, s_pop, s_if, s_icmp, s_geti, s_getl, s_getr, s_puti, s_putz, s_putl, s_iald, s_zald, s_iast, s_zast, s_aaldS, s_aaldU, s_gets, s_tald, s_tsw, tsw, s_iret, s_zret, s_lret, s_aret, s_vret, s_callV, s_callS, c1, nl1, keepL, csum, pushR, inL, List.getD_cons_zero, List.getD_cons_succ, List.set_cons_zero, List.set_cons_succ, List.cons_append, List.nil_append, List.append_nil, List.replicate, List.length_cons, List.length_nil, List.take_succ_cons, List.take_zero, List.drop_succ_cons, List.drop_zero, List.reverse_cons, List.reverse_nil, true_and, and_true, forall_const, not_true_eq_false, not_false_eq_true, false_implies, true_implies, implies_true, one0, m10, Nat.reduceAdd, Nat.reduceSub, Nat.reduceLeDiff, Nat.zero_add, Nat.add_zero, fn_X12_readCell])
        refine ⟨fun _ => L118 _ hq, fun h => absurd (by decide) h⟩
      | succ n ih =>
        intro i M' f hi hf hq
        have ei : (nI i).toNatClampNeg = i := nI_clamp (by omega)
        have hv : vp_in (nI i) 52 := vp_in_nI (by omega) (by decide)
        (apply h94; simp only [BX12_cell_94, s_mth, s_mab, s_at, s_iconst, s_lconst, s_iload, s_lload, s_aload, s_istore, s_lstore, s_astore, s_iinc, s_bin, s_binG, s_un, s_lbin, s_lbinG, s_lsh, s_lcmp, s_i2l, s_l2i, s_dup, s_dup2, s_pop, s_if, s_icmp, s_geti, s_getl, s_getr, s_puti, s_putz, s_putl, s_iald, s_zald, s_iast, s_zast, s_aaldS, s_aaldU, s_gets, s_tald, s_tsw, tsw, s_iret, s_zret, s_lret, s_aret, s_vret, s_callV, s_callS, c1, nl1, keepL, csum, pushR, inL, List.getD_cons_zero, List.getD_cons_succ, List.set_cons_zero, List.set_cons_succ, List.cons_append, List.nil_append, List.append_nil, List.replicate, List.length_cons, List.length_nil, List.take_succ_cons, List.take_zero, List.drop_succ_cons, List.drop_zero, List.reverse_cons, List.reverse_nil, true_and, and_true, forall_const, not_true_eq_false, not_false_eq_true, false_implies, true_implies, implies_true, one0, m10, Nat.reduceAdd, Nat.reduceSub, Nat.reduceLeDiff, Nat.zero_add, Nat.add_zero, fn_X12_readCell])
        simp only [lM, ei, hf]
        refine ⟨fun h => absurd h (nI_ge (b := 52) (by omega) (by decide)), fun _ => ⟨hv, hv, ?_⟩⟩
        rw [nI_1]
        refine ih (i + 1) _ f (by omega) (by rw [mset_n (by decide)]; exact hf) ?_
        rw [cpyM, Nat.zero_add] at hq; exact hq
    have loop2 : ∀ (n i : Nat) (M' : mM) (f : Nat → Int32), i + n = 5 → M'.1 163 = f → rset (cpyM M' 161 f 0 n i) 165 (cpyR ((cpyM M' 161 f 0 n i).1 165) ((cpyM M' 161 f 0 n i).1 164) 0 52 0) = ceB M2 → G 69 [some (.inr (.inr (12, 158))), some (.inl (nI i))] [] M' := by
      intro n
      induction n with
      | zero =>
        intro i M' f hi hf hq
        obtain rfl : i = 5 := by omega
        (apply h69; simp only [BX12_cell_69, s_mth, s_mab, s_at, s_iconst, s_lconst, s_iload, s_lload, s_aload, s_istore, s_lstore, s_astore, s_iinc, s_bin, s_binG, s_un, s_lbin, s_lbinG, s_lsh, s_lcmp, s_i2l, s_l2i, s_dup, s_dup2, s_pop, s_if, s_icmp, s_geti, s_getl, s_getr, s_puti, s_putz, s_putl, s_iald, s_zald, s_iast, s_zast, s_aaldS, s_aaldU, s_gets, s_tald, s_tsw, tsw, s_iret, s_zret, s_lret, s_aret, s_vret, s_callV, s_callS, c1, nl1, keepL, csum, pushR, inL, List.getD_cons_zero, List.getD_cons_succ, List.set_cons_zero, List.set_cons_succ, List.cons_append, List.nil_append, List.append_nil, List.replicate, List.length_cons, List.length_nil, List.take_succ_cons, List.take_zero, List.drop_succ_cons, List.drop_zero, List.reverse_cons, List.reverse_nil, true_and, and_true, forall_const, not_true_eq_false, not_false_eq_true, false_implies, true_implies, implies_true, one0, m10, Nat.reduceAdd, Nat.reduceSub, Nat.reduceLeDiff, Nat.zero_add, Nat.add_zero, fn_X12_readCell])
        refine ⟨fun _ => ?_, fun h => absurd (by decide) h⟩
        (apply h92; simp only [BX12_cell_92, s_mth, s_mab, s_at, s_iconst, s_lconst, s_iload, s_lload, s_aload, s_istore, s_lstore, s_astore, s_iinc, s_bin, s_binG, s_un, s_lbin, s_lbinG, s_lsh, s_lcmp, s_i2l, s_l2i, s_dup, s_dup2, s_pop, s_if, s_icmp, s_geti, s_getl, s_getr, s_puti, s_putz, s_putl, s_iald, s_zald, s_iast, s_zast, s_aaldS, s_aaldU, s_gets, s_tald, s_tsw, tsw, s_iret, s_zret, s_lret, s_aret, s_vret, s_callV, s_callS, c1, nl1, keepL, csum, pushR, inL, List.getD_cons_zero, List.getD_cons_succ, List.set_cons_zero, List.set_cons_succ, List.cons_append, List.nil_append, List.append_nil, List.replicate, List.length_cons, List.length_nil, List.take_succ_cons, List.take_zero, List.drop_succ_cons, List.drop_zero, List.reverse_cons, List.reverse_nil, true_and, and_true, forall_const, not_true_eq_false, not_false_eq_true, false_implies, true_implies, implies_true, one0, m10, Nat.reduceAdd, Nat.reduceSub, Nat.reduceLeDiff, Nat.zero_add, Nat.add_zero, fn_X12_readCell])
        exact loop3 52 0 M' _ rfl rfl (by rw [cpyM_e]; exact hq)
      | succ n ih =>
        intro i M' f hi hf hq
        have ei : (nI i).toNatClampNeg = i := nI_clamp (by omega)
        have hv : vp_in (nI i) 5 := vp_in_nI (by omega) (by decide)
        (apply h69; simp only [BX12_cell_69, s_mth, s_mab, s_at, s_iconst, s_lconst, s_iload, s_lload, s_aload, s_istore, s_lstore, s_astore, s_iinc, s_bin, s_binG, s_un, s_lbin, s_lbinG, s_lsh, s_lcmp, s_i2l, s_l2i, s_dup, s_dup2, s_pop, s_if, s_icmp, s_geti, s_getl, s_getr, s_puti, s_putz, s_putl, s_iald, s_zald, s_iast, s_zast, s_aaldS, s_aaldU, s_gets, s_tald, s_tsw, tsw, s_iret, s_zret, s_lret, s_aret, s_vret, s_callV, s_callS, c1, nl1, keepL, csum, pushR, inL, List.getD_cons_zero, List.getD_cons_succ, List.set_cons_zero, List.set_cons_succ, List.cons_append, List.nil_append, List.append_nil, List.replicate, List.length_cons, List.length_nil, List.take_succ_cons, List.take_zero, List.drop_succ_cons, List.drop_zero, List.reverse_cons, List.reverse_nil, true_and, and_true, forall_const, not_true_eq_false, not_false_eq_true, false_implies, true_implies, implies_true, one0, m10, Nat.reduceAdd, Nat.reduceSub, Nat.reduceLeDiff, Nat.zero_add, Nat.add_zero, fn_X12_readCell])
        simp only [lM, ei, hf]
        refine ⟨fun h => absurd h (nI_ge (b := 5) (by omega) (by decide)), fun _ => ⟨hv, hv, ?_⟩⟩
        rw [nI_1]
        refine ih (i + 1) _ f (by omega) (by rw [mset_n (by decide)]; exact hf) ?_
        rw [cpyM, Nat.zero_add] at hq; exact hq
    have loop1 : ∀ (n i : Nat) (M' : mM) (f : Nat → Int32), i + n = 30 → M'.1 162 = f → (∀ M3, M3 = cpyM M' 160 f 0 n i → rset (cpyM M3 161 (M3.1 163) 0 5 0) 165 (cpyR ((cpyM M3 161 (M3.1 163) 0 5 0).1 165) ((cpyM M3 161 (M3.1 163) 0 5 0).1 164) 0 52 0) = ceB M2) → G 43 [some (.inr (.inr (12, 158))), some (.inl (nI i))] [] M' := by
      intro n
      induction n with
      | zero =>
        intro i M' f hi hf hq
        obtain rfl : i = 30 := by omega
        (apply h43; simp only [BX12_cell_43, s_mth, s_mab, s_at, s_iconst, s_lconst, s_iload, s_lload, s_aload, s_istore, s_lstore, s_astore, s_iinc, s_bin, s_binG, s_un, s_lbin, s_lbinG, s_lsh, s_lcmp, s_i2l, s_l2i, s_dup, s_dup2, s_pop, s_if, s_icmp, s_geti, s_getl, s_getr, s_puti, s_putz, s_putl, s_iald, s_zald, s_iast, s_zast, s_aaldS, s_aaldU, s_gets, s_tald, s_tsw, tsw, s_iret, s_zret, s_lret, s_aret, s_vret, s_callV, s_callS, c1, nl1, keepL, csum, pushR, inL, List.getD_cons_zero, List.getD_cons_succ, List.set_cons_zero, List.set_cons_succ, List.cons_append, List.nil_append, List.append_nil, List.replicate, List.length_cons, List.length_nil, List.take_succ_cons, List.take_zero, List.drop_succ_cons, List.drop_zero, List.reverse_cons, List.reverse_nil, true_and, and_true, forall_const, not_true_eq_false, not_false_eq_true, false_implies, true_implies, implies_true, one0, m10, Nat.reduceAdd, Nat.reduceSub, Nat.reduceLeDiff, Nat.zero_add, Nat.add_zero, fn_X12_readCell])
        refine ⟨fun _ => ?_, fun h => absurd (by decide) h⟩
        (apply h67; simp only [BX12_cell_67, s_mth, s_mab, s_at, s_iconst, s_lconst, s_iload, s_lload, s_aload, s_istore, s_lstore, s_astore, s_iinc, s_bin, s_binG, s_un, s_lbin, s_lbinG, s_lsh, s_lcmp, s_i2l, s_l2i, s_dup, s_dup2, s_pop, s_if, s_icmp, s_geti, s_getl, s_getr, s_puti, s_putz, s_putl, s_iald, s_zald, s_iast, s_zast, s_aaldS, s_aaldU, s_gets, s_tald, s_tsw, tsw, s_iret, s_zret, s_lret, s_aret, s_vret, s_callV, s_callS, c1, nl1, keepL, csum, pushR, inL, List.getD_cons_zero, List.getD_cons_succ, List.set_cons_zero, List.set_cons_succ, List.cons_append, List.nil_append, List.append_nil, List.replicate, List.length_cons, List.length_nil, List.take_succ_cons, List.take_zero, List.drop_succ_cons, List.drop_zero, List.reverse_cons, List.reverse_nil, true_and, and_true, forall_const, not_true_eq_false, not_false_eq_true, false_implies, true_implies, implies_true, one0, m10, Nat.reduceAdd, Nat.reduceSub, Nat.reduceLeDiff, Nat.zero_add, Nat.add_zero, fn_X12_readCell])
        exact loop2 5 0 M' _ rfl rfl (hq M' rfl)
      | succ n ih =>
        intro i M' f hi hf hq
        have ei : (nI i).toNatClampNeg = i := nI_clamp (by omega)
        have hv : vp_in (nI i) 30 := vp_in_nI (by omega) (by decide)
        (apply h43; simp only [BX12_cell_43, s_mth, s_mab, s_at, s_iconst, s_lconst, s_iload, s_lload, s_aload, s_istore, s_lstore, s_astore, s_iinc, s_bin, s_binG, s_un, s_lbin, s_lbinG, s_lsh, s_lcmp, s_i2l, s_l2i, s_dup, s_dup2, s_pop, s_if, s_icmp, s_geti, s_getl, s_getr, s_puti, s_putz, s_putl, s_iald, s_zald, s_iast, s_zast, s_aaldS, s_aaldU, s_gets, s_tald, s_tsw, tsw, s_iret, s_zret, s_lret, s_aret, s_vret, s_callV, s_callS, c1, nl1, keepL, csum, pushR, inL, List.getD_cons_zero, List.getD_cons_succ, List.set_cons_zero, List.set_cons_succ, List.cons_append, List.nil_append, List.append_nil, List.replicate, List.length_cons, List.length_nil, List.take_succ_cons, List.take_zero, List.drop_succ_cons, List.drop_zero, List.reverse_cons, List.reverse_nil, true_and, and_true, forall_const, not_true_eq_false, not_false_eq_true, false_implies, true_implies, implies_true, one0, m10, Nat.reduceAdd, Nat.reduceSub, Nat.reduceLeDiff, Nat.zero_add, Nat.add_zero, fn_X12_readCell])
        simp only [lM, ei, hf]
        refine ⟨fun h => absurd h (nI_ge (b := 30) (by omega) (by decide)), fun _ => ⟨hv, hv, ?_⟩⟩
        rw [nI_1]
        refine ih (i + 1) _ f (by omega) (by rw [mset_n (by decide)]; exact hf) ?_
        rw [cpyM, Nat.zero_add] at hq; exact hq
    refine loop1 30 0 M2 _ rfl rfl ?_
    rintro _ rfl
    rw [cpyM_e, cpyM_e]
    unfold ceB
    rw [rset_n (show (161 : Nat) ≠ 160 by decide), rset_n (show (163 : Nat) ≠ 160 by decide), rset_n (show (165 : Nat) ≠ 161 by decide), rset_n (show (165 : Nat) ≠ 160 by decide), rset_n (show (164 : Nat) ≠ 161 by decide), rset_n (show (164 : Nat) ≠ 160 by decide)]
  · rw [if_neg h] at hQ; exact hQ
theorem ct_X12_cell (l : Launch) : Con l yX12_cell cX12_cell 2 (Option.some FieldType.int) 4 pre_X12_cell fn_X12_cell := con_of (by decide +kernel) ok_X12_cell len_X12_cell (fun p e s m args below meth c D ca ad A as M hX hr hp ho => pf_X12_cell _ _ (bsX12_cell_0 hX hr) (bsX12_cell_17 hX hr) (bsX12_cell_43 hX hr) (bsX12_cell_67 hX hr) (bsX12_cell_69 hX hr) (bsX12_cell_92 hX hr) (bsX12_cell_94 hX hr) (bsX12_cell_118 hX hr) as M ho hp ⟨rfl, rfl⟩)
