/-! acts: class and model -/
def CFl (C C' : mM) : Prop := (∀ a, a = 1 ∨ a = 2 ∨ (4 ≤ a ∧ a < 7) ∨ (26 ≤ a ∧ a < 144) ∨ (151 ≤ a ∧ a < 157) → C'.1 a = C.1 a) ∧ C'.2 0 = C.2 0
def DFl (D D' : mM) : Prop := (∀ j, j = 2 ∨ j = 4 ∨ j = 5 ∨ j = 6 ∨ j = 20 ∨ j = 23 → D'.1 158 j = D.1 158 j) ∧ (∀ a, a = 159 ∨ a = 160 ∨ a = 161 ∨ (168 ≤ a ∧ a ≤ 175) → D'.1 a = D.1 a) ∧ D'.2 158 = D.2 158
theorem R2_live {n B c c' : Nat} {C C' D D' : mM} (h : R2 n B c C D) (hc : c ≤ c') (hC : CFl C C') (hD : DFl D D') (hV : PVc C' 7 n (D'.1 165) c') : R2 n B c' C' D' := by
  have h := R2_le h hc
  obtain ⟨⟨h1, -⟩, ⟨t, t1, t2, t3, t4⟩, ⟨f, z, a1, a2, a3, a4, a5, a6⟩, h5, ⟨z', z1, z2, z3, z4⟩, h7⟩ := h
  obtain ⟨e1, e2, e3⟩ := hD
  obtain ⟨d1, d2⟩ := hC
  have hn := h1.1.1
  refine ⟨⟨PLR_c h1 (d1 _ (by omega)) (d1 _ (by omega)) (d1 _ (by omega)) (e1 _ (by omega)) (e1 _ (by omega)) (e1 _ (by omega)) (e2 _ (by omega)) (e2 _ (by omega)), hV⟩, ⟨t, t1, ?_, ?_, fun i hi => ?_⟩, ⟨f, z, a1, a2, ?_, ?_, ?_, fun i hi => ?_⟩, fun s hs => ?_, ⟨z', z1, ?_, ?_, fun i hi => ?_⟩, ?_⟩
  · rw [d1 1 (by omega)]; exact t2
  · rw [e1 2 (by omega)]; exact t3
  · rw [d1 2 (by omega), e2 159 (by omega)]; exact t4 i hi
  · rw [d1 26 (by omega)]; exact a3
  · rw [d1 26 (by omega)]; exact a4
  · rw [e1 20 (by omega)]; exact a5
  · have := Nat.mod_lt (f + i) (show 0 < 14 by decide)
    rw [e2 168 (by omega)]
    exact PVc_n hn (a6 i hi) (fun a g1 g2 => d1 a (by omega))
  · rw [d1 141 (by omega), e2 170 (by omega), e2 169 (by omega)]
    rcases h5 s hs with g | ⟨g1, g2, g3⟩
    · exact Or.inl g
    · exact Or.inr ⟨g1, g2, PVc_n hn g3 (fun a k1 k2 => d1 a (by omega))⟩
  · rw [d1 151 (by omega)]; exact z2
  · rw [e1 23 (by omega)]; exact z3
  · rw [d1 152 (by omega), d1 153 (by omega), d1 154 (by omega), d1 155 (by omega), d1 156 (by omega), e2 171 (by omega), e2 172 (by omega), e2 173 (by omega), e2 174 (by omega), e2 175 (by omega)]; exact z4 i hi
  · rw [d2, e3]; exact h7
theorem k10_lt {a : Nat} (h : kof a = 10) : a < 158 := by
  have g : ∀ k, k < 178 → kof k = 10 → k < 158 := by decide +kernel
  exact g a (kof_lt (by omega)) h
theorem remA_f {M : mM} {a : Nat} (h : a ≠ 26) : (remA M).1 a = M.1 a := by
  unfold remA
  split
  · rw [mset_n h, mset_n h]
  · rfl
theorem rem_f {M : mM} (hA : AC M) : (∀ a, a < 26 ∨ 126 ≤ a → (rem M).1 a = M.1 a) ∧ (rem M).2 = M.2 := by
  obtain ⟨j, hj, ej, -⟩ := remK hA
  refine ⟨fun a ha' => ?_, ?_⟩
  · unfold rem remC remB
    rw [mset_n (by omega), ej, f_stc (by unfold fr; omega), remA_f (by omega)]
  · unfold rem remC remB
    rw [mset_2a, stc_2]
    unfold remA
    split <;> rfl
theorem CL_rem {M : mM} (h : CL M) (hG : GD M) (hA : AC M) : CL (rem M) := ⟨(GD_rem hG hA).1, by rw [(rem_f hA).1 6 (by omega)]; exact h.2⟩
theorem rem_eq {n B c : Nat} {C D : mM} (h : R2 n B c C D) : R2 n B c (rem C) (nt D) := by
  obtain ⟨⟨h1, h2⟩, ⟨t, t1, t2, t3, t4⟩, ⟨f, z, a1, a2, a3, a4, a5, a6⟩, h5, ⟨z', z1, z2, z3, z4⟩, h7⟩ := h
  have hAC : AC C := ⟨f, z, a1, a2, a3, a4⟩
  obtain ⟨d1, d2⟩ := rem_f hAC
  have hn := h1.1.1
  have e1 : ∀ j, j ≠ 20 → (nt D).1 158 j = D.1 158 j := fun j hj => nt_158 hj
  have e2 : ∀ a, a ≠ 158 → a ≠ 168 → (nt D).1 a = D.1 a := fun a q1 q2 => nt_n q1 q2
  have hmid : ∃ f' z', f' < 14 ∧ z' ≤ 13 ∧ (remA C).1 26 1 = nI f' ∧ (remA C).1 26 2 = nI z' ∧ (ntA D).1 158 20 = nI z' ∧ (ntA D).1 165 = D.1 165 ∧ ∀ i, i < z' → PVc (remA C) (28 + 7 * ((f' + i) % 14)) n (fun j => (ntA D).1 168 (52 * i + j)) c := by
    by_cases g : z = 14
    · subst g
      have g1 : C.1 26 2 = 14 := a4
      have g2 : D.1 158 20 = 14 := a5
      have ec : remA C = mset (mset C 26 1 (nI ((f + 1) % 14))) 26 2 (nI 13) := by
        unfold remA
        rw [if_pos g1, a3, nI_1, rm14 (by omega), g1]
        rfl
      have ed : ntA D = mset (rset D 168 (cpyR (D.1 168) (fun k => D.1 168 (k + 52)) 0 676 0)) 158 20 (nI 13) := by
        unfold ntA
        rw [if_pos g2, g2]
        rfl
      refine ⟨(f + 1) % 14, 13, Nat.mod_lt _ (by decide), by omega, ?_, ?_, ?_, ?_, fun i hi => ?_⟩
      · rw [ec, mset_o (by decide), mset_s]
      · rw [ec, mset_s]
      · rw [ed, mset_s]
      · rw [ed, mset_n (by decide), rset_n (by decide)]
      · have q := a6 (i + 1) (by omega)
        rw [show ((f + 1) % 14 + i) % 14 = (f + (i + 1)) % 14 by omega]
        have hb := Nat.mod_lt (f + (i + 1)) (show 0 < 14 by decide)
        have eg : ∀ j, j < 52 → (ntA D).1 168 (52 * i + j) = D.1 168 (52 * (i + 1) + j) := by
          intro j hj
          rw [ed, mset_n (by decide), rset_1, cpyR_get, if_pos (by omega), Nat.sub_zero]
          show D.1 168 (52 * i + j + 52) = D.1 168 (52 * (i + 1) + j)
          rw [show 52 * i + j + 52 = 52 * (i + 1) + j by omega]
        refine ⟨PV_n hn q.1 (fun a k1 k2 => remA_f (by omega)) eg, ?_⟩
        obtain ⟨b, b1, b2⟩ := q.2
        exact ⟨b, b1, (eg 51 (by decide)).trans b2⟩
    · have g1 : ¬ C.1 26 2 = 14 := by rw [a4]; exact fun q => g ((nI_eq (b := 14) (by omega) (by decide)).mp q)
      have g2 : ¬ D.1 158 20 = 14 := by rw [a5]; exact fun q => g ((nI_eq (b := 14) (by omega) (by decide)).mp q)
      have ec : remA C = C := by unfold remA; rw [if_neg g1]
      have ed : ntA D = D := by unfold ntA; rw [if_neg g2]
      rw [ec, ed]
      exact ⟨f, z, a1, by omega, a3, a4, a5, rfl, a6⟩
  obtain ⟨f', y, b1, b2, b3, b4, b5, b6, b7⟩ := hmid
  have hp := Nat.mod_lt (f' + y) (show 0 < 14 by decide)
  have ek : (rm ((remA C).1 26 1 + (remA C).1 26 2) 14).toNatClampNeg = (f' + y) % 14 := by rw [b3, b4, nI_add, rm14 (by omega), nI_clamp (by omega)]
  have eN : ntD (ntA D) = y := by unfold ntD; rw [b5, nI_clamp (by omega)]
  have er : rem C = mset (stc (remA C) (28 + 7 * ((f' + y) % 14)) 7) 26 2 (nI (y + 1)) := by
    unfold rem remC remB
    rw [ek, f_stc (by unfold fr; omega), b4, nI_1]
  have en : nt D = mset (rset (ntA D) 168 (cpyR ((ntA D).1 168) ((ntA D).1 165) (52 * y) 52 0)) 158 20 (nI (y + 1)) := by
    unfold nt ntC ntB
    rw [eN, b5, nI_1]
  refine ⟨⟨PLR_c h1 (d1 _ (by omega)) (d1 _ (by omega)) (d1 _ (by omega)) (e1 _ (by decide)) (e1 _ (by decide)) (e1 _ (by decide)) (e2 _ (by decide) (by decide)) (e2 _ (by decide) (by decide)), ?_⟩, ⟨t, t1, ?_, ?_, fun i hi => ?_⟩, ⟨f', y + 1, b1, by omega, ?_, ?_, ?_, fun i hi => ?_⟩, fun s hs => ?_, ⟨z', z1, ?_, ?_, fun i hi => ?_⟩, ?_⟩
  · rw [e2 165 (by decide) (by decide)]
    exact PVc_n hn h2 (fun a g1 g2 => d1 a (by omega))
  · rw [d1 1 (by omega)]; exact t2
  · rw [e1 2 (by decide)]; exact t3
  · rw [d1 2 (by omega), e2 159 (by decide) (by decide)]; exact t4 i hi
  · rw [er, mset_o (by decide), f_stc (by unfold fr; omega)]; exact b3
  · rw [er, mset_s]
  · rw [en, mset_s]
  · by_cases e : i = y
    · subst e
      have eg : ∀ j, j < 52 → (nt D).1 168 (52 * i + j) = D.1 165 j := by
        intro j hj
        rw [en, mset_n (by decide), rset_1, cpyR_get, if_pos (by omega), b6, Nat.add_sub_cancel_left]
      have hV := PV_stc (C := remA C) (k := 28 + 7 * ((f' + i) % 14)) (o := 7) hn (by omega) (PV_n hn h2.1 (fun a k1 k2 => remA_f (M := C) (by omega)) (fun _ _ => rfl))
      refine ⟨PV_n hn hV (fun a k1 k2 => ?_) eg, ?_⟩
      · rw [er, mset_n (by omega)]
      · obtain ⟨b, q1, q2⟩ := h2.2
        exact ⟨b, q1, (eg 51 (by decide)).trans q2⟩
    · have q := b7 i (by omega)
      have hi' := Nat.mod_lt (f' + i) (show 0 < 14 by decide)
      have hne : (f' + i) % 14 ≠ (f' + y) % 14 := by omega
      have eg : ∀ j, j < 52 → (nt D).1 168 (52 * i + j) = (ntA D).1 168 (52 * i + j) := by
        intro j hj
        rw [en, mset_n (by decide), rset_1, cpyR_get, if_neg (by omega)]
      refine ⟨PV_n hn q.1 (fun a k1 k2 => ?_) eg, ?_⟩
      · rw [er, mset_n (by omega), f_stc (by unfold fr; omega)]
      · obtain ⟨b, q1, q2⟩ := q.2
        exact ⟨b, q1, (eg 51 (by decide)).trans q2⟩
  · rw [d1 141 (by omega), e2 170 (by decide) (by decide), e2 169 (by decide) (by decide)]
    rcases h5 s hs with g | ⟨g1, g2, g3⟩
    · exact Or.inl g
    · exact Or.inr ⟨g1, g2, PVc_n hn g3 (fun a k1 k2 => d1 a (by omega))⟩
  · rw [d1 151 (by omega)]; exact z2
  · rw [e1 23 (by decide)]; exact z3
  · rw [d1 152 (by omega), d1 153 (by omega), d1 154 (by omega), d1 155 (by omega), d1 156 (by omega), e2 171 (by decide) (by decide), e2 172 (by decide) (by decide), e2 173 (by decide) (by decide), e2 174 (by decide) (by decide), e2 175 (by decide) (by decide)]; exact z4 i hi
  · rw [d2, nt_2]; exact h7
theorem FL_t {D D' D'' : mM} (h : FL D D') (h' : FL D' D'') : FL D D'' := ⟨fun a ha' => (h'.1 a ha').trans (h.1 a ha'), h'.2.trans h.2⟩
theorem FH_t {D D' D'' : mM} (h : FH D D') (h' : FH D' D'') : FH D D'' := ⟨fun a ha' => (h'.1 a ha').trans (h.1 a ha'), h'.2.trans h.2⟩
theorem FL_0 {D : mM} : FL D (m0 D) := ⟨fun a ha' => mset_n (by omega), rfl⟩
theorem FL_nt {D : mM} : FL D (nt D) := ⟨fun a ha' => nt_n (by omega) (by omega), by rw [nt_2]⟩
theorem FH_rem {C : mM} (hA : AC C) : FH C (rem C) := ⟨fun a ha' => (rem_f hA).1 a (by omega), by rw [(rem_f hA).2]⟩
/-- one user's figure of the live standing changed -/
theorem live_u {n B c j f : Nat} {v : Int32} {C D : mM} (hj : j < 5) (hf : f < 10) (hv : VF f v) (h : R2 n B c C D) : R2 n B c (mset C (9 + j) f v) (mset D 165 (10 * j + f) v) := by
  refine R2_live h (Nat.le_refl _) ⟨fun a ha' => mset_n (by omega), rfl⟩ ⟨fun _ _ => by rw [mset_n (by decide)], fun a ha' => mset_n (by omega), rfl⟩ ⟨?_, ?_⟩
  · rw [mset_1, show 9 + j = 7 + 1 + 1 + j by omega]
    exact PV_up h.1.2.1 hj hf hv
  · obtain ⟨a, a1, a2⟩ := h.1.2.2
    exact ⟨a, a1, by rw [mset_o (by omega)]; exact a2⟩
theorem CL_u {C : mM} {j f : Nat} {v : Int32} (hj : j < 5) (hv : f ≠ 3 ∨ v = 0 ∨ v = 1) (hG : GD C) (h : CL C) : CL (mset C (9 + j) f v) := by
  have := GD_u (k := 7) (j := j) (s := f) (v := v) k7 hj hG hv
  rw [show 7 + 1 + 1 + j = 9 + j by omega] at this
  exact ⟨this.1, by rw [mset_n (by omega)]; exact h.2⟩
theorem RR_AC {c : Nat} {C D : mM} (h : RR c C D) : AC C := (RR_CI h).2.2
theorem op_turn {c : Nat} {C D : mM} {u : Int32} (hc : c + 1000 < 2 ^ 30) (h : RR c C D) : OPS (c_turn C u).1 (m_turn (m0 D) u).1 c C (c_turn C u).2 D (m_turn (m0 D) u).2 := by
  have hG := RR_GD h
  have hA := RR_AC h
  have hz : ∀ v : Int32, OPS v v c C C D (m0 D) := fun v => ask_fin h rfl (AQ_r hG) AM_r
  obtain ⟨hCL, n, B, h2⟩ := h
  have h2' := R2_DF h2 DF_0
  have hP := h2'.1.1
  have hn := hP.1.1
  unfold c_turn m_turn
  rcases has_nu (u := u) hP with ⟨g1, g2, j, hj, rfl⟩ | ⟨g1, g2⟩
  · rw [if_neg g1, if_pos g2, nI_clamp (by omega : j < 2 ^ 31)]
    have h3 := rem_eq h2'
    have hV := h3.1.2.1
    have e : (rem C).1 (9 + j) 3 = (nt (m0 D)).1 165 (10 * j + 3) := by
      rw [show 9 + j = 7 + 1 + 1 + j by omega]
      exact PV_e hV hj (by decide)
    have hv : (if (rem C).1 (9 + j) 3 = 0 then (1 : Int32) else 0) = 1 - (nt (m0 D)).1 165 (10 * j + 3) ∧ VF 3 (1 - (nt (m0 D)).1 165 (10 * j + 3)) ∧ (if 1 - (nt (m0 D)).1 165 (10 * j + 3) = 0 then (0 : Int32) else 1) = 1 - (nt (m0 D)).1 165 (10 * j + 3) := by
      rw [e]
      rcases VF3.mp (PV_v hV hj (by decide)) with q | q
      · rw [q]; exact ⟨rfl, VF3.mpr (Or.inr rfl), by decide⟩
      · rw [q]; exact ⟨rfl, VF3.mpr (Or.inl rfl), by decide⟩
    unfold tur
    rw [hv.1, mset_s, hv.2.2]
    refine ⟨rfl, RR_le (c := c) ⟨CL_u (by omega) (Or.inr (VF3.mp hv.2.1)) (GD_rem hG hA) (CL_rem hCL hG hA), n, B, live_u (by omega) (by decide) hv.2.1 h3⟩ (by omega), FH_t (FH_rem hA) ⟨fun a ha' => mset_n (by omega), rfl⟩, FL_t FL_0 (FL_t FL_nt ⟨fun a ha' => mset_n (by omega), rfl⟩)⟩
  · rw [if_pos g1, if_neg g2]; exact hz _
theorem op_drop {c : Nat} {C D : mM} {u : Int32} (hc : c + 1000 < 2 ^ 30) (h : RR c C D) : OPS (c_drop C u).1 (m_drop (m0 D) u).1 c C (c_drop C u).2 D (m_drop (m0 D) u).2 := by
  have hG := RR_GD h
  have hA := RR_AC h
  have hz : ∀ v : Int32, OPS v v c C C D (m0 D) := fun v => ask_fin h rfl (AQ_r hG) AM_r
  obtain ⟨hCL, n, B, h2⟩ := h
  have h2' := R2_DF h2 DF_0
  have hP := h2'.1.1
  have hn := hP.1.1
  unfold c_drop m_drop
  rcases has_nu (u := u) hP with ⟨g1, g2, j, hj, rfl⟩ | ⟨g1, g2⟩
  · rw [if_neg g1, if_pos g2, nI_clamp (by omega : j < 2 ^ 31)]
    have h3 := rem_eq h2'
    have hV := h3.1.2.1
    have e4 : (rem C).1 (9 + j) 4 = (nt (m0 D)).1 165 (10 * j + 4) := by
      rw [show 9 + j = 7 + 1 + 1 + j by omega]
      exact PV_e hV hj (by decide)
    have e5 : (rem C).1 (9 + j) 5 = (nt (m0 D)).1 165 (10 * j + 5) := by
      rw [show 9 + j = 7 + 1 + 1 + j by omega]
      exact PV_e hV hj (by decide)
    rw [e4, e5]
    have h4 := live_u (v := 0) (show j < 5 by omega) (show 4 < 10 by decide) (VF4.mpr ⟨0, by omega, rfl⟩) h3
    have h5 := live_u (v := 0) (show j < 5 by omega) (show 5 < 10 by decide) (VF5.mpr ⟨0, by omega, rfl⟩) h4
    have g4 := CL_u (j := j) (f := 4) (v := 0) (by omega) (Or.inl (by decide)) (GD_rem hG hA) (CL_rem hCL hG hA)
    have hGm : GD (mset (rem C) (9 + j) 4 0) := by
      have := GD_u (k := 7) (j := j) (s := 4) (v := 0) k7 (by omega) (GD_rem hG hA) (Or.inl (by decide))
      rw [show 7 + 1 + 1 + j = 9 + j by omega] at this
      exact this
    have g5 := CL_u (j := j) (f := 5) (v := 0) (by omega) (Or.inl (by decide)) hGm g4
    exact ⟨rfl, RR_le (c := c) ⟨g5, n, B, h5⟩ (by omega), FH_t (FH_rem hA) ⟨fun a ha' => by rw [mset_n (by omega), mset_n (by omega)], rfl⟩, FL_t FL_0 (FL_t FL_nt ⟨fun a ha' => by rw [mset_n (by omega), mset_n (by omega)], rfl⟩)⟩
  · rw [if_pos g1, if_neg g2]; exact hz _
theorem op_set {c : Nat} {C D : mM} {u w v : Int32} (hc : c + 1000 < 2 ^ 30) (h : RR c C D) : OPS (c_set C u w v).1 (m_set (m0 D) u w v).1 c C (c_set C u w v).2 D (m_set (m0 D) u w v).2 := by
  have hG := RR_GD h
  have hA := RR_AC h
  have hz : ∀ v : Int32, OPS v v c C C D (m0 D) := fun v => ask_fin h rfl (AQ_r hG) AM_r
  obtain ⟨hCL, n, B, h2⟩ := h
  have h2' := R2_DF h2 DF_0
  have hP := h2'.1.1
  have hn := hP.1.1
  unfold c_set m_set
  rcases has_nu (u := u) hP with ⟨g1, g2, j, hj, rfl⟩ | ⟨g1, g2⟩
  · rw [if_neg g1, if_pos g2, nI_clamp (by omega : j < 2 ^ 31)]
    by_cases k1 : wi w 0 2 = 0
    · rw [if_pos k1, if_pos k1]; exact hz _
    · rw [if_neg k1, if_neg k1]
      obtain ⟨W, -, hW, rfl⟩ := wi_g (d := 0) (c := 2) rfl rfl (by decide) (by decide) k1
      by_cases k2 : wi v (if nI W = 1 then 1 else 0) 9 = 0
      · rw [if_pos k2, if_pos k2]; exact hz _
      · rw [if_neg k2, if_neg k2, nI_clamp (by omega : W < 2 ^ 31)]
        have h3 := rem_eq h2'
        have hV := h3.1.2.1
        have step : ∀ f, f < 3 → VF f v → OPS ((rem C).1 (9 + j) f) ((nt (m0 D)).1 165 (10 * j + f)) c C (mset (rem C) (9 + j) f v) D (mset (nt (m0 D)) 165 (10 * j + f) v) := by
          intro f hf hv
          refine ⟨?_, RR_le (c := c) ⟨CL_u (by omega) (Or.inl (by omega)) (GD_rem hG hA) (CL_rem hCL hG hA), n, B, live_u (by omega) (by omega) hv h3⟩ (by omega), FH_t (FH_rem hA) ⟨fun a ha' => mset_n (by omega), rfl⟩, FL_t FL_0 (FL_t FL_nt ⟨fun a ha' => mset_n (by omega), rfl⟩)⟩
          rw [show 9 + j = 7 + 1 + 1 + j by omega]
          exact PV_e hV hj (by omega)
        unfold chg
        have : W = 0 ∨ W = 1 ∨ W = 2 := by omega
        rcases this with rfl | rfl | rfl
        · rw [if_pos nI_0]
          refine step 0 (by decide) (VF0.mpr ?_)
          obtain ⟨x, -, x1, x2⟩ := wi_g (d := 0) (c := 9) rfl rfl (by decide) (by decide) k2
          exact ⟨x, x1, x2⟩
        · rw [if_neg (by decide), if_pos (by decide)]
          refine step 1 (by decide) (VF1.mpr ?_)
          obtain ⟨x, x0, x1, x2⟩ := wi_g (d := 1) (c := 9) rfl rfl (by decide) (by decide) k2
          exact ⟨x, x0, x1, x2⟩
        · rw [if_neg (by decide), if_neg (by decide)]
          exact step 2 (by decide) VF2
  · rw [if_pos g1, if_neg g2]; exact hz _
theorem op_patience {c : Nat} {C D : mM} {v : Int32} (hc : c + 1000 < 2 ^ 30) (h : RR c C D) : OPS (c_patience C v).1 (m_patience (m0 D) v).1 c C (c_patience C v).2 D (m_patience (m0 D) v).2 := by
  have hG := RR_GD h
  have hA := RR_AC h
  have hz : ∀ v : Int32, OPS v v c C C D (m0 D) := fun v => ask_fin h rfl (AQ_r hG) AM_r
  obtain ⟨hCL, n, B, h2⟩ := h
  have h2' := R2_DF h2 DF_0
  have hn := h2'.1.1.1.1
  unfold c_patience m_patience
  by_cases k1 : wi v 0 9 = 0
  · rw [if_pos k1, if_pos k1]; exact hz _
  · rw [if_neg k1, if_neg k1]
    have h3 := rem_eq h2'
    have hV := h3.1.2.1
    have hCL' := CL_rem hCL hG hA
    refine ⟨hV.2.1, RR_le (c := c) ⟨⟨OF_mset hCL'.1 (by decide +kernel), by rw [mset_n (by decide)]; exact hCL'.2⟩, n, B, ?_⟩ (by omega), FH_t (FH_rem hA) ⟨fun a ha' => mset_n (by omega), rfl⟩, FL_t FL_0 (FL_t FL_nt ⟨fun a ha' => mset_n (by omega), rfl⟩)⟩
    refine R2_live h3 (Nat.le_refl _) ⟨fun a ha' => mset_n (by omega), rfl⟩ ⟨fun _ _ => by rw [mset_n (by decide)], fun a ha' => mset_n (by omega), rfl⟩ ⟨⟨fun u hu f hf => ?_, ?_, ?_⟩, ?_⟩
    · show (mset (rem C) 7 1 v).1 (7 + 1 + 1 + u) f = (mset (nt (m0 D)) 165 50 v).1 165 (10 * u + f) ∧ VF f ((mset (nt (m0 D)) 165 50 v).1 165 (10 * u + f))
      rw [mset_n (by omega), mset_o (by omega)]
      exact hV.1 u hu f hf
    · show (mset (rem C) 7 1 v).1 7 1 = (mset (nt (m0 D)) 165 50 v).1 165 50
      rw [mset_s, mset_s]
    · show (mset (rem C) 7 1 v).1 7 2 = (mset (nt (m0 D)) 165 50 v).1 165 51
      rw [mset_o (by decide), mset_o (by decide)]
      exact hV.2.2
    · obtain ⟨a, a1, a2⟩ := h3.1.2.2
      exact ⟨a, a1, by show (mset (nt (m0 D)) 165 50 v).1 165 51 = nI a; rw [mset_o (by decide)]; exact a2⟩
/-! slots -/
def LW (n B c : Nat) (C0 D0 C D : mM) : Prop := ((∀ a, a < 7 ∨ a = 8 ∨ (14 ≤ a ∧ a < 22) ∨ 26 ≤ a → C.1 a = C0.1 a) ∧ C.2 = C0.2 ∧ GD C) ∧ ((∀ a, a ≠ 165 → a ≠ 176 → a ≠ 177 → D.1 a = D0.1 a) ∧ D.2 = D0.2) ∧ PLR n B C D ∧ PVc C 7 n (D.1 165) c
theorem LW_runs {n B : Nat} {C0 D0 : mM} : ∀ (m i c t : Nat) (C D : mM), c + m < 2 ^ 30 → LW n B c C0 D0 C D → (∃ T, (itr (ruS 7) i m (nI t, C)).1 = nI T ∧ (itr (soS 165) i m (nI t, D)).1 = nI T) ∧ LW n B (c + m) C0 D0 (itr (ruS 7) i m (nI t, C)).2 (itr (soS 165) i m (nI t, D)).2
  | 0, i, c, t, C, D, hc, h => ⟨⟨t, rfl, rfl⟩, h⟩
  | m + 1, i, c, t, C, D, hc, h => by
    obtain ⟨⟨l1, l2, l3⟩, ⟨l4, l5⟩, l6, l7, a, ha', ea⟩ := h
    obtain ⟨⟨T, -, e1, e2⟩, s2, s3, s4, -⟩ := slot_eq (f := 0) k7 (show 165 ≤ 165 ∧ 165 ≤ 167 by decide) (show a < 2 ^ 30 by omega) l6 l7 ea
    have hQ : PQ D 165 := ⟨PLR_PM l6, by decide, a, by omega, ea⟩
    have hsm := SM_so (f := 0) hQ
    have h2 : LW n B (c + 1) C0 D0 (ro C 7 0).2 (so D 165 0).2 := by
      refine ⟨⟨fun x hx => ?_, ro_2.trans l2, GD_ro k7 l3⟩, ⟨fun x q1 q2 q3 => (hsm.1 x q1 q2 q3).trans (l4 x q1 q2 q3), hsm.2.2.2.trans l5⟩, s2, s3, a + 1, by omega, s4⟩
      rw [f_ro k7 l3.2 (by unfold fr; omega) (by unfold sc; omega)]
      exact l1 x hx
    have := LW_runs m (i + 1) (c + 1) (t + T) (ro C 7 0).2 (so D 165 0).2 (by omega) h2
    rw [show c + 1 + m = c + (m + 1) by omega] at this
    have g1 : itr (ruS 7) i (m + 1) (nI t, C) = itr (ruS 7) (i + 1) m (nI (t + T), (ro C 7 0).2) := by
      rw [itr]
      unfold ruS
      simp only
      rw [e1, nI_add]
    have g2 : itr (soS 165) i (m + 1) (nI t, D) = itr (soS 165) (i + 1) m (nI (t + T), (so D 165 0).2) := by
      rw [itr]
      unfold soS
      simp only
      rw [e2, nI_add]
    rw [g1, g2]
    exact this
theorem op_slot {c : Nat} {C D : mM} {x : Int32} (hc : c + 1000 < 2 ^ 30) (h : RR c C D) : OPS (c_slot C x).1 (m_slot (m0 D) x).1 c C (c_slot C x).2 D (m_slot (m0 D) x).2 := by
  have hG := RR_GD h
  have hA := RR_AC h
  have hz : ∀ v : Int32, OPS v v c C C D (m0 D) := fun v => ask_fin h rfl (AQ_r hG) AM_r
  obtain ⟨hCL, n, B, h2⟩ := h
  have h2' := R2_DF h2 DF_0
  unfold c_slot m_slot
  by_cases k1 : wi x 1 99 = 0
  · rw [if_pos k1, if_pos k1]; exact hz _
  · rw [if_neg k1, if_neg k1]
    obtain ⟨N, -, hN, rfl⟩ := wi_g (d := 1) (c := 99) rfl rfl (by decide) (by decide) k1
    rw [nI_clamp (by omega : N < 2 ^ 31)]
    have h3 := rem_eq h2'
    have hCL' := CL_rem hCL hG hA
    obtain ⟨⟨T, e1, e2⟩, ⟨l1, l2, l3⟩, ⟨l4, l5⟩, l6, l7⟩ := LW_runs N 0 c 0 (rem C) (nt (m0 D)) (by omega) ⟨⟨fun _ _ => rfl, rfl, GD_rem hG hA⟩, ⟨fun _ _ _ _ => rfl, rfl⟩, h3.1.1, h3.1.2⟩
    unfold ru sos
    refine ⟨e1.trans e2.symm, RR_le (c := c + N) ⟨⟨l3.1, ?_⟩, n, B, ?_⟩ (by omega), FH_t (FH_rem hA) ⟨fun a ha' => l1 a (by omega), congrFun l2 158⟩, FL_t FL_0 (FL_t FL_nt ⟨fun a ha' => l4 a (by omega) (by omega) (by omega), congrFun l5 0⟩)⟩
    · rw [show (itr (ruS 7) 0 N (0, rem C)).2.1 6 = (rem C).1 6 from l1 6 (by omega)]
      exact hCL'.2
    · exact R2_live h3 (by omega) ⟨fun a ha' => l1 a (by omega), congrFun l2 0⟩ ⟨fun j _ => congrFun (l4 158 (by decide) (by decide) (by decide)) j, fun a ha' => l4 a (by omega) (by omega) (by omega), congrFun l5 158⟩ l7
