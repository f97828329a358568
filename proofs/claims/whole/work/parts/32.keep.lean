/-! undone, kept, written, seen, counted -/
theorem op_undo {c : Nat} {C D : mM} (hc : c + 1000 < 2 ^ 30) (h : RR c C D) : OPS (c_undo C).1 (m_undo (m0 D)).1 c C (c_undo C).2 D (m_undo (m0 D)).2 := by
  have hG := RR_GD h
  have hz : ∀ v : Int32, OPS v v c C C D (m0 D) := fun v => ask_fin h rfl (AQ_r hG) AM_r
  obtain ⟨hCL, n, B, h2⟩ := h
  have h2' := R2_DF h2 DF_0
  have hF0 : FL D (m0 D) := FL_0
  generalize m0 D = D0 at *
  unfold c_undo m_undo
  obtain ⟨⟨h1, h2p⟩, ⟨t, t1, t2, t3, t4⟩, ⟨f, z, a1, a2, a3, a4, a5, a6⟩, h5, ⟨z', z1, z2, z3, z4⟩, h7⟩ := h2'
  have hn := h1.1.1
  rw [a4, a5]
  by_cases k1 : z = 0
  · subst k1
    rw [if_pos nI_0, if_pos nI_0]
    exact hz _
  · rw [if_neg (nI_ne0 (by omega) (by omega)), if_neg (nI_ne0 (by omega) (by omega))]
    obtain ⟨y, rfl⟩ : ∃ y, z = y + 1 := ⟨z - 1, by omega⟩
    have hp := Nat.mod_lt (f + y) (show 0 < 14 by decide)
    have et : tkA C = mset C 26 2 (nI y) := by unfold tkA; rw [a4, nI_pred]
    have eb : tkB C 7 = stc (mset C 26 2 (nI y)) 7 (28 + 7 * ((f + y) % 14)) := by
      unfold tkB
      rw [a4, if_neg (nI_nle (by omega) (by omega)), et, mset_o (by decide), a3, mset_s, nI_add, rm14 (by omega), nI_clamp (by omega)]
    have eu : unM D0 = mset D0 158 20 (nI y) := by unfold unM; rw [a5, nI_pred]
    have ed : unR (unM D0) = rset (mset D0 158 20 (nI y)) 165 (cpyR (D0.1 165) (fun k => D0.1 168 (52 * y + k)) 0 52 0) := by
      unfold unR ntD
      rw [eu, mset_s, nI_clamp (by omega : y < 2 ^ 31), mset_n (show (165 : Nat) ≠ 158 by decide), mset_n (show (168 : Nat) ≠ 158 by decide)]
    have e165 : ∀ j, j < 52 → (unR (unM D0)).1 165 j = D0.1 168 (52 * y + j) := by
      intro j hj
      rw [ed, rset_1, cpyR_get, if_pos (by omega), Nat.sub_zero]
    have hkof : kof (28 + 7 * ((f + y) % 14)) = 8 := okS 27 (by decide) (by decide +kernel) ((f + y) % 14) (by rw [show ln 27 = 14 by decide +kernel]; exact hp)
    have hOF : OF (tkB C 7) := by
      rw [eb]
      exact OF_stc (OF_mset hCL.1 (by decide +kernel)) k7 hkof
    have fC : ∀ a, fr 7 a → a ≠ 26 → (tkB C 7).1 a = C.1 a := fun a q1 q2 => by rw [eb, f_stc q1, mset_n q2]
    have f26 : (tkB C 7).1 26 = (mset C 26 2 (nI y)).1 26 := by rw [eb, f_stc (by unfold fr; omega)]
    have fC2 : (tkB C 7).2 = C.2 := by rw [eb, stc_2]; rfl
    have fD : ∀ a, a ≠ 158 → a ≠ 165 → (unR (unM D0)).1 a = D0.1 a := fun a q1 q2 => by rw [ed, rset_n q2, mset_n q1]
    have fD8 : ∀ j, j ≠ 20 → (unR (unM D0)).1 158 j = D0.1 158 j := fun j q => by rw [ed, rset_n (by decide), mset_o q]
    have q := a6 y (by omega)
    refine ⟨?_, RR_le (c := c) ⟨⟨hOF, by rw [fC 6 (by unfold fr; omega) (by decide)]; exact hCL.2⟩, n, B, ?_⟩ (by omega), ⟨fun a ha' => fC a (by unfold fr; omega) (by omega), by show (tkB C 7).2 158 = _; rw [fC2]⟩, FL_t hF0 ⟨fun a ha' => fD a (by omega) (by omega), by show (unR (unM D0)).2 0 = _; rw [ed]; rfl⟩⟩
    · show (tkB C 7).1 26 2 = (unM D0).1 158 20
      rw [f26, mset_s, eu, mset_s]
    · show R2 n B c (tkB C 7) (unR (unM D0))
      refine ⟨⟨PLR_c h1 (fC _ (by unfold fr; omega) (by decide)) (fC _ (by unfold fr; omega) (by decide)) (fC _ (by unfold fr; omega) (by decide)) (fD8 _ (by decide)) (fD8 _ (by decide)) (fD8 _ (by decide)) (fD _ (by decide) (by decide)) (fD _ (by decide) (by decide)), ?_⟩, ⟨t, t1, ?_, ?_, fun i hi => ?_⟩, ⟨f, y, a1, by omega, ?_, ?_, ?_, fun i hi => ?_⟩, fun s hs => ?_, ⟨z', z1, ?_, ?_, fun i hi => ?_⟩, ?_⟩
      · have hV := PV_stc (C := mset C 26 2 (nI y)) (k := 7) (o := 28 + 7 * ((f + y) % 14)) hn (by omega) (PV_n hn q.1 (fun a k1 k2 => mset_n (by omega)) (fun _ _ => rfl))
        refine ⟨PV_n hn hV (fun a _ _ => by rw [eb]) e165, ?_⟩
        obtain ⟨b, b1, b2⟩ := q.2
        exact ⟨b, b1, (e165 51 (by decide)).trans b2⟩
      · rw [fC 1 (by unfold fr; omega) (by decide)]; exact t2
      · rw [fD8 2 (by decide)]; exact t3
      · rw [fC 2 (by unfold fr; omega) (by decide), fD 159 (by decide) (by decide)]; exact t4 i hi
      · rw [f26, mset_o (by decide)]; exact a3
      · rw [f26, mset_s]
      · rw [ed, rset_n (by decide), mset_s]
      · have hi' := Nat.mod_lt (f + i) (show 0 < 14 by decide)
        rw [fD 168 (by decide) (by decide)]
        exact PVc_n hn (a6 i (by omega)) (fun a k1 k2 => fC a (by unfold fr; omega) (by omega))
      · rw [fC 141 (by unfold fr; omega) (by decide), fD 170 (by decide) (by decide), fD 169 (by decide) (by decide)]
        rcases h5 s hs with g | ⟨g1, g2, g3⟩
        · exact Or.inl g
        · exact Or.inr ⟨g1, g2, PVc_n hn g3 (fun a k1 k2 => fC a (by unfold fr; omega) (by omega))⟩
      · rw [fC 151 (by unfold fr; omega) (by decide)]; exact z2
      · rw [fD8 23 (by decide)]; exact z3
      · rw [fC 152 (by unfold fr; omega) (by decide), fC 153 (by unfold fr; omega) (by decide), fC 154 (by unfold fr; omega) (by decide), fC 155 (by unfold fr; omega) (by decide), fC 156 (by unfold fr; omega) (by decide), fD 171 (by decide) (by decide), fD 172 (by decide) (by decide), fD 173 (by decide) (by decide), fD 174 (by decide) (by decide), fD 175 (by decide) (by decide)]; exact z4 i hi
      · rw [fC2, ed]; exact h7
theorem op_keep {c : Nat} {C D : mM} {x : Int32} (hc : c + 1000 < 2 ^ 30) (h : RR c C D) : OPS (c_keep C x).1 (m_keep (m0 D) x).1 c C (c_keep C x).2 D (m_keep (m0 D) x).2 := by
  have hG := RR_GD h
  have hz : ∀ v : Int32, OPS v v c C C D (m0 D) := fun v => ask_fin h rfl (AQ_r hG) AM_r
  obtain ⟨hCL, n, B, h2⟩ := h
  have h2' := R2_DF h2 DF_0
  have hF0 : FL D (m0 D) := FL_0
  generalize m0 D = D0 at *
  unfold c_keep m_keep
  by_cases k1 : wi x 0 1 = 0
  · rw [if_pos k1, if_pos k1]; exact hz _
  · rw [if_neg k1, if_neg k1]
    obtain ⟨s, -, hs1', rfl⟩ := wi_g (d := 0) (c := 1) rfl rfl (by decide) (by decide) k1
    rw [nI_clamp (by omega : s < 2 ^ 31)]
    obtain ⟨⟨h1, h2p⟩, ⟨t, t1, t2, t3, t4⟩, ⟨f, z, a1, a2, a3, a4, a5, a6⟩, h5, ⟨z', z1, z2, z3, z4⟩, h7⟩ := h2'
    have hn := h1.1.1
    have fC : ∀ a, fr (127 + 7 * s) a → a ≠ 141 → (mset (stc C (127 + 7 * s) 7) 141 s 1).1 a = C.1 a := fun a q1 q2 => by rw [mset_n q2, f_stc q1]
    have fC2 : (mset (stc C (127 + 7 * s) 7) 141 s 1).2 = C.2 := by rw [mset_2a, stc_2]
    have fD : ∀ a, a ≠ 169 → a ≠ 170 → (kpM D0 s).1 a = D0.1 a := fun a q1 q2 => by unfold kpM; rw [rset_n q1, mset_n q2]
    have e169 : ∀ j, (kpM D0 s).1 169 j = if 52 * s ≤ j ∧ j < 52 * s + 52 then D0.1 165 (j - 52 * s) else D0.1 169 j := by
      intro j
      unfold kpM
      rw [rset_1, cpyR_get]
      rfl
    have hOF : OF (mset (stc C (127 + 7 * s) 7) 141 s 1) := OF_mset (OF_stc hCL.1 (k127 (by omega)) k7) (by decide +kernel)
    refine ⟨?_, RR_le (c := c) ⟨⟨hOF, by rw [fC 6 (by unfold fr; omega) (by decide)]; exact hCL.2⟩, n, B, ?_⟩ (by omega), ⟨fun a ha' => fC a (by unfold fr; omega) (by omega), by show (mset (stc C (127 + 7 * s) 7) 141 s 1).2 158 = _; rw [fC2]⟩, FL_t hF0 ⟨fun a ha' => fD a (by omega) (by omega), rfl⟩⟩
    · show (mset (stc C (127 + 7 * s) 7) 141 s 1).1 7 2 = D0.1 165 51
      rw [fC 7 (by unfold fr; omega) (by decide)]
      exact h2p.1.2.2
    · show R2 n B c (mset (stc C (127 + 7 * s) 7) 141 s 1) (kpM D0 s)
      refine ⟨⟨PLR_c h1 (fC _ (by unfold fr; omega) (by decide)) (fC _ (by unfold fr; omega) (by decide)) (fC _ (by unfold fr; omega) (by decide)) (by rw [fD 158 (by decide) (by decide)]) (by rw [fD 158 (by decide) (by decide)]) (by rw [fD 158 (by decide) (by decide)]) (fD _ (by decide) (by decide)) (fD _ (by decide) (by decide)), ?_⟩, ⟨t, t1, ?_, ?_, fun i hi => ?_⟩, ⟨f, z, a1, a2, ?_, ?_, ?_, fun i hi => ?_⟩, fun s' hs' => ?_, ⟨z', z1, ?_, ?_, fun i hi => ?_⟩, ?_⟩
      · rw [fD 165 (by decide) (by decide)]
        exact PVc_n hn h2p (fun a q1 q2 => fC a (by unfold fr; omega) (by omega))
      · rw [fC 1 (by unfold fr; omega) (by decide)]; exact t2
      · rw [fD 158 (by decide) (by decide)]; exact t3
      · rw [fC 2 (by unfold fr; omega) (by decide), fD 159 (by decide) (by decide)]; exact t4 i hi
      · rw [fC 26 (by unfold fr; omega) (by decide)]; exact a3
      · rw [fC 26 (by unfold fr; omega) (by decide)]; exact a4
      · rw [fD 158 (by decide) (by decide)]; exact a5
      · have hi' := Nat.mod_lt (f + i) (show 0 < 14 by decide)
        rw [fD 168 (by decide) (by decide)]
        exact PVc_n hn (a6 i hi) (fun a q1 q2 => fC a (by unfold fr; omega) (by omega))
      · have e170 : (kpM D0 s).1 170 = (mset D0 170 s 1).1 170 := by unfold kpM; rw [rset_n (by decide)]
        by_cases e : s' = s
        · subst e
          refine Or.inr ⟨mset_s, by rw [e170, mset_s], ?_⟩
          have eg : ∀ j, j < 52 → (kpM D0 s').1 169 (52 * s' + j) = D0.1 165 j := by
            intro j hj
            rw [e169, if_pos (by omega), Nat.add_sub_cancel_left]
          refine ⟨PV_n hn (PV_stc (C := C) (k := 127 + 7 * s') (o := 7) hn (by omega) h2p.1) (fun a q1 q2 => mset_n (by omega)) eg, ?_⟩
          obtain ⟨b, b1, b2⟩ := h2p.2
          exact ⟨b, b1, (eg 51 (by decide)).trans b2⟩
        · rw [mset_o e, f_stc (by unfold fr; omega), e170, mset_o e]
          rcases h5 s' hs' with g | ⟨g1, g2, g3⟩
          · exact Or.inl g
          · have eg : ∀ j, j < 52 → (kpM D0 s).1 169 (52 * s' + j) = D0.1 169 (52 * s' + j) := by
              intro j hj
              rw [e169, if_neg (by omega)]
            refine Or.inr ⟨g1, g2, PV_n hn g3.1 (fun a q1 q2 => fC a (by unfold fr; omega) (by omega)) eg, ?_⟩
            obtain ⟨b, b1, b2⟩ := g3.2
            exact ⟨b, b1, (eg 51 (by decide)).trans b2⟩
      · rw [fC 151 (by unfold fr; omega) (by decide)]; exact z2
      · rw [fD 158 (by decide) (by decide)]; exact z3
      · rw [fC 152 (by unfold fr; omega) (by decide), fC 153 (by unfold fr; omega) (by decide), fC 154 (by unfold fr; omega) (by decide), fC 155 (by unfold fr; omega) (by decide), fC 156 (by unfold fr; omega) (by decide), fD 171 (by decide) (by decide), fD 172 (by decide) (by decide), fD 173 (by decide) (by decide), fD 174 (by decide) (by decide), fD 175 (by decide) (by decide)]; exact z4 i hi
      · rw [fC2]; exact h7
theorem op_again {c : Nat} {C D : mM} {x : Int32} (hc : c + 1000 < 2 ^ 30) (h : RR c C D) : OPS (c_again C x).1 (m_again (m0 D) x).1 c C (c_again C x).2 D (m_again (m0 D) x).2 := by
  have hG := RR_GD h
  have hz : ∀ v : Int32, OPS v v c C C D (m0 D) := fun v => ask_fin h rfl (AQ_r hG) AM_r
  obtain ⟨hCL, n, B, h2⟩ := h
  have h2' := R2_DF h2 DF_0
  have hF0 : FL D (m0 D) := FL_0
  generalize m0 D = D0 at *
  unfold c_again m_again
  by_cases k1 : wi x 0 1 = 0
  · rw [if_pos k1, if_pos k1]; exact hz _
  · rw [if_neg k1, if_neg k1]
    obtain ⟨s, -, hs1', rfl⟩ := wi_g (d := 0) (c := 1) rfl rfl (by decide) (by decide) k1
    rw [nI_clamp (by omega : s < 2 ^ 31)]
    obtain ⟨⟨h1, h2p⟩, ⟨t, t1, t2, t3, t4⟩, ⟨f, z, a1, a2, a3, a4, a5, a6⟩, h5, ⟨z', z1, z2, z3, z4⟩, h7⟩ := h2'
    have hn := h1.1.1
    rcases h5 s (by omega) with ⟨g1, g2⟩ | ⟨g1, g2, g3⟩
    · rw [if_pos g1, if_pos g2]; exact hz _
    · rw [if_neg (by rw [g1]; decide), if_neg (by rw [g2]; decide)]
      have fC : ∀ a, fr 7 a → a ≠ 26 → (mset (stc C 7 (127 + 7 * s)) 26 2 0).1 a = C.1 a := fun a q1 q2 => by rw [mset_n q2, f_stc q1]
      have fC2 : (mset (stc C 7 (127 + 7 * s)) 26 2 0).2 = C.2 := by rw [mset_2a, stc_2]
      have fD : ∀ a, a ≠ 165 → a ≠ 158 → (agM D0 s).1 a = D0.1 a := fun a q1 q2 => by unfold agM; rw [mset_n q2, rset_n q1]
      have fD8 : ∀ j, j ≠ 20 → (agM D0 s).1 158 j = D0.1 158 j := fun j q => by unfold agM; rw [mset_o q, rset_n (by decide)]
      have e165 : ∀ j, j < 52 → (agM D0 s).1 165 j = D0.1 169 (52 * s + j) := by
        intro j hj
        unfold agM
        rw [mset_n (by decide), rset_1, cpyR_get, if_pos (by omega), Nat.sub_zero]
      have hOF : OF (mset (stc C 7 (127 + 7 * s)) 26 2 0) := OF_mset (OF_stc hCL.1 k7 (k127 (by omega))) (by decide +kernel)
      have hV : PV (mset (stc C 7 (127 + 7 * s)) 26 2 0) 7 n ((agM D0 s).1 165) := PV_n hn (PV_stc (C := C) (k := 7) (o := 127 + 7 * s) hn (by omega) g3.1) (fun a q1 q2 => mset_n (by omega)) e165
      refine ⟨hV.2.2, RR_le (c := c) ⟨⟨hOF, by rw [fC 6 (by unfold fr; omega) (by decide)]; exact hCL.2⟩, n, B, ?_⟩ (by omega), ⟨fun a ha' => fC a (by unfold fr; omega) (by omega), by show (mset (stc C 7 (127 + 7 * s)) 26 2 0).2 158 = _; rw [fC2]⟩, FL_t hF0 ⟨fun a ha' => fD a (by omega) (by omega), rfl⟩⟩
      show R2 n B c (mset (stc C 7 (127 + 7 * s)) 26 2 0) (agM D0 s)
      refine ⟨⟨PLR_c h1 (fC _ (by unfold fr; omega) (by decide)) (fC _ (by unfold fr; omega) (by decide)) (fC _ (by unfold fr; omega) (by decide)) (fD8 _ (by decide)) (fD8 _ (by decide)) (fD8 _ (by decide)) (fD _ (by decide) (by decide)) (fD _ (by decide) (by decide)), hV, ?_⟩, ⟨t, t1, ?_, ?_, fun i hi => ?_⟩, ⟨f, 0, a1, by omega, ?_, ?_, ?_, fun i hi => by omega⟩, fun s' hs' => ?_, ⟨z', z1, ?_, ?_, fun i hi => ?_⟩, ?_⟩
      · obtain ⟨b, b1, b2⟩ := g3.2
        exact ⟨b, b1, (e165 51 (by decide)).trans b2⟩
      · rw [fC 1 (by unfold fr; omega) (by decide)]; exact t2
      · rw [fD8 2 (by decide)]; exact t3
      · rw [fC 2 (by unfold fr; omega) (by decide), fD 159 (by decide) (by decide)]; exact t4 i hi
      · rw [mset_o (by decide), f_stc (by unfold fr; omega)]; exact a3
      · rw [mset_s]; rfl
      · unfold agM; rw [mset_s]; rfl
      · rw [fC 141 (by unfold fr; omega) (by decide), fD 170 (by decide) (by decide), fD 169 (by decide) (by decide)]
        rcases h5 s' hs' with g | ⟨k1, k2, k3⟩
        · exact Or.inl g
        · exact Or.inr ⟨k1, k2, PVc_n hn k3 (fun a q1 q2 => fC a (by unfold fr; omega) (by omega))⟩
      · rw [fC 151 (by unfold fr; omega) (by decide)]; exact z2
      · rw [fD8 23 (by decide)]; exact z3
      · rw [fC 152 (by unfold fr; omega) (by decide), fC 153 (by unfold fr; omega) (by decide), fC 154 (by unfold fr; omega) (by decide), fC 155 (by unfold fr; omega) (by decide), fC 156 (by unfold fr; omega) (by decide), fD 171 (by decide) (by decide), fD 172 (by decide) (by decide), fD 173 (by decide) (by decide), fD 174 (by decide) (by decide), fD 175 (by decide) (by decide)]; exact z4 i hi
      · rw [fC2]; exact h7
/-! the text and what was seen: rows that stand apart -/
theorem R2_text {n B c : Nat} {C C' D D' : mM} (h : R2 n B c C D) (hC : (∀ a, a ≠ 1 → a ≠ 2 → C'.1 a = C.1 a) ∧ C'.2 = C.2) (hD : (∀ a, a ≠ 158 → a ≠ 159 → D'.1 a = D.1 a) ∧ (∀ j, j ≠ 2 → D'.1 158 j = D.1 158 j) ∧ D'.2 = D.2) (hT : TXR C' D') : R2 n B c C' D' := by
  obtain ⟨⟨h1, h2p⟩, -, ⟨f, z, a1, a2, a3, a4, a5, a6⟩, h5, ⟨z', z1, z2, z3, z4⟩, h7⟩ := h
  have hn := h1.1.1
  obtain ⟨fC, fC2⟩ := hC
  obtain ⟨fD, fD8, fD2⟩ := hD
  refine ⟨⟨PLR_c h1 (fC _ (by decide) (by decide)) (fC _ (by decide) (by decide)) (fC _ (by decide) (by decide)) (fD8 _ (by decide)) (fD8 _ (by decide)) (fD8 _ (by decide)) (fD _ (by decide) (by decide)) (fD _ (by decide) (by decide)), ?_⟩, hT, ⟨f, z, a1, a2, ?_, ?_, ?_, fun i hi => ?_⟩, fun s' hs' => ?_, ⟨z', z1, ?_, ?_, fun i hi => ?_⟩, ?_⟩
  · rw [fD 165 (by decide) (by decide)]
    exact PVc_n hn h2p (fun a q1 q2 => fC a (by omega) (by omega))
  · rw [fC 26 (by decide) (by decide)]; exact a3
  · rw [fC 26 (by decide) (by decide)]; exact a4
  · rw [fD8 20 (by decide)]; exact a5
  · rw [fD 168 (by decide) (by decide)]
    exact PVc_n hn (a6 i hi) (fun a q1 q2 => fC a (by omega) (by omega))
  · rw [fC 141 (by decide) (by decide), fD 170 (by decide) (by decide), fD 169 (by decide) (by decide)]
    rcases h5 s' hs' with g | ⟨k1, k2, k3⟩
    · exact Or.inl g
    · exact Or.inr ⟨k1, k2, PVc_n hn k3 (fun a q1 q2 => fC a (by omega) (by omega))⟩
  · rw [fC 151 (by decide) (by decide)]; exact z2
  · rw [fD8 23 (by decide)]; exact z3
  · rw [fC 152 (by decide) (by decide), fC 153 (by decide) (by decide), fC 154 (by decide) (by decide), fC 155 (by decide) (by decide), fC 156 (by decide) (by decide), fD 171 (by decide) (by decide), fD 172 (by decide) (by decide), fD 173 (by decide) (by decide), fD 174 (by decide) (by decide), fD 175 (by decide) (by decide)]; exact z4 i hi
  · rw [fC2, fD2]; exact h7
theorem op_write {c : Nat} {C D : mM} {x : Int32} (hc : c + 1000 < 2 ^ 30) (h : RR c C D) : OPS (c_write C x).1 (m_write (m0 D) x).1 c C (c_write C x).2 D (m_write (m0 D) x).2 := by
  have hG := RR_GD h
  have hz : ∀ v : Int32, OPS v v c C C D (m0 D) := fun v => ask_fin h rfl (AQ_r hG) AM_r
  obtain ⟨hCL, n, B, h2⟩ := h
  have h2' := R2_DF h2 DF_0
  have hF0 : FL D (m0 D) := FL_0
  generalize m0 D = D0 at *
  unfold c_write m_write
  by_cases k1 : wi x 0 255 = 0
  · rw [if_pos k1, if_pos k1]; exact hz _
  · rw [if_neg k1, if_neg k1]
    obtain ⟨X, -, hX, rfl⟩ := wi_g (d := 0) (c := 255) rfl rfl (by decide) (by decide) k1
    obtain ⟨t, t1, t2, t3, t4⟩ := h2'.2.1
    unfold adT nT
    rw [t2, t3, nI_clamp (by omega : t < 2 ^ 31)]
    by_cases k2 : t = 80
    · subst k2
      rw [if_neg (by decide), if_pos (show nI 80 = 80 from rfl)]
      exact hz _
    · have g1 : nI t < 80 := nI_lt (b := 80) (by omega) (by decide)
      have g2 : ¬ nI t = 80 := fun q => k2 ((nI_eq (b := 80) (by omega) (by decide)).mp q)
      have g3 : ¬ (80 : Int32) ≤ nI t := nI_ge (b := 80) (by omega) (by decide)
      rw [if_pos g1, if_neg g2, if_neg g3, mset_s]
      refine ⟨rfl, RR_le (c := c) ⟨⟨OF_mset (OF_mset hCL.1 (by decide +kernel)) (by decide +kernel), by rw [mset_n (by decide), mset_n (by decide)]; exact hCL.2⟩, n, B, ?_⟩ (by omega), ⟨fun a ha' => by rw [mset_n (by omega), mset_n (by omega)], rfl⟩, FL_t hF0 ⟨fun a ha' => by rw [mset_n (by omega), mset_n (by omega)], rfl⟩⟩
      refine R2_text h2' ⟨fun a q1 q2 => by rw [mset_n q1, mset_n q2], rfl⟩ ⟨fun a q1 q2 => by rw [mset_n q1, mset_n q2], fun j q => by rw [mset_o q, mset_n (by decide)], rfl⟩ ⟨t + 1, by omega, ?_, ?_, fun i hi => ?_⟩
      · rw [mset_s, nI_1]
      · rw [mset_s, nI_1]
      · dsimp only
        rw [mset_n (show (2 : Nat) ≠ 1 by decide), mset_n (show (159 : Nat) ≠ 158 by decide)]
        by_cases e : i = t
        · subst e
          rw [mset_s, mset_s]
          exact ⟨X, by omega, rfl, rfl⟩
        · rw [mset_o e, mset_o e]
          exact t4 i (by omega)
theorem op_wipe {c : Nat} {C D : mM} (hc : c + 1000 < 2 ^ 30) (h : RR c C D) : OPS (C.1 1 1) ((m0 D).1 158 2) c C (mset C 1 1 0) D (mset (m0 D) 158 2 0) := by
  obtain ⟨hCL, n, B, h2⟩ := h
  have h2' := R2_DF h2 DF_0
  have hF0 : FL D (m0 D) := FL_0
  generalize m0 D = D0 at *
  obtain ⟨t, t1, t2, t3, t4⟩ := h2'.2.1
  refine ⟨by rw [t2, t3], RR_le (c := c) ⟨⟨OF_mset hCL.1 (by decide +kernel), by rw [mset_n (by decide)]; exact hCL.2⟩, n, B, ?_⟩ (by omega), ⟨fun a ha' => mset_n (by omega), rfl⟩, FL_t hF0 ⟨fun a ha' => mset_n (by omega), rfl⟩⟩
  exact R2_text h2' ⟨fun a q1 q2 => mset_n q1, rfl⟩ ⟨fun a q1 q2 => mset_n q1, fun j q => mset_o q, rfl⟩ ⟨0, by omega, by rw [mset_s]; rfl, by rw [mset_s]; rfl, fun i hi => by omega⟩
theorem R2_seen {n B c : Nat} {C C' D D' : mM} (h : R2 n B c C D) (hC : (∀ a, a < 151 → C'.1 a = C.1 a) ∧ C'.2 = C.2) (hD : (∀ a, a ≠ 158 → (a < 171 ∨ 175 < a) → D'.1 a = D.1 a) ∧ (∀ j, j ≠ 23 → D'.1 158 j = D.1 158 j) ∧ D'.2 = D.2) (hS : SER C' D') : R2 n B c C' D' := by
  obtain ⟨⟨h1, h2p⟩, ⟨t, t1, t2, t3, t4⟩, ⟨f, z, a1, a2, a3, a4, a5, a6⟩, h5, -, h7⟩ := h
  have hn := h1.1.1
  obtain ⟨fC, fC2⟩ := hC
  obtain ⟨fD, fD8, fD2⟩ := hD
  refine ⟨⟨PLR_c h1 (fC _ (by decide)) (fC _ (by decide)) (fC _ (by decide)) (fD8 _ (by decide)) (fD8 _ (by decide)) (fD8 _ (by decide)) (fD _ (by decide) (by decide)) (fD _ (by decide) (by decide)), ?_⟩, ⟨t, t1, ?_, ?_, fun i hi => ?_⟩, ⟨f, z, a1, a2, ?_, ?_, ?_, fun i hi => ?_⟩, fun s' hs' => ?_, hS, ?_⟩
  · rw [fD 165 (by decide) (by decide)]
    exact PVc_n hn h2p (fun a q1 q2 => fC a (by omega))
  · rw [fC 1 (by decide)]; exact t2
  · rw [fD8 2 (by decide)]; exact t3
  · rw [fC 2 (by decide), fD 159 (by decide) (by decide)]; exact t4 i hi
  · rw [fC 26 (by decide)]; exact a3
  · rw [fC 26 (by decide)]; exact a4
  · rw [fD8 20 (by decide)]; exact a5
  · have hi' := Nat.mod_lt (f + i) (show 0 < 14 by decide)
    rw [fD 168 (by decide) (by decide)]
    exact PVc_n hn (a6 i hi) (fun a q1 q2 => fC a (by omega))
  · rw [fC 141 (by decide), fD 170 (by decide) (by decide), fD 169 (by decide) (by decide)]
    rcases h5 s' hs' with g | ⟨k1, k2, k3⟩
    · exact Or.inl g
    · exact Or.inr ⟨k1, k2, PVc_n hn k3 (fun a q1 q2 => fC a (by omega))⟩
  · rw [fC2, fD2]; exact h7
theorem op_unsee {c : Nat} {C D : mM} (hc : c + 1000 < 2 ^ 30) (h : RR c C D) : OPS (C.1 151 6) ((m0 D).1 158 23) c C (mset C 151 6 0) D (mset (m0 D) 158 23 0) := by
  obtain ⟨hCL, n, B, h2⟩ := h
  have h2' := R2_DF h2 DF_0
  have hF0 : FL D (m0 D) := FL_0
  generalize m0 D = D0 at *
  obtain ⟨z, z1, z2, z3, z4⟩ := h2'.2.2.2.2.1
  refine ⟨by rw [z2, z3], RR_le (c := c) ⟨⟨OF_mset hCL.1 (by decide +kernel), by rw [mset_n (by decide)]; exact hCL.2⟩, n, B, ?_⟩ (by omega), ⟨fun a ha' => mset_n (by omega), rfl⟩, FL_t hF0 ⟨fun a ha' => mset_n (by omega), rfl⟩⟩
  exact R2_seen h2' ⟨fun a q1 => mset_n (by omega), rfl⟩ ⟨fun a q1 q2 => mset_n q1, fun j q => mset_o q, rfl⟩ ⟨0, by omega, by rw [mset_s]; rfl, by rw [mset_s]; rfl, fun i hi => by omega⟩
theorem op_see {c : Nat} {C D : mM} {x u w v s : Int32} (hc : c + 1000 < 2 ^ 30) (h : RR c C D) : OPS (c_see C x u w v s).1 (m_see (m0 D) x u w v s).1 c C (c_see C x u w v s).2 D (m_see (m0 D) x u w v s).2 := by
  have hG := RR_GD h
  have hz : ∀ v : Int32, OPS v v c C C D (m0 D) := fun v => ask_fin h rfl (AQ_r hG) AM_r
  obtain ⟨hCL, n, B, h2⟩ := h
  have h2' := R2_DF h2 DF_0
  have hF0 : FL D (m0 D) := FL_0
  have hP := h2'.1.1
  generalize m0 D = D0 at *
  unfold c_see m_see
  rcases has_nu (u := u) hP with ⟨g1, g2, -⟩ | ⟨g1, g2⟩
  · rw [if_neg g1, if_pos g2]
    by_cases k1 : wi x 0 9 = 0
    · rw [if_pos k1, if_pos k1]; exact hz _
    · rw [if_neg k1, if_neg k1]
      by_cases k2 : wi w 0 1 = 0
      · rw [if_pos k2, if_pos k2]; exact hz _
      · rw [if_neg k2, if_neg k2]
        by_cases k3 : wi v 0 99 = 0
        · rw [if_pos k3, if_pos k3]; exact hz _
        · rw [if_neg k3, if_neg k3]
          by_cases k4 : wi s 0 1 = 0
          · rw [if_pos k4, if_pos k4]; exact hz _
          · rw [if_neg k4, if_neg k4]
            obtain ⟨X, -, hX, rfl⟩ := wi_g (d := 0) (c := 9) rfl rfl (by decide) (by decide) k1
            obtain ⟨z, z1, z2, z3, z4⟩ := h2'.2.2.2.2.1
            unfold adS nZ seA
            rw [z2, z3, nI_clamp (by omega : z < 2 ^ 31)]
            by_cases k5 : z = 6
            · subst k5
              rw [if_neg (by decide), if_pos (show nI 6 = 6 from rfl)]
              exact hz _
            · have q1 : nI z < 6 := nI_lt (b := 6) (by omega) (by decide)
              have q2 : ¬ nI z = 6 := fun q => k5 ((nI_eq (b := 6) (by omega) (by decide)).mp q)
              have q3 : ¬ (6 : Int32) ≤ nI z := nI_ge (b := 6) (by omega) (by decide)
              rw [if_pos q1, if_neg q2, if_neg q3, mset_s]
              refine ⟨rfl, RR_le (c := c) ⟨⟨OF_mset (OF_mset (OF_mset (OF_mset (OF_mset (OF_mset hCL.1 (by decide +kernel)) (by decide +kernel)) (by decide +kernel)) (by decide +kernel)) (by decide +kernel)) (by decide +kernel), by rw [mset_n (by decide), mset_n (by decide), mset_n (by decide), mset_n (by decide), mset_n (by decide), mset_n (by decide)]; exact hCL.2⟩, n, B, ?_⟩ (by omega), ⟨fun a ha' => by rw [mset_n (by omega), mset_n (by omega), mset_n (by omega), mset_n (by omega), mset_n (by omega), mset_n (by omega)], rfl⟩, FL_t hF0 ⟨fun a ha' => by rw [mset_n (by omega), mset_n (by omega), mset_n (by omega), mset_n (by omega), mset_n (by omega), mset_n (by omega)], rfl⟩⟩
              refine R2_seen h2' ⟨fun a r1 => by rw [mset_n (by omega), mset_n (by omega), mset_n (by omega), mset_n (by omega), mset_n (by omega), mset_n (by omega)], rfl⟩ ⟨fun a r1 r2 => by rw [mset_n r1, mset_n (by omega), mset_n (by omega), mset_n (by omega), mset_n (by omega), mset_n (by omega)], fun j q => by rw [mset_o q, mset_n (by decide), mset_n (by decide), mset_n (by decide), mset_n (by decide), mset_n (by decide)], rfl⟩ ⟨z + 1, by omega, by rw [mset_s, nI_1], by rw [mset_s, nI_1], fun i hi => ?_⟩
              simp only [mset_get, Nat.reduceEqDiff, false_and, if_false, true_and]
              by_cases e : i = z
              · simp only [if_pos e]
                exact ⟨⟨X, hX, rfl, rfl⟩, trivial, trivial, trivial, trivial⟩
              · simp only [if_neg e]
                exact z4 i (by omega)
  · rw [if_pos g1, if_neg g2]; exact hz _
theorem wai_eq {n B c : Nat} {C D : mM} (h : R2 n B c C D) : itr (waiS C 7) 0 (nU C) 0 = wgM D := by
  have hP := h.1.1
  obtain ⟨n1, -, n3, -⟩ := PLR_n hP
  unfold wgM
  rw [n1, n3]
  have key := itr_rel (waiS C 7) (wgS D) (fun _ a b => a = b) n 0 0 0 (fun i a b _ hi e => by
    subst e
    unfold waiS wgS
    have hi' : i < n := by omega
    have hV := h.1.2.1
    obtain ⟨q, hq, eq⟩ := VF4.mp (PV_v hV hi' (by decide))
    obtain ⟨a5, ha', ea⟩ := VF5.mp (PV_v hV hi' (by decide))
    have h0 := ha_0 hq ha' eq ea
    rw [PV_e hV hi' (by decide), PV_e hV hi' (by decide), eq, ea, nI_add]
    by_cases g : q = 0 ∧ a5 = 0
    · rw [if_pos (by rw [g.1, g.2]; decide), if_pos (h0.mpr g)]
    · rw [if_neg (nI_nle (by omega) (by omega)), if_neg (fun w => g (h0.mp w))]) rfl
  exact key
theorem op_count {c : Nat} {C D : mM} {w : Int32} (hc : c + 1000 < 2 ^ 30) (h : RR c C D) : OPS (c_count C w) (m_count (m0 D) w) c C C D (m0 D) := by
  refine ask_fin h ?_ (AQ_r (RR_GD h)) AM_r
  obtain ⟨hCL, n, B, h2⟩ := h
  have h2' := R2_DF h2 DF_0
  generalize m0 D = D0 at *
  have hw := wai_eq h2'
  obtain ⟨o, -, o1, o2, -⟩ := off_eq h2'
  obtain ⟨⟨h1, h2p⟩, ⟨t, t1, t2, t3, t4⟩, ⟨f, z, a1, a2, a3, a4, a5, a6⟩, h5, ⟨z', z1, z2, z3, z4⟩, h7⟩ := h2'
  obtain ⟨s, -, -, s3, s4⟩ := h1.2.2.1
  unfold c_count m_count
  rw [hw, o1, o2, t2, t3, h1.1.2.1, h1.1.2.2, h1.2.1.2.1, h1.2.1.2.2, s3, s4, h2p.1.2.1, h2p.1.2.2, a4, a5, z2, z3]
