/-! a slot: class and model -/
theorem mrt_c {D D' : mM} {r u : Nat} (h1 : D'.1 160 = D.1 160) (h2 : D'.1 161 = D.1 161) (h3 : D'.1 r 51 = D.1 r 51) : mrt D' r u = mrt D r u := by unfold mrt; rw [h1, h2, h3]
theorem min_v {x v : Nat} (hx : x ≤ 9) (hv : v ≤ 999) : mn (nI x) (nI v) = nI (min x v) ∧ (if nI x ≤ nI v then nI x else nI v) = nI (min x v) := by
  unfold mn
  constructor
  · by_cases g : v < x
    · rw [if_pos (nI_lt g (by omega)), Nat.min_eq_right (by omega)]
    · rw [if_neg (nI_nlt (by omega) (by omega)), Nat.min_eq_left (by omega)]
  · by_cases g : x ≤ v
    · rw [if_pos (nI_le g (by omega)), Nat.min_eq_left g]
    · rw [if_neg (nI_ge (by omega) (by omega)), Nat.min_eq_right (by omega)]
theorem send2_eq {C D : mM} {k r n j N : Nat} (hr : r ≤ 167) (hn : n ≤ 5) (hj : j < n) (hN : N ≤ 9) (h : PV C k n (D.1 r)) (h5 : ∃ a, a + N ≤ 9 ∧ D.1 r (10 * j + 5) = nI a) : ∃ a, a ≤ 9 ∧ (send2 C (k + 1 + 1 + j) (nI N)).1 = nI a ∧ PV (send2 C (k + 1 + 1 + j) (nI N)).2 k n ((sd2 D r j (nI N)).1 r) ∧ (sd2 D r j (nI N)).1 177 j = D.1 177 j + nI a ∧ ∀ u, u ≠ j → (sd2 D r j (nI N)).1 177 u = D.1 177 u := by
  obtain ⟨a5, ha5, e5⟩ := h5
  have hA : PV (mset C (k + 1 + 1 + j) 9 (C.1 (k + 1 + 1 + j) 9 + nI N)) k n ((sdA D r j (nI N)).1 r) ∧ (sdA D r j (nI N)).1 177 j = D.1 177 j + nI N ∧ ∀ u, u ≠ j → (sdA D r j (nI N)).1 177 u = D.1 177 u := by
    unfold sdA
    refine ⟨?_, ?_, fun u hu => ?_⟩
    · rw [mset_n (by omega), mset_1, PV_e h hj (by decide)]
      exact PV_up h (by omega) (by decide) VF9
    · rw [mset_s, mset_n (by omega)]
    · rw [mset_o hu, mset_n (by omega)]
  unfold send2 sd2
  rw [PV_e h hj (show 2 < 10 by decide), PV_e h hj (show 8 < 10 by decide), PV_e h hj (show 5 < 10 by decide), e5]
  by_cases g1 : D.1 r (10 * j + 2) ≤ 0
  · rw [if_pos g1, if_pos g1]
    exact ⟨N, hN, rfl, hA⟩
  · rw [if_neg g1, if_neg g1]
    by_cases g2 : rm (D.1 r (10 * j + 8)) (D.1 r (10 * j + 2)) = 0
    · rw [if_pos g2, if_pos g2]
      refine ⟨0, by omega, rfl, ?_, ?_, fun u hu => ?_⟩
      · rw [mset_1]
        exact PV_up h (by omega) (by decide) (VF5.mpr ⟨a5 + N, ha5, nI_add a5 N⟩)
      · rw [mset_n (by omega), nI_0, Int32.add_zero]
      · rw [mset_n (by omega)]
    · rw [if_neg g2, if_neg g2]
      exact ⟨N, hN, rfl, hA⟩
theorem send_eq {C D : mM} {k r n j x : Nat} (hr : r ≤ 167) (hn : n ≤ 5) (hj : j < n) (h : PV C k n (D.1 r)) (hx : x ≤ 9) (e1 : mrt D r j = nI x) : ∃ a, a ≤ 9 ∧ (send C (k + 1 + 1 + j) (nI x)).1 = nI a ∧ PV (send C (k + 1 + 1 + j) (nI x)).2 k n ((sds D r j).1 r) ∧ (sds D r j).1 177 j = D.1 177 j + nI a ∧ ∀ u, u ≠ j → (sds D r j).1 177 u = D.1 177 u := by
  obtain ⟨q, hq, eq⟩ := VF4.mp (PV_v h hj (by decide))
  obtain ⟨a, ha', ea⟩ := VF5.mp (PV_v h hj (by decide))
  have step : ∀ (o v : Nat), (o = 4 ∨ o = 5) → v ≤ 999 → D.1 r (10 * j + o) = nI v → VF o (nI (v - min x v)) → (∃ a, a + min x v ≤ 9 ∧ upd (D.1 r) (10 * j + o) (nI (v - min x v)) (10 * j + 5) = nI a) → ∃ a, a ≤ 9 ∧ (send2 (mset (mset C (k + 1 + 1 + j) o (nI (v - min x v))) (k + 1 + 1 + j) 8 ((mset C (k + 1 + 1 + j) o (nI (v - min x v))).1 (k + 1 + 1 + j) 8 + 1)) (k + 1 + 1 + j) (nI (min x v))).1 = nI a ∧ PV (send2 (mset (mset C (k + 1 + 1 + j) o (nI (v - min x v))) (k + 1 + 1 + j) 8 ((mset C (k + 1 + 1 + j) o (nI (v - min x v))).1 (k + 1 + 1 + j) 8 + 1)) (k + 1 + 1 + j) (nI (min x v))).2 k n ((sd2 (sd1 D r j o (nI (min x v))) r j (nI (min x v))).1 r) ∧ (sd2 (sd1 D r j o (nI (min x v))) r j (nI (min x v))).1 177 j = D.1 177 j + nI a ∧ ∀ u, u ≠ j → (sd2 (sd1 D r j o (nI (min x v))) r j (nI (min x v))).1 177 u = D.1 177 u := by
    intro o v ho hv ev hVF h5
    have f177 : (sd1 D r j o (nI (min x v))).1 177 = D.1 177 := by unfold sd1; rw [mset_n (by omega), mset_n (by omega)]
    have g1 : PV (mset C (k + 1 + 1 + j) o (nI (v - min x v))) k n (upd (D.1 r) (10 * j + o) (nI (v - min x v))) := PV_up h (by omega) (by omega) hVF
    have e1' : (sd1 D r j o (nI (min x v))).1 r = upd (upd (D.1 r) (10 * j + o) (nI (v - min x v))) (10 * j + 8) (upd (D.1 r) (10 * j + o) (nI (v - min x v)) (10 * j + 8) + 1) := by
      unfold sd1
      rw [mset_1, mset_1, ev, pk_sub (Nat.min_le_right x v)]
    have g2 : PV (mset (mset C (k + 1 + 1 + j) o (nI (v - min x v))) (k + 1 + 1 + j) 8 ((mset C (k + 1 + 1 + j) o (nI (v - min x v))).1 (k + 1 + 1 + j) 8 + 1)) k n ((sd1 D r j o (nI (min x v))).1 r) := by
      rw [e1', PV_e g1 hj (by decide)]
      exact PV_up g1 (by omega) (by decide) VF8
    have h5' : ∃ a, a + min x v ≤ 9 ∧ (sd1 D r j o (nI (min x v))).1 r (10 * j + 5) = nI a := by
      obtain ⟨a5, k1, k2⟩ := h5
      refine ⟨a5, k1, ?_⟩
      rw [e1', pk_un (by omega)]
      exact k2
    obtain ⟨a', k1, k2, k3, k4, k5⟩ := send2_eq hr hn hj (by omega) g2 h5'
    refine ⟨a', k1, k2, k3, ?_, fun u hu => ?_⟩
    · rw [k4, f177]
    · rw [k5 u hu, f177]
  unfold send sendM sendA sds sdN sdO
  rw [PV_e h hj (by decide), PV_e h hj (by decide), ea, eq, e1]
  by_cases ga : a = 0
  · have g0 : nI a ≤ 0 := by rw [ga]; decide
    simp only [if_pos g0]
    obtain ⟨m1, m2⟩ := min_v hx hq
    rw [eq, m1, m2, pk_sub (Nat.min_le_right x q)]
    refine step 4 q (Or.inl rfl) hq eq (VF4.mpr ⟨q - min x q, by omega, rfl⟩) ⟨0, by omega, ?_⟩
    rw [pk_un (by omega), ea, ga]
  · have g0 : ¬ nI a ≤ 0 := nI_nle (by omega) (by omega)
    simp only [if_neg g0]
    obtain ⟨m1, m2⟩ := min_v hx (show a ≤ 999 by omega)
    rw [ea, m1, m2, pk_sub (Nat.min_le_right x a)]
    refine step 5 a (Or.inr rfl) (by omega) ea (VF5.mpr ⟨a - min x a, by omega, rfl⟩) ⟨a - min x a, ?_, pk_us⟩
    have := Nat.min_le_right x a
    omega
def S1 (k r n B c i : Nat) (C D : mM) : Prop := PLR n B C D ∧ PV C k n (D.1 r) ∧ D.1 r 51 = nI c ∧ ∀ u, u < i → (∃ x, x ≤ 9 ∧ C.1 22 u = nI x ∧ mrt D r u = nI x) ∧ C.1 23 u = -1 ∧ C.1 24 u = 0 ∧ D.1 177 u = 0
theorem S1_step {C D : mM} {k r n B c i : Nat} (hk : kof k = 8) (hr : 165 ≤ r ∧ r ≤ 167) (hc : c < 2 ^ 31) (hi : i < n) (h : S1 k r n B c i C D) : S1 k r n B c (i + 1) (ciS k i C) (m1S r i D) := by
  obtain ⟨hPL, hV, ec, hU⟩ := h
  have hn := hPL.1.1
  have hk7 := k8_ge hk
  have hkf := k8_far hk
  obtain ⟨q, hq, eq⟩ := VF4.mp (PV_v hV hi (by decide))
  obtain ⟨a, ha', ea⟩ := VF0.mp (PV_v hV hi (by decide))
  have hv : VF 4 (if D.1 r (10 * i + 4) + D.1 r (10 * i + 0) ≤ 999 then D.1 r (10 * i + 4) + D.1 r (10 * i + 0) else 999) := by
    rw [VF4, eq, ea, nI_add]
    by_cases g : q + a ≤ 999
    · have g' : nI (q + a) ≤ 999 := nI_le (b := 999) g (by decide)
      rw [if_pos g']
      exact ⟨q + a, g, rfl⟩
    · have g' : ¬ nI (q + a) ≤ 999 := nI_ge (a := 999) (b := q + a) (by omega) (by omega)
      rw [if_neg g']
      exact ⟨999, by omega, rfl⟩
  unfold ciS m1S tkn
  rw [PV_e hV hi (by decide), PV_e hV hi (by decide)]
  generalize (if D.1 r (10 * i + 4) + D.1 r (10 * i + 0) ≤ 999 then D.1 r (10 * i + 4) + D.1 r (10 * i + 0) else 999) = v at *
  have hV1 : PV (mset C (k + 1 + 1 + i) 4 v) k n ((mset D r (10 * i + 4) v).1 r) := by
    rw [mset_1]
    exact PV_up hV (by omega) (by decide) hv
  have hP1 : PLR n B (mset C (k + 1 + 1 + i) 4 v) (mset D r (10 * i + 4) v) := PLR_c hPL (mset_n (by omega)) (mset_n (by omega)) (mset_n (by omega)) (by rw [mset_n (by omega)]) (by rw [mset_n (by omega)]) (by rw [mset_n (by omega)]) (mset_n (by omega)) (mset_n (by omega))
  have ec1 : (mset D r (10 * i + 4) v).1 r 51 = nI c := by rw [mset_o (by omega)]; exact ec
  have hU1 : ∀ u, u < i → (∃ x, x ≤ 9 ∧ (mset C (k + 1 + 1 + i) 4 v).1 22 u = nI x ∧ mrt (mset D r (10 * i + 4) v) r u = nI x) ∧ (mset C (k + 1 + 1 + i) 4 v).1 23 u = -1 ∧ (mset C (k + 1 + 1 + i) 4 v).1 24 u = 0 ∧ (mset D r (10 * i + 4) v).1 177 u = 0 := by
    intro u hu
    rw [mset_n (by omega), mset_n (by omega), mset_n (by omega), mset_n (by omega), mrt_c (D := D) (mset_n (by omega)) (mset_n (by omega)) (by rw [mset_o (by omega)])]
    exact hU u hu
  generalize mset C (k + 1 + 1 + i) 4 v = C1 at *
  generalize mset D r (10 * i + 4) v = D1 at *
  obtain ⟨x, hx, x1, x2⟩ := rate_eq (r := r) hP1 hi hc ec1
  rw [hV1.2.2, ec1, x1]
  refine ⟨?_, ?_, ?_, ?_⟩
  · exact PLR_c hP1 (by rw [mset_n (by decide), mset_n (by decide), mset_n (by decide)]) (by rw [mset_n (by decide), mset_n (by decide), mset_n (by decide)]) (by rw [mset_n (by decide), mset_n (by decide), mset_n (by decide)]) (by rw [mset_n (by decide)]) (by rw [mset_n (by decide)]) (by rw [mset_n (by decide)]) (mset_n (by decide)) (mset_n (by decide))
  · refine PV_n hn hV1 (fun a h1 h2 => ?_) (fun j hj => ?_)
    · rw [mset_n (by omega), mset_n (by omega), mset_n (by omega)]
    · rw [mset_n (by omega)]
  · rw [mset_n (by omega)]; exact ec1
  · intro u hu
    have em : mrt (mset D1 177 i 0) r u = mrt D1 r u := mrt_c (mset_n (by decide)) (mset_n (by decide)) (by rw [mset_n (by omega)])
    rw [em]
    by_cases e : u = i
    · subst e
      refine ⟨⟨x, hx, ?_, x2⟩, ?_, ?_, ?_⟩
      · rw [mset_n (by decide), mset_n (by decide), mset_s]
      · rw [mset_n (by decide), mset_s]
      · rw [mset_s]
      · rw [mset_s]
    · obtain ⟨⟨y, hy, y1, y2⟩, y3, y4, y5⟩ := hU1 u (by omega)
      refine ⟨⟨y, hy, ?_, y2⟩, ?_, ?_, ?_⟩
      · rw [mset_n (by decide), mset_n (by decide), mset_o e]; exact y1
      · rw [mset_n (by decide), mset_o e, mset_n (by decide)]; exact y3
      · rw [mset_o e, mset_n (by decide), mset_n (by decide)]; exact y4
      · rw [mset_o e]; exact y5
def S2 (k r n B c b : Nat) (C D : mM) : Prop := (PLR n B C D ∧ PV C k n (D.1 r) ∧ D.1 r 51 = nI c) ∧ (∀ u, u < n → ∃ x, x ≤ 9 ∧ C.1 22 u = nI x ∧ mrt D r u = nI x) ∧ (∀ u, u < n → LB C D u b) ∧ (∀ j, j < b → C.1 25 j = D.1 176 j) ∧ ∀ u, u < n → ∃ g, g ≤ 9 * b ∧ C.1 24 u = nI g ∧ D.1 177 u = nI g
theorem LB_c {C C' D D' : mM} {u b : Nat} (h : LB C D u b) (h1 : C'.1 23 u = C.1 23 u) (h2 : ∀ j, j < b → D'.1 176 j = D.1 176 j) (h3 : D'.1 176 b ≠ nI u) : LB C' D' u (b + 1) := by
  have g : ∀ j, j < b + 1 → j ≠ b → D'.1 176 j = D.1 176 j := fun j a1 a2 => h2 j (by omega)
  rcases h with ⟨k1, k2⟩ | ⟨j, hj, k1, k2, k3⟩
  · refine Or.inl ⟨by rw [h1]; exact k1, fun j hj => ?_⟩
    by_cases e : j = b
    · rw [e]; exact h3
    · rw [g j hj e]; exact k2 j (by omega)
  · refine Or.inr ⟨j, by omega, by rw [h1]; exact k1, by rw [h2 j hj]; exact k2, fun i a1 a2 => ?_⟩
    by_cases e : i = b
    · rw [e]; exact h3
    · rw [g i a2 e]; exact k3 i a1 (by omega)
theorem m9_lt : (-9 : Int32) < 0 := by decide
theorem S2_step {C D : mM} {k r n B c b : Nat} {f : Int32} (hk : kof k = 8) (hr : 165 ≤ r ∧ r ≤ 167) (hb : b < 4) (h : S2 k r n B c b C D) : S2 k r n B c (b + 1) (roS k f b C) (m2S r f b D) := by
  obtain ⟨⟨hPL, hV, ec⟩, hR, hL, hH, hG⟩ := h
  have hn := hPL.1.1
  have hk7 := k8_ge hk
  have hkf := k8_far hk
  obtain ⟨-, -, eN, -⟩ := PLR_n hPL
  have hdue := due_eq (b := b) (by omega) hPL hV hR hL
  have hw : (if f = 0 then wh D r b else -9) = -9 ∨ ∃ j, j < n ∧ (if f = 0 then wh D r b else -9) = nI j := by
    split
    · have := wh_rng (M := D) (r := r) (b := b)
      rw [eN] at this
      exact this
    · exact Or.inl rfl
  unfold roS m2S
  rw [hdue]
  generalize (if f = 0 then wh D r b else -9) = w at *
  have hV1 : PV (mset C 25 b w) k n ((mset D 176 b w).1 r) := PV_n hn hV (fun a h1 h2 => mset_n (by omega)) (fun j hj => by rw [mset_n (by omega)])
  have hP1 : PLR n B (mset C 25 b w) (mset D 176 b w) := PLR_c hPL (mset_n (by decide)) (mset_n (by decide)) (mset_n (by decide)) (by rw [mset_n (by decide)]) (by rw [mset_n (by decide)]) (by rw [mset_n (by decide)]) (mset_n (by decide)) (mset_n (by decide))
  have ec1 : (mset D 176 b w).1 r 51 = nI c := by rw [mset_n (by omega)]; exact ec
  have em : ∀ u, mrt (mset D 176 b w) r u = mrt D r u := fun u => mrt_c (mset_n (by decide)) (mset_n (by decide)) (by rw [mset_n (by omega)])
  have hR1 : ∀ u, u < n → ∃ x, x ≤ 9 ∧ (mset C 25 b w).1 22 u = nI x ∧ mrt (mset D 176 b w) r u = nI x := by
    intro u hu
    rw [em, mset_n (by decide)]
    exact hR u hu
  have hH1 : ∀ j, j < b + 1 → (mset C 25 b w).1 25 j = (mset D 176 b w).1 176 j := by
    intro j hj
    by_cases e : j = b
    · rw [e, mset_s, mset_s]
    · rw [mset_o e, mset_o e]; exact hH j (by omega)
  have h176 : ∀ j, j < b → (mset D 176 b w).1 176 j = D.1 176 j := fun j hj => mset_o (by omega)
  have h176b : (mset D 176 b w).1 176 b = w := mset_s
  have h23 : (mset C 25 b w).1 23 = C.1 23 := mset_n (by decide)
  have h24 : (mset C 25 b w).1 24 = C.1 24 := mset_n (by decide)
  have h177 : (mset D 176 b w).1 177 = D.1 177 := mset_n (by decide)
  unfold ro2 m2F
  rcases hw with rfl | ⟨j, hj, rfl⟩
  · rw [if_pos m9_lt, if_pos rfl]
    refine ⟨⟨hP1, hV1, ec1⟩, hR1, fun u hu => ?_, hH1, fun u hu => ?_⟩
    · exact LB_c (hL u hu) (by rw [h23]) h176 (by rw [h176b]; exact Ne.symm (nIm9 (by omega)))
    · obtain ⟨g, k1, k2, k3⟩ := hG u hu
      exact ⟨g, by omega, by rw [h24]; exact k2, by rw [h177]; exact k3⟩
  · rw [if_neg (nI_pos (by omega)), if_neg (nIm9 (by omega)), nI_clamp (by omega : j < 2 ^ 31)]
    generalize mset C 25 b (nI j) = C1 at *
    generalize mset D 176 b (nI j) = D1 at *
    obtain ⟨x, hx, x1, x2⟩ := hR1 j hj
    obtain ⟨a, ha', s1, s2, s3, s4⟩ := send_eq hr.2 hn hj hV1 hx x2
    unfold ro3
    rw [x1, s1]
    have f1 : ∀ a', a' ≠ k + 1 + 1 + j → (send C1 (k + 1 + 1 + j) (nI x)).2.1 a' = C1.1 a' := fun a' h => send_n h
    have f2 : ∀ a', a' ≠ r → a' ≠ 177 → (sds D1 r j).1 a' = D1.1 a' := fun a' g1 g2 => sds_n g1 g2
    have f3 : (sds D1 r j).1 r 51 = D1.1 r 51 := sds_51 (by omega) hr.2
    generalize (send C1 (k + 1 + 1 + j) (nI x)).2 = C2 at *
    generalize sds D1 r j = D2 at *
    have em2 : ∀ u, mrt D2 r u = mrt D1 r u := fun u => mrt_c (f2 160 (by omega) (by decide)) (f2 161 (by omega) (by decide)) f3
    refine ⟨⟨?_, ?_, ?_⟩, fun u hu => ?_, fun u hu => ?_, fun i hi => ?_, fun u hu => ?_⟩
    · refine PLR_c hP1 ?_ ?_ ?_ ?_ ?_ ?_ (f2 160 (by omega) (by decide)) (f2 161 (by omega) (by decide))
      · rw [mset_n (by decide), mset_n (by decide), f1 4 (by omega)]
      · rw [mset_n (by decide), mset_n (by decide), f1 5 (by omega)]
      · rw [mset_n (by decide), mset_n (by decide), f1 6 (by omega)]
      · rw [f2 158 (by omega) (by decide)]
      · rw [f2 158 (by omega) (by decide)]
      · rw [f2 158 (by omega) (by decide)]
    · exact PV_n hn s2 (fun a' g1 g2 => by rw [mset_n (by omega), mset_n (by omega)]) (fun _ _ => rfl)
    · rw [f3]; exact ec1
    · rw [mset_n (by decide), mset_n (by decide), f1 22 (by omega), em2]
      exact hR1 u hu
    · by_cases e : u = j
      · subst e
        refine Or.inr ⟨b, by omega, mset_s, ?_, fun i a1 a2 => by omega⟩
        rw [f2 176 (by omega) (by decide)]
        exact h176b
      · refine LB_c (hL u hu) ?_ ?_ ?_
        · rw [mset_o e, mset_n (by decide), f1 23 (by omega), h23]
        · intro i hi
          rw [f2 176 (by omega) (by decide)]
          exact h176 i hi
        · rw [f2 176 (by omega) (by decide), h176b, Ne, nI_eq (by omega) (by omega)]
          exact Ne.symm e
    · rw [mset_n (by decide), mset_n (by decide), f1 25 (by omega), f2 176 (by omega) (by decide)]
      exact hH1 i hi
    · obtain ⟨g, k1, k2, k3⟩ := hG u hu
      by_cases e : u = j
      · subst e
        refine ⟨g + a, by omega, ?_, ?_⟩
        · rw [mset_n (by decide), mset_s, h24, k2, nI_add]
        · rw [s3, h177, k3, nI_add]
      · refine ⟨g, by omega, ?_, ?_⟩
        · rw [mset_n (by decide), mset_o e, f1 24 (by omega), h24]; exact k2
        · rw [s4 u e, h177]; exact k3
/-! the end of a slot -/
def S3 (k r n B c i : Nat) (p : Int32 × mM) (q : Int32 × mM) : Prop := (PLR n B p.2 q.2 ∧ PV p.2 k n (q.2.1 r) ∧ q.2.1 r 51 = nI c) ∧ (∀ u, u < n → LB p.2 q.2 u B) ∧ (∀ j, j < B → p.2.1 25 j = q.2.1 176 j) ∧ (∀ u, u < n → ∃ g, g ≤ 36 ∧ p.2.1 24 u = nI g ∧ q.2.1 177 u = nI g) ∧ ∃ T, T ≤ 36 * i ∧ p.1 = nI T ∧ q.1 = nI T
theorem z01 : ((0 : Int32) = 1) = False := by decide
theorem sh_s : ∀ s, s ≤ 4 → ((nI s &&& 31).toBitVec.smod 32).toNat = s := by decide +kernel
theorem mean_v {m g s : Nat} (hm : m ≤ 576) (hg : g ≤ 36) (h1 : 1 ≤ s) (h4 : s ≤ 4) : ∃ v, v ≤ 576 ∧ nI m - (nI m >>> (nI s &&& 31)) + ((16 * nI g) >>> (nI s &&& 31)) = nI v ∧ nI m + ((16 * nI g) >>> (nI s &&& 31) - nI m >>> (nI s &&& 31)) = nI v := by
  have hs := sh_s s h4
  have e1 : nI m >>> (nI s &&& 31) = nI (m / 2 ^ s) := pk_shrN (by omega) _ s hs
  have e2 : (16 * nI g) >>> (nI s &&& 31) = nI (16 * g / 2 ^ s) := by
    rw [show (16 : Int32) = nI 16 from rfl, pk_mul]
    exact pk_shrN (by omega) _ s hs
  have hle : m / 2 ^ s ≤ m := Nat.div_le_self _ _
  have hb : m - m / 2 ^ s + 16 * g / 2 ^ s ≤ 576 := by
    have : s = 1 ∨ s = 2 ∨ s = 3 ∨ s = 4 := by omega
    rcases this with rfl | rfl | rfl | rfl <;> simp only [show (2:Nat) ^ 1 = 2 from rfl, show (2:Nat) ^ 2 = 4 from rfl, show (2:Nat) ^ 3 = 8 from rfl, show (2:Nat) ^ 4 = 16 from rfl] <;> omega
  have e3 : nI m - nI (m / 2 ^ s) + nI (16 * g / 2 ^ s) = nI (m - m / 2 ^ s + 16 * g / 2 ^ s) := by rw [pk_sub hle, nI_add]
  refine ⟨_, hb, by rw [e1, e2, e3], ?_⟩
  rw [e1, e2, ← e3, Int32.sub_eq_add_neg, Int32.sub_eq_add_neg, Int32.add_assoc, Int32.add_comm (-nI (m / 2 ^ s))]
theorem S3_step {p q : Int32 × mM} {k r n B c i : Nat} (hk : kof k = 8) (hr : 165 ≤ r ∧ r ≤ 167) (hi : i < n) (h : S3 k r n B c i p q) : S3 k r n B c (i + 1) (esS k i p) (m3S r B i q) := by
  obtain ⟨s, C⟩ := p
  obtain ⟨t, D⟩ := q
  obtain ⟨⟨hPL, hV, ec⟩, hL, hH, hG, T, hT, eT, eT'⟩ := h
  simp only at hPL hV ec hL hH hG eT eT'
  subst eT eT'
  have hn := hPL.1.1
  have hB := hPL.2.1.1
  have hk7 := k8_ge hk
  have hkf := k8_far hk
  obtain ⟨g, hg, g1, g2⟩ := hG i hi
  obtain ⟨sh, s1, s4, e41, e5⟩ := hPL.2.2.1
  obtain ⟨m, hm, em⟩ := VF6.mp (PV_v hV hi (by decide))
  obtain ⟨v, hv, v1, v2⟩ := mean_v hm hg s1 s4
  have eA : esA C (k + 1 + 1 + i) i = mset C (k + 1 + 1 + i) 6 (nI v) := by
    unfold esA
    rw [PV_e hV hi (by decide), em, e41, g1, v1]
  have eA' : m3A D r i = mset D r (10 * i + 6) (nI v) := by
    unfold m3A
    rw [em, e5, g2, v2]
  have hV1 : PV (mset C (k + 1 + 1 + i) 6 (nI v)) k n ((mset D r (10 * i + 6) (nI v)).1 r) := by
    rw [mset_1]
    exact PV_up hV (by omega) (by decide) (VF6.mpr ⟨v, hv, rfl⟩)
  have c23 : (mset C (k + 1 + 1 + i) 6 (nI v)).1 23 = C.1 23 := mset_n (by omega)
  have c24 : (mset C (k + 1 + 1 + i) 6 (nI v)).1 24 = C.1 24 := mset_n (by omega)
  have c25 : (mset C (k + 1 + 1 + i) 6 (nI v)).1 25 = C.1 25 := mset_n (by omega)
  have d176 : (mset D r (10 * i + 6) (nI v)).1 176 = D.1 176 := mset_n (by omega)
  have d177 : (mset D r (10 * i + 6) (nI v)).1 177 = D.1 177 := mset_n (by omega)
  have hP1 : PLR n B (mset C (k + 1 + 1 + i) 6 (nI v)) (mset D r (10 * i + 6) (nI v)) := PLR_c hPL (mset_n (by omega)) (mset_n (by omega)) (mset_n (by omega)) (by rw [mset_n (by omega)]) (by rw [mset_n (by omega)]) (by rw [mset_n (by omega)]) (mset_n (by omega)) (mset_n (by omega))
  have ec1 : (mset D r (10 * i + 6) (nI v)).1 r 51 = nI c := by rw [mset_o (by omega)]; exact ec
  have hL1 : ∀ u, u < n → LB (mset C (k + 1 + 1 + i) 6 (nI v)) (mset D r (10 * i + 6) (nI v)) u B := by
    intro u hu
    unfold LB
    rw [c23, d176]
    exact hL u hu
  unfold esS m3S
  simp only
  rw [eA, eA']
  generalize mset C (k + 1 + 1 + i) 6 (nI v) = C1 at *
  generalize mset D r (10 * i + 6) (nI v) = D1 at *
  have eW : (if rst C1 (k + 1 + 1 + i) i = 0 then C1.1 (k + 1 + 1 + i) 7 + 1 else 0) = m3W D1 r i B := by
    obtain ⟨a4, h4, e4⟩ := VF4.mp (PV_v hV1 hi (by decide))
    obtain ⟨a5, h5, e5'⟩ := VF5.mp (PV_v hV1 hi (by decide))
    have h0 := ha_0 h4 h5 e4 e5'
    have hl := LB_hs hB (hL1 i hi)
    unfold rst m3W
    rw [PV_e hV1 hi (show 3 < 10 by decide), PV_e hV1 hi (show 4 < 10 by decide), PV_e hV1 hi (show 5 < 10 by decide), PV_e hV1 hi (show 7 < 10 by decide), e4, e5']
    by_cases k1 : C1.1 23 i = -1
    · rw [if_pos k1, if_pos (hl.mp k1)]
      rcases VF3.mp (PV_v hV1 hi (by decide)) with k2 | k2
      · by_cases k3 : a4 = 0 ∧ a5 = 0
        · have k4 : nI a4 + nI a5 = 0 := by rw [k3.1, k3.2]; decide
          simp only [k2, k4, h0.mpr k3, if_true, one0, z01, if_false]
        · have k4 : ¬ nI a4 + nI a5 = 0 := by rw [nI_add]; exact nI_ne0 (by omega) (by omega)
          have k5 : ¬ ha D1 r i = 0 := fun w => k3 (h0.mp w)
          simp only [k2, if_neg k4, if_neg k5, if_true, z01, if_false]
      · simp only [k2, one0, if_false, if_true]
    · rw [if_neg k1, if_neg (by decide), if_neg (fun w => k1 (hl.mpr w))]
  unfold esB
  rw [eW]
  generalize m3W D1 r i B = w
  have hV2 : PV (mset C1 (k + 1 + 1 + i) 7 w) k n ((mset D1 r (10 * i + 7) w).1 r) := by
    rw [mset_1]
    exact PV_up hV1 (by omega) (by decide) VF7
  refine ⟨⟨?_, hV2, ?_⟩, fun u hu => ?_, fun j hj => ?_, fun u hu => ?_, T + g, by omega, ?_, ?_⟩
  · exact PLR_c hP1 (mset_n (by omega)) (mset_n (by omega)) (mset_n (by omega)) (by rw [mset_n (by omega)]) (by rw [mset_n (by omega)]) (by rw [mset_n (by omega)]) (mset_n (by omega)) (mset_n (by omega))
  · rw [mset_o (by omega)]; exact ec1
  · have := hL1 u hu
    unfold LB at this ⊢
    rw [mset_n (by omega), mset_n (by omega)]
    exact this
  · rw [mset_n (by omega), mset_n (by omega), c25, d176]
    exact hH j hj
  · rw [mset_n (by omega), mset_n (by omega), c24, d177]
    exact hG u hu
  · rw [mset_n (by omega), c24, g1, nI_add]
  · rw [g2, nI_add]
theorem PV_clk {C : mM} {k n : Nat} {g : Nat → Int32} {v : Int32} (hn : n ≤ 5) (h : PV C k n g) : PV (mset C k 2 v) k n (upd g 51 v) := by
  refine ⟨fun u hu f hf => ?_, ?_, ?_⟩
  · rw [mset_n (by omega), pk_un (by omega)]
    exact h.1 u hu f hf
  · rw [mset_o (by decide), pk_un (by decide)]
    exact h.2.1
  · rw [mset_s, pk_us]
theorem slot_eq {C D : mM} {k r n B c : Nat} {f : Int32} (hk : kof k = 8) (hr : 165 ≤ r ∧ r ≤ 167) (hc : c < 2 ^ 30) (hPL : PLR n B C D) (hV : PV C k n (D.1 r)) (ec : D.1 r 51 = nI c) : (∃ T, T ≤ 180 ∧ (ro C k f).1 = nI T ∧ (so D r f).1 = nI T) ∧ PLR n B (ro C k f).2 (so D r f).2 ∧ PV (ro C k f).2 k n ((so D r f).2.1 r) ∧ (so D r f).2.1 r 51 = nI (c + 1) ∧ ∀ j, j < B → (ro C k f).2.1 25 j = (so D r f).2.1 176 j := by
  have hn := hPL.1.1
  have hB := hPL.2.1.1
  have hk7 := k8_ge hk
  obtain ⟨n1, n2, n3, n4⟩ := PLR_n hPL
  have a1 : S1 k r n B c (0 + n) (itr (ciS k) 0 n C) (itr (m1S r) 0 n D) := itr_rel (ciS k) (m1S r) (S1 k r n B c) n 0 C D (fun j s t _ h2 h => S1_step hk hr (by omega) (by omega) h) ⟨hPL, hV, ec, fun u hu => by omega⟩
  rw [Nat.zero_add] at a1
  have a2 : S2 k r n B c 0 (itr (ciS k) 0 n C) (itr (m1S r) 0 n D) := by
    obtain ⟨h1, h2, h3, h4⟩ := a1
    exact ⟨⟨h1, h2, h3⟩, fun u hu => (h4 u hu).1, fun u hu => Or.inl ⟨(h4 u hu).2.1, fun j hj => by omega⟩, fun j hj => by omega, fun u hu => ⟨0, by omega, (h4 u hu).2.2.1, (h4 u hu).2.2.2⟩⟩
  have a3 := itr_rel (roS k f) (m2S r f) (S2 k r n B c) B 0 _ _ (fun j s t _ h2 h => S2_step hk hr (by omega) h) a2
  rw [Nat.zero_add] at a3
  have ero : ro C k f = endSlot (itr (roS k f) 0 B (itr (ciS k) 0 n C)) k := by
    unfold ro comeIn
    rw [n1, n2]
  have eso : so D r f = m3F r (itr (m3S r B) 0 n (0, itr (m2S r f) 0 B (itr (m1S r) 0 n D))) := by
    unfold so
    rw [n3, n4]
  rw [ero, eso]
  generalize itr (roS k f) 0 B (itr (ciS k) 0 n C) = C2 at *
  generalize itr (m2S r f) 0 B (itr (m1S r) 0 n D) = D2 at *
  have n5' : nU C2 = n := (PLR_n a3.1.1).1
  have a4 : S3 k r n B c 0 (0, C2) (0, D2) := ⟨a3.1, a3.2.2.1, a3.2.2.2.1, fun u hu => by
    obtain ⟨g, k1, k2, k3⟩ := a3.2.2.2.2 u hu
    exact ⟨g, by omega, k2, k3⟩, 0, by omega, rfl, rfl⟩
  have a5 := itr_rel (esS k) (m3S r B) (S3 k r n B c) n 0 _ _ (fun j s t _ h2 h => S3_step hk hr (by omega) h) a4
  rw [Nat.zero_add] at a5
  unfold endSlot
  rw [n5']
  generalize itr (esS k) 0 n (0, C2) = p3 at *
  generalize itr (m3S r B) 0 n (0, D2) = q3 at *
  obtain ⟨⟨b1, b2, b3⟩, -, b5, -, T, hT, eT, eT'⟩ := a5
  unfold esF m3F
  simp only
  refine ⟨⟨T, by omega, eT, eT'⟩, ?_, ?_, ?_, fun j hj => ?_⟩
  · exact PLR_c b1 (mset_n (by omega)) (mset_n (by omega)) (mset_n (by omega)) (by rw [mset_n (by omega)]) (by rw [mset_n (by omega)]) (by rw [mset_n (by omega)]) (mset_n (by omega)) (mset_n (by omega))
  · rw [mset_1, b2.2.2]
    exact PV_clk hn b2
  · rw [mset_s, b3, nI_1]
  · have hkf := k8_far hk
    rw [mset_n (by omega), mset_n (by omega)]
    exact b5 j hj
