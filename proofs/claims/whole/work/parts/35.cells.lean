/-! a cell read: class and model -/
theorem fig_v {M : mM} {t q : Nat} {X : Nat → Nat} (hL : LT M t X) (hq : q < t) (h48 : 48 ≤ X q) : fig M (nI q) = nI (X q - 48) := by
  have ht := hL.2.1
  unfold fig
  rw [hL.1, if_neg (nI_ge hq (by omega)), nI_clamp (by omega), (hL.2.2 q hq).2]
  exact pk_sub (b := 48) h48
theorem LT_c {M M' : mM} {t : Nat} {X : Nat → Nat} (h : LT M t X) (h1 : M'.1 1 = M.1 1) (h2 : M'.1 2 = M.1 2) : LT M' t X := by
  unfold LT at h ⊢
  rw [h1, h2]
  exact h
theorem setR_v {M : mM} {u l : Nat} {r : Int32} (hu : u < 5) (hl : l ≤ 5) : setR M (nI u) (nI l) r = mset (mset M 5 (6 * u + l) r) 6 u (nI (l + 1)) := by
  unfold setR
  have w1 : ¬ wi (nI u) 0 4 = 0 := fun q => (wi_0 (a := 0) (b := 4) (by omega) (by decide) (by decide)).mp q ⟨by omega, by omega⟩
  have w2 : ¬ wi (nI l) 0 5 = 0 := fun q => (wi_0 (a := 0) (b := 5) (by omega) (by decide) (by decide)).mp q ⟨by omega, by omega⟩
  rw [if_neg w1, if_neg w2, show (6 : Int32) = nI 6 from rfl, pk_mul, nI_add, nI_clamp (by omega), nI_clamp (by omega), nI_1, show u * 6 + l = 6 * u + l by omega]
theorem rr_eq {t q u m : Nat} {X : Nat → Nat} (hu : u < 5) (hm : m ≤ 6) (hq : q + m < t) (h46 : X (q + m) = 46) (hd : ∀ l, l < m → 48 ≤ X (q + l) ∧ X (q + l) ≤ 57) : ∀ (r l : Nat) (M : mM), l + r = m → LT M t X → M.1 4 2 = nI u → ∃ M', rrL q (t - (q + l)) (q + l) M = (q + m, M') ∧ (∀ a, a ≠ 5 → a ≠ 6 → M'.1 a = M.1 a) ∧ M'.2 = M.2 ∧ (∀ i, l ≤ i → i < m → M'.1 5 (6 * u + i) = nI (X (q + i) - 48)) ∧ (∀ j, j < 6 * u + l ∨ 6 * u + m ≤ j → M'.1 5 j = M.1 5 j) ∧ (∀ j, j ≠ u → M'.1 6 j = M.1 6 j) ∧ M'.1 6 u = if l < m then nI m else M.1 6 u := by
  intro r
  induction r with
  | zero =>
    intro l M hl hL e4
    obtain rfl : l = m := by omega
    have e46 : M.1 2 (q + l) = 46 := by rw [(hL.2.2 (q + l) hq).2, h46]; rfl
    obtain ⟨k, hk⟩ : ∃ k, t - (q + l) = k + 1 := ⟨t - (q + l) - 1, by omega⟩
    refine ⟨M, ?_, fun _ _ _ => rfl, rfl, fun i h1 h2 => by omega, fun _ _ => rfl, fun _ _ => rfl, ?_⟩
    · rw [hk, rrL, if_pos e46]
    · rw [if_neg (by omega)]
  | succ r ih =>
    intro l M hl hL e4
    have ht := hL.2.1
    have hdl := hd l (by omega)
    have hx := (hL.2.2 (q + l) (by omega)).1
    have e46 : ¬ M.1 2 (q + l) = 46 := by
      rw [(hL.2.2 (q + l) (by omega)).2]
      exact fun w => by have := (nI_eq (b := 46) (by omega) (by decide)).mp w; omega
    obtain ⟨k, hk⟩ : ∃ k, t - (q + l) = k + 1 := ⟨t - (q + l) - 1, by omega⟩
    have es : setR M (M.1 4 2) (nI (q + l) - nI q) (fig M (nI (q + l))) = mset (mset M 5 (6 * u + l) (nI (X (q + l) - 48))) 6 u (nI (l + 1)) := by
      rw [e4, fig_v hL (by omega) hdl.1, pk_sub (by omega), show q + l - q = l by omega, setR_v hu (by omega)]
    obtain ⟨M', k1, k2, k3, k4, k5, k6, k7⟩ := ih (l + 1) (mset (mset M 5 (6 * u + l) (nI (X (q + l) - 48))) 6 u (nI (l + 1))) (by omega) (LT_c hL (by rw [mset_n (by decide), mset_n (by decide)]) (by rw [mset_n (by decide), mset_n (by decide)])) (by rw [mset_n (by decide), mset_n (by decide)]; exact e4)
    refine ⟨M', ?_, fun a h1 h2 => ?_, ?_, fun i h1 h2 => ?_, fun j hj => ?_, fun j hj => ?_, ?_⟩
    · rw [hk, rrL, if_neg e46, es]
      rw [show t - (q + (l + 1)) = k by omega, show q + (l + 1) = q + l + 1 from rfl] at k1
      exact k1
    · rw [k2 a h1 h2, mset_n h2, mset_n h1]
    · rw [k3]; rfl
    · by_cases e : i = l
      · subst e
        rw [k5 _ (by omega), mset_n (by decide), mset_s]
      · exact k4 i (by omega) h2
    · rw [k5 j (by omega), mset_n (by decide), mset_o (by omega)]
    · rw [k6 j hj, mset_o hj, mset_n (by decide)]
    · rw [k7, if_pos (by omega : l < m)]
      by_cases e : l + 1 < m
      · rw [if_pos e]
      · rw [if_neg e, mset_s, show l + 1 = m by omega]
theorem bgn_s {M : mM} {k f : Nat} {x y z : Int32} (hf : f < 10) : (bgn M k x y z).1 k f = if f = 0 then x else if f = 1 then y else if f = 2 then z else 0 := by
  have : f = 0 ∨ f = 1 ∨ f = 2 ∨ f = 3 ∨ f = 4 ∨ f = 5 ∨ f = 6 ∨ f = 7 ∨ f = 8 ∨ f = 9 := by omega
  unfold bgn
  rcases this with rfl | rfl | rfl | rfl | rfl | rfl | rfl | rfl | rfl | rfl <;> simp [mset_get]
def CU (u : Nat) (M D : mM) : Prop := (M.1 4 2 = nI u ∧ D.1 158 12 = nI u) ∧ (∀ v, v < u → ∃ m, 1 ≤ m ∧ m ≤ 6 ∧ M.1 6 v = nI m ∧ D.1 163 v = nI m ∧ ∀ i, i < m → ∃ x, x ≤ 9 ∧ M.1 5 (6 * v + i) = nI x ∧ D.1 162 (6 * v + i) = nI x) ∧ (∀ v, v < u → ∀ f, f < 10 → M.1 (9 + v) f = D.1 164 (10 * v + f) ∧ VF f (D.1 164 (10 * v + f))) ∧ (∀ j, 10 * u ≤ j → j < 50 → D.1 164 j = 0)
def CK (M M' : mM) : Prop := (∀ a, a ≠ 4 → a ≠ 5 → a ≠ 6 → (a < 9 ∨ 13 < a) → M'.1 a = M.1 a) ∧ (∀ j, j ≠ 2 → M'.1 4 j = M.1 4 j) ∧ M'.2 = M.2 ∧ (OF M → OF M') ∧ ((∀ v, v < 5 → ∃ m, m ≤ 6 ∧ M.1 6 v = nI m) → ∀ v, v < 5 → ∃ m, m ≤ 6 ∧ M'.1 6 v = nI m)
theorem CK_r {M : mM} : CK M M := ⟨fun _ _ _ _ _ => rfl, fun _ _ => rfl, rfl, fun h => h, fun h => h⟩
theorem CK_t {M M' M'' : mM} (h : CK M M') (h' : CK M' M'') : CK M M'' := ⟨fun a h1 h2 h3 h4 => (h'.1 a h1 h2 h3 h4).trans (h.1 a h1 h2 h3 h4), fun j hj => (h'.2.1 j hj).trans (h.2.1 j hj), h'.2.2.1.trans h.2.2.1, fun q => h'.2.2.2.1 (h.2.2.2.1 q), fun q => h'.2.2.2.2 (h.2.2.2.2 q)⟩
theorem cu_step {C D D' M : mM} {t p u m : Nat} {X : Nat → Nat} (hL : LT M t X) (hU : UOK C D D' t p u m X) (hc : CU u M D) : (rdI M p).1 + 1 = p + 5 + m ∧ CU (u + 1) (rdN (rdI M p).2) D' ∧ CK M (rdN (rdI M p).2) := by
  obtain ⟨m1, m6, hu, hp, -, e12, -, -, ⟨h46, hd⟩, e163, ⟨⟨a1, a2, a3⟩, ⟨b1, b2, b3⟩, d1, d2, d3⟩, f162, f163, f164⟩ := hU
  obtain ⟨⟨c1, c2⟩, c3, c4, c5⟩ := hc
  have ht := hL.2.1
  have enT : nT M = t := by unfold nT; rw [hL.1, nI_clamp (by omega)]
  have ecu : (M.1 4 2).toNatClampNeg = u := by rw [c1, nI_clamp (by omega)]
  have hx1 := (hL.2.2 (p + 1) (by omega)).1
  have hx2 := (hL.2.2 (p + 2) (by omega)).1
  have hx3 := (hL.2.2 (p + 3) (by omega)).1
  have eB : rdB M p = bgn M (9 + u) (nI (X (p + 1) - 48)) (nI (X (p + 2) - 48)) (nI (X (p + 3) - 48)) := by
    unfold rdB
    rw [ecu, fig_v hL (by omega) a1, fig_v hL (by omega) (by omega), fig_v hL (by omega) d1]
  have nB' : ∀ a, a ≠ 9 + u → (rdB M p).1 a = M.1 a := fun a h => by rw [eB, bgn_n h]
  obtain ⟨M', k1, k2, k3, k4, k5, k6, k7⟩ := rr_eq (t := t) (q := p + 4) (u := u) (m := m) (X := X) hu m6 (by omega) h46 (fun l hl => ⟨(hd l hl).1, (hd l hl).2.1⟩) m 0 (rdB M p) (by omega) (LT_c hL (nB' 1 (by omega)) (nB' 2 (by omega))) (by rw [nB' 4 (by omega)]; exact c1)
  rw [Nat.add_zero] at k1
  have eI : rdI M p = (p + 4 + m, M') := by unfold rdI; rw [enT]; exact k1
  rw [eI]
  have g4 : M'.1 4 = M.1 4 := (k2 4 (by decide) (by decide)).trans (nB' 4 (by omega))
  have g5 : ∀ j, j < 6 * u ∨ 6 * u + m ≤ j → M'.1 5 j = M.1 5 j := fun j hj => by rw [k5 j (by omega), nB' 5 (by omega)]
  have g6 : ∀ j, j ≠ u → M'.1 6 j = M.1 6 j := fun j hj => by rw [k6 j hj, nB' 6 (by omega)]
  have g6u : M'.1 6 u = nI m := by rw [k7, if_pos (by omega)]
  have gA : ∀ a, a ≠ 5 → a ≠ 6 → a ≠ 9 + u → M'.1 a = M.1 a := fun a h1 h2 h3 => (k2 a h1 h2).trans (nB' a h3)
  have gU : ∀ f, f < 10 → M'.1 (9 + u) f = if f = 0 then nI (X (p + 1) - 48) else if f = 1 then nI (X (p + 2) - 48) else if f = 2 then nI (X (p + 3) - 48) else 0 := fun f hf => by rw [k2 (9 + u) (by omega) (by omega), eB, bgn_s hf]
  unfold rdN
  rw [show (p + 4 + m, M').2 = M' from rfl, g4, c1, nI_1]
  refine ⟨by omega, ⟨⟨mset_s, e12⟩, fun v hv => ?_, fun v hv f hf => ?_, fun j h1 h2 => ?_⟩, ⟨fun a h1 h2 h3 h4 => ?_, fun j hj => ?_, ?_, fun hOF => ?_, fun h v hv => ?_⟩⟩
  · rw [mset_n (by decide), mset_n (by decide)]
    by_cases e : v = u
    · subst e
      refine ⟨m, m1, m6, g6u, e163, fun i hi => ?_⟩
      have := hd i hi
      exact ⟨X (p + 4 + i) - 48, by omega, k4 i (by omega) hi, this.2.2⟩
    · obtain ⟨m', q1, q2, q3, q4, q5⟩ := c3 v (by omega)
      refine ⟨m', q1, q2, by rw [g6 v e]; exact q3, by rw [f163 v e]; exact q4, fun i hi => ?_⟩
      obtain ⟨x, x1, x2, x3⟩ := q5 i hi
      exact ⟨x, x1, by rw [g5 _ (by omega)]; exact x2, by rw [f162 _ (by omega)]; exact x3⟩
  · rw [mset_n (by omega)]
    by_cases e : v = u
    · subst e
      rw [gU f hf]
      by_cases e0 : f = 0
      · subst e0
        rw [if_pos rfl]
        exact ⟨a3.symm, VF0.mpr ⟨X (p + 1) - 48, by omega, a3⟩⟩
      · rw [if_neg e0]
        by_cases e1 : f = 1
        · subst e1
          rw [if_pos rfl]
          exact ⟨b3.symm, VF1.mpr ⟨X (p + 2) - 48, by omega, by omega, b3⟩⟩
        · rw [if_neg e1]
          by_cases e2 : f = 2
          · subst e2
            rw [if_pos rfl]
            exact ⟨d3.symm, VF2⟩
          · rw [if_neg e2]
            have ez : D'.1 164 (10 * v + f) = 0 := by rw [f164 _ (by omega)]; exact c5 _ (by omega) (by omega)
            rw [ez]
            refine ⟨rfl, ?_⟩
            have : f = 3 ∨ f = 4 ∨ f = 5 ∨ f = 6 ∨ f = 7 ∨ f = 8 ∨ f = 9 := by omega
            rcases this with rfl | rfl | rfl | rfl | rfl | rfl | rfl
            · exact VF3.mpr (Or.inl rfl)
            · exact VF4.mpr ⟨0, by omega, rfl⟩
            · exact VF5.mpr ⟨0, by omega, rfl⟩
            · exact VF6.mpr ⟨0, by omega, rfl⟩
            · exact VF7
            · exact VF8
            · exact VF9
    · rw [gA (9 + v) (by omega) (by omega) (by omega), f164 _ (by omega)]
      exact c4 v (by omega) f hf
  · rw [f164 _ (by omega)]
    exact c5 j (by omega) h2
  · rw [mset_n h1]
    exact gA a h2 h3 (by omega)
  · rw [mset_o hj, g4]
  · show M'.2 = M.2
    rw [k3, eB]
    rfl
  · refine OF_mset ?_ (by decide +kernel)
    intro a ha'
    by_cases e : a = 9 + u
    · rw [e, gU 3 (by decide)]
      exact Or.inl rfl
    · rw [gA a (kne (by rw [ha']; decide +kernel)) (kne (by rw [ha']; decide +kernel)) e]
      exact hOF a ha'
  · rw [mset_n (by decide)]
    by_cases e : v = u
    · rw [e]; exact ⟨m, m6, g6u⟩
    · rw [g6 v e]; exact h v hv
theorem fgr_2 {M : mM} {a b : Int32} : (fgr M a b).2.2 = M.2 := by unfold fgr; split <;> rfl
theorem ruX_2 {q : Int32 × mM} {a b : Int32} : (ruX q a b).2.2 = q.2.2 := by
  unfold ruX
  split
  · rfl
  · exact fgr_2
theorem rlL_2 {u : Nat} : ∀ (k : Nat) (v : Int32) (M : mM), (rlL u k v M).2 = M.2
  | 0, _, _ => rfl
  | k + 1, v, M => by
    rw [rlL]
    split
    · rfl
    · split
      · rfl
      · rw [rlL_2 k, fgr_2]; rfl
theorem rus_2 {M : mM} : (rus M).2.2 = M.2 := by
  unfold rus
  split
  · rfl
  · split
    · generalize (M.1 158 12).toNatClampNeg = u
      have e1 : (mset M 158 3 (M.1 158 3 + 1)).2 = M.2 := rfl
      generalize mset M 158 3 (M.1 158 3 + 1) = M1 at *
      unfold ru1
      have f1 : (fgr M1 0 9).2.2 = M.2 := by rw [fgr_2]; exact e1
      generalize fgr M1 0 9 = q1 at *
      have f2 : (ruX q1 1 9).2.2 = M.2 := by rw [ruX_2]; exact f1
      generalize ruX q1 1 9 = q2 at *
      have f3 : (ruX q2 0 9).2.2 = M.2 := by rw [ruX_2]; exact f2
      generalize ruX q2 0 9 = q3 at *
      have f4 : (ruX q3 0 9).2.2 = M.2 := by rw [ruX_2]; exact f3
      generalize ruX q3 0 9 = q4 at *
      unfold ru5
      split
      · exact f4
      · have f5 : (rlL u 6 q4.1 (mset q4.2 163 u 0)).2 = M.2 := by rw [rlL_2, mset_2a]; exact f4
        generalize rlL u 6 q4.1 (mset q4.2 163 u 0) = M5 at *
        unfold ru6
        split
        · exact f5
        · split
          · unfold ruZ
            rw [mset_2a, mset_2a, mset_2a, mset_2a, mset_2a]
            exact f5
          · exact f5
    · rfl
theorem rh3_2 {M : mM} : (rh3 M).2.2 = M.2 := by
  unfold rh3
  split
  · rfl
  · rw [rh4_n, mset_2a, fgr_2]
theorem rh2_2 {M : mM} : (rh2 M).2.2 = M.2 := by
  unfold rh2
  split
  · rw [rh3_2]; rfl
  · rw [rh3_2, mset_2a, fgr_2]
theorem rhd_2 {M : mM} : (rhd M).2.2 = M.2 := by
  unfold rhd
  split
  · rfl
  · split
    · unfold rh1
      rw [rh2_2, mset_2a, fgr_2]; rfl
    · rfl
/-- what reading may change of the model -/
def DK (D D' : mM) : Prop := (∀ a j, (a ≠ 158 ∨ (j ≠ 3 ∧ j ≠ 12)) → a ≠ 162 → a ≠ 163 → a ≠ 164 → D'.1 a j = D.1 a j) ∧ D'.2 = D.2 ∧ D'.1 164 50 = D.1 164 50 ∧ D'.1 164 51 = D.1 164 51
theorem DK_t {D D' D'' : mM} (h : DK D D') (h' : DK D' D'') : DK D D'' := ⟨fun a j h1 h2 h3 h4 => (h'.1 a j h1 h2 h3 h4).trans (h.1 a j h1 h2 h3 h4), h'.2.1.trans h.2.1, h'.2.2.1.trans h.2.2.1, h'.2.2.2.trans h.2.2.2⟩
theorem users_eq {C : mM} {t : Nat} {X : Nat → Nat} (hL : LT C t X) : ∀ (k u p : Nat) (M D : mM), u + k = 6 → u ≤ 5 → p ≤ t → LT M t X → MT D t X → D.1 158 3 = nI p → CU u M D → (rcL k D).1 = ff C (t - p) 4 (nI u) p ∧ ((rcL k D).1 = -9 → (∃ n, n ≤ 5 ∧ CU n (rdL k p M) (rcL k D).2) ∧ CK M (rdL k p M) ∧ DK D (rcL k D).2) ∧ (∀ a j, (a ≠ 158 ∨ (j ≠ 3 ∧ j ≠ 12)) → a ≠ 162 → a ≠ 163 → a ≠ 164 → (rcL k D).2.1 a j = D.1 a j) ∧ (rcL k D).2.2 = D.2 := by
  have ht := hL.2.1
  intro k
  induction k with
  | zero => intro u p M D h1 h2; omega
  | succ k ih =>
    intro u p M D h1 h2 hp hLM hM ep hc
    have enT : nT M = t := by unfold nT; rw [hLM.1, nI_clamp (by omega)]
    rw [rcL, rdL, hM.1, ep, enT, hc.1.1]
    by_cases g : p < t
    · rw [if_neg (nI_ge g (by omega)), if_neg (show ¬ t ≤ p by omega)]
      have hf := rus_f ht g h2 hM.1 ep hc.1.2
      rcases user_eq hL hM g h2 ep hc.1.2 with ⟨u1, u2, j, hj, u3⟩ | ⟨u1, m, hU⟩
      · rw [if_pos u1]
        refine ⟨u2.symm, fun q => ?_, hf.2.1, rus_2⟩
        exact absurd (u3.symm.trans q) (nIm9 (by omega))
      · rw [if_neg u1]
        have hU' := hU
        obtain ⟨m1, m6, hu5, hpm, ep', e12, hM', eff, -, -, -, -, -, f164⟩ := hU
        obtain ⟨s1, s2, s3⟩ := cu_step hLM hU' hc
        have hus : ¬ (5 : Int32) ≤ nI u := nI_ge (b := 5) (by omega) (by decide)
        rw [if_neg hus, s1]
        obtain ⟨i1, i2, i3, i4⟩ := ih (u + 1) (p + 5 + m) _ (rus D).2 (by omega) (by omega) hpm (LT_c hLM (s3.1 1 (by decide) (by decide) (by decide) (by omega)) (s3.1 2 (by decide) (by decide) (by decide) (by omega))) hM' ep' s2
        refine ⟨i1.trans eff.symm, fun q => ?_, fun a j q1 q2 q3 q4 => (i3 a j q1 q2 q3 q4).trans (hf.2.1 a j q1 q2 q3 q4), i4.trans rus_2⟩
        obtain ⟨j1, j2, j3⟩ := i2 q
        exact ⟨j1, CK_t s3 j2, DK_t ⟨hf.2.1, rus_2, f164 50 (by omega), f164 51 (by omega)⟩ j3⟩
    · have e : p = t := by omega
      rw [if_pos (nI_le (show t ≤ p by omega) (by omega)), if_pos (show t ≤ p by omega)]
      refine ⟨?_, fun _ => ⟨⟨u, h2, hc⟩, CK_r, fun _ _ _ _ _ _ => rfl, rfl, rfl, rfl⟩, fun _ _ _ _ _ _ => rfl, rfl⟩
      rw [show t - p = 0 by omega, ff, if_pos rfl]
theorem TX_LT {C D : mM} (h : TXR C D) : ∃ t X, LT C t X ∧ MT D t X := by
  obtain ⟨t, t1, t2, t3, t4⟩ := h
  refine ⟨t, fun i => (C.1 2 i).toNatClampNeg, ⟨t2, t1, fun i hi => ?_⟩, t3, fun i hi => ?_⟩
  · obtain ⟨x, x1, x2, x3⟩ := t4 i hi
    have e : (C.1 2 i).toNatClampNeg = x := by rw [x2, nI_clamp (by omega)]
    show (C.1 2 i).toNatClampNeg < 256 ∧ C.1 2 i = nI (C.1 2 i).toNatClampNeg
    rw [e]
    exact ⟨x1, x2⟩
  · obtain ⟨x, x1, x2, x3⟩ := t4 i hi
    have e : (C.1 2 i).toNatClampNeg = x := by rw [x2, nI_clamp (by omega)]
    show D.1 159 i = nI (C.1 2 i).toNatClampNeg
    rw [e]
    exact x3
/-- the whole reading -/
theorem read_eq {C D : mM} {t : Nat} {X : Nat → Nat} (hL : LT C t X) (hM : MT D t X) : (rc D).1 = ff C t 0 0 0 ∧ ((rc D).1 = -9 → ∃ n, n ≤ 5 ∧ CU n (rd C) (rc D).2 ∧ CK (rd0 C) (rd C) ∧ 4 ≤ t ∧ ((rc D).2.1 158 9 = nI (X 1 - 48) ∧ 49 ≤ X 1 ∧ X 1 ≤ 52) ∧ ((rc D).2.1 158 10 = nI (X 2 - 48) ∧ 49 ≤ X 2 ∧ X 2 ≤ 52) ∧ ((rc D).2.1 164 50 = nI (X 3 - 48) ∧ 48 ≤ X 3 ∧ X 3 ≤ 57) ∧ (rc D).2.1 164 51 = 0) ∧ (∀ a j, (a ≠ 158 ∨ (j ≠ 3 ∧ j ≠ 12 ∧ j ≠ 9 ∧ j ≠ 10 ∧ j ≠ 11)) → a ≠ 162 → a ≠ 163 → a ≠ 164 → (rc D).2.1 a j = D.1 a j) ∧ (rc D).2.2 = D.2 := by
  have ht := hL.2.1
  have n0 : ∀ a j, (a ≠ 158 ∨ (j ≠ 3 ∧ j ≠ 12)) → a ≠ 164 → (rc0 D).1 a j = D.1 a j := fun a j q1 q2 => rc0_n q1 q2
  have hM0 : MT (rc0 D) t X := ⟨by rw [n0 158 2 (Or.inr ⟨by decide, by decide⟩) (by decide)]; exact hM.1, fun i hi => by rw [n0 159 i (Or.inl (by decide)) (by decide)]; exact hM.2 i hi⟩
  have p0 : (rc0 D).1 158 3 = nI 0 := by unfold rc0; rw [rset_n (by decide), mset_s]; rfl
  have u0 : (rc0 D).1 158 12 = nI 0 := by unfold rc0; rw [rset_n (by decide), mset_o (by decide), mset_s]; rfl
  have z0 : ∀ j, j < 52 → (rc0 D).1 164 j = 0 := fun j hj => by unfold rc0; rw [rset_1, cpyR_get, if_pos (by omega)]
  have e2 : (rc0 D).2 = D.2 := rfl
  have hPS : PS (rc0 D) := ⟨t, 0, ht, by omega, hM0.1, p0⟩
  unfold rc rc1
  generalize rc0 D = D0 at *
  have hf := rhd_f hPS
  have f2 : (rhd D0).2.2 = D0.2 := rhd_2
  rcases head_eq hL hM0 p0 with ⟨h1, h2, j, hj, h3⟩ | ⟨h1, h4, h3, h2, ⟨x1, y1, y1'⟩, ⟨x2, y2, y2'⟩, ⟨x3, y3, y3'⟩⟩
  · rw [if_pos h1]
    refine ⟨h2.symm, fun q => absurd (h3.symm.trans q) (nIm9 (by omega)), fun a j q1 q2 q3 q4 => ?_, f2.trans e2⟩
    exact (hf.2 a j (by omega)).trans (n0 a j (by omega) q4)
  · rw [if_neg h1]
    generalize (rhd D0).2 = D1 at *
    have hL0 : LT (rd0 C) t X := LT_c hL (by unfold rd0; rw [mset_n (by decide), mset_n (by decide), mset_n (by decide), mset_n (by decide), mset_n (by decide)]) (by unfold rd0; rw [mset_n (by decide), mset_n (by decide), mset_n (by decide), mset_n (by decide), mset_n (by decide)])
    have hM1 : MT (mset D1 164 50 (D1.1 158 11)) t X := by
      refine MT_m ⟨?_, fun i hi => ?_⟩ ⟨Or.inl (by decide), by decide⟩
      · rw [hf.2 158 2 (Or.inr ⟨by decide, by decide, by decide, by decide⟩)]; exact hM0.1
      · rw [hf.2 159 i (Or.inl (by decide))]; exact hM0.2 i hi
    have c0 : CU 0 (rd0 C) (mset D1 164 50 (D1.1 158 11)) := by
      refine ⟨⟨?_, ?_⟩, fun v hv => by omega, fun v hv => by omega, fun j q1 q2 => ?_⟩
      · unfold rd0; rw [mset_n (by decide), mset_n (by decide), mset_s]; rfl
      · rw [mset_n (by decide), hf.2 158 12 (Or.inr ⟨by decide, by decide, by decide, by decide⟩)]; exact u0
      · rw [mset_o (by omega), hf.2 164 j (Or.inl (by decide))]; exact z0 j (by omega)
    obtain ⟨i1, i2, i3, i4⟩ := users_eq hL 6 0 4 (rd0 C) (mset D1 164 50 (D1.1 158 11)) rfl (by decide) h4 hL0 hM1 (by rw [mset_n (by decide)]; exact h3) c0
    refine ⟨by rw [i1, h2]; rfl, fun q => ?_, fun a j q1 q2 q3 q4 => ?_, ?_⟩
    · obtain ⟨⟨n, n5, j1⟩, j2, j3⟩ := i2 q
      refine ⟨n, n5, j1, j2, h4, ⟨?_, y1, y1'⟩, ⟨?_, y2, y2'⟩, ⟨?_, y3, y3'⟩, ?_⟩
      · rw [j3.1 158 9 (Or.inr ⟨by decide, by decide⟩) (by decide) (by decide) (by decide), mset_n (by decide)]; exact x1
      · rw [j3.1 158 10 (Or.inr ⟨by decide, by decide⟩) (by decide) (by decide) (by decide), mset_n (by decide)]; exact x2
      · rw [j3.2.2.1, mset_s]; exact x3
      · rw [j3.2.2.2, mset_o (by decide), hf.2 164 51 (Or.inl (by decide))]; exact z0 51 (by decide)
    · rw [i3 a j (by omega) q2 q3 q4, mset_n q4, hf.2 a j (by omega)]
      exact n0 a j (by omega) q4
    · rw [i4, mset_2a, f2, e2]
theorem DF_rc {D D' : mM} (h : ∀ a j, (a ≠ 158 ∨ (j ≠ 3 ∧ j ≠ 12 ∧ j ≠ 9 ∧ j ≠ 10 ∧ j ≠ 11)) → a ≠ 162 → a ≠ 163 → a ≠ 164 → D'.1 a j = D.1 a j) (h2 : D'.2 = D.2) : DF D D' := ⟨fun j hj => h 158 j (by omega) (by decide) (by decide) (by decide), fun a ha' => funext fun j => h a j (by omega) (by omega) (by omega) (by omega), by rw [h2]⟩
theorem FL_rc {D D' : mM} (h : ∀ a j, (a ≠ 158 ∨ (j ≠ 3 ∧ j ≠ 12 ∧ j ≠ 9 ∧ j ≠ 10 ∧ j ≠ 11)) → a ≠ 162 → a ≠ 163 → a ≠ 164 → D'.1 a j = D.1 a j) (h2 : D'.2 = D.2) : FL D D' := ⟨fun a ha' => funext fun j => h a j (by omega) (by omega) (by omega) (by omega), by rw [h2]⟩
theorem CF_r {C : mM} (h : OF C) : CF C C := ⟨fun _ _ => rfl, rfl, h⟩
theorem op_fault {c : Nat} {C D : mM} (hc : c + 1000 < 2 ^ 30) (h : RR c C D) : OPS (c_fault C) (rc (m0 D)).1 c C C D (rc (m0 D)).2 := by
  have hG := RR_GD h
  obtain ⟨hCL, n, B, h2⟩ := h
  have h2' := R2_DF h2 DF_0
  have hF0 : FL D (m0 D) := FL_0
  generalize m0 D = D0 at *
  obtain ⟨t, X, hL, hM⟩ := TX_LT h2'.2.1
  obtain ⟨r1, -, r3, r4⟩ := read_eq hL hM
  have enT : nT C = t := by unfold nT; rw [hL.1, nI_clamp (by have := hL.2.1; omega)]
  refine ⟨?_, RR_le (c := c) ⟨hCL, n, B, R2_DF h2' (DF_rc r3 r4)⟩ (by omega), ⟨fun _ _ => rfl, rfl⟩, FL_t hF0 (FL_rc r3 r4)⟩
  unfold c_fault
  rw [enT, r1]
theorem op_cell {c : Nat} {C D : mM} (hc : c + 1000 < 2 ^ 30) (h : RR c C D) : OPS (c_cell C).1 (m_cell (m0 D)).1 c C (c_cell C).2 D (m_cell (m0 D)).2 := by
  have hG := RR_GD h
  obtain ⟨hCL, n0, B0, h2⟩ := h
  have h2' := R2_DF h2 DF_0
  have hF0 : FL D (m0 D) := FL_0
  generalize m0 D = D0 at *
  obtain ⟨t, X, hL, hM⟩ := TX_LT h2'.2.1
  obtain ⟨r1, r2, r3, r4⟩ := read_eq hL hM
  have ht := hL.2.1
  have enT : nT C = t := by unfold nT; rw [hL.1, nI_clamp (by omega)]
  unfold c_cell m_cell
  rw [enT, ← r1]
  by_cases g : (rc D0).1 = -9
  · rw [if_pos g, if_pos g]
    obtain ⟨n, n5, ⟨⟨c1, c2⟩, c3, c4, -⟩, ⟨k1, k2, k3, k4, k5⟩, t4, ⟨x1, y1, y1'⟩, ⟨x2, y2, y2'⟩, ⟨x3, y3, y3'⟩, x4⟩ := r2 g
    generalize (rc D0).2 = D1 at *
    obtain ⟨-, ⟨t', t1, t2, t3, t4'⟩, ⟨f, z, a1, a2, a3, a4, a5, a6⟩, h5, ⟨z', z1, z2, z3, z4⟩, h7⟩ := h2'
    have r0 : ∀ a, a ≠ 4 → a ≠ 7 → (rd0 C).1 a = C.1 a := fun a q1 q2 => by unfold rd0; rw [mset_n q2, mset_n q2, mset_n q1, mset_n q1, mset_n q1]
    have r4a : ∀ a, (a < 4 ∨ a = 8 ∨ 13 < a) → (rd C).1 a = C.1 a := fun a q => by rw [k1 a (by omega) (by omega) (by omega) (by omega), r0 a (by omega) (by omega)]
    have q40 : (rd C).1 4 0 = nI (X 1 - 48) := by
      rw [k2 0 (by decide)]
      unfold rd0
      rw [mset_n (by decide), mset_n (by decide), mset_o (by decide), mset_o (by decide), mset_s]
      exact fig_v hL (q := 1) (by omega) (by omega)
    have q41 : (rd C).1 4 1 = nI (X 2 - 48) := by
      rw [k2 1 (by decide)]
      unfold rd0
      rw [mset_n (by decide), mset_n (by decide), mset_o (by decide), mset_s]
      exact fig_v hL (q := 2) (by omega) (by omega)
    have q71 : (rd C).1 7 1 = nI (X 3 - 48) := by
      rw [k1 7 (by decide) (by decide) (by decide) (by omega)]
      unfold rd0
      rw [mset_o (by decide), mset_s]
      exact fig_v hL (q := 3) (by omega) (by omega)
    have q72 : (rd C).1 7 2 = 0 := by
      rw [k1 7 (by decide) (by decide) (by decide) (by omega)]
      unfold rd0
      rw [mset_s]
    have hx1 := (hL.2.2 1 (by omega)).1
    -- the class's rows
    have nC : ∀ a, a ≠ 26 → a ≠ 141 → (cel C).1 a = (rd C).1 a := fun a q1 q2 => by unfold cel; rw [mset_n q2, mset_n q2, mset_n q1]
    have c26 : (cel C).1 26 1 = C.1 26 1 ∧ (cel C).1 26 2 = 0 := by
      unfold cel
      rw [mset_n (by decide), mset_n (by decide), mset_o (by decide), mset_s, r4a 26 (by omega)]
      exact ⟨rfl, rfl⟩
    have c141 : (cel C).1 141 0 = 0 ∧ (cel C).1 141 1 = 0 := by
      unfold cel
      rw [mset_o (by decide), mset_s, mset_s]
      exact ⟨rfl, rfl⟩
    have cOF : OF (cel C) := by
      refine OF_mset (OF_mset (OF_mset (k4 ?_) (by decide +kernel)) (by decide +kernel)) (by decide +kernel)
      unfold rd0
      exact OF_mset (OF_mset (OF_mset (OF_mset (OF_mset hCL.1 (by decide +kernel)) (by decide +kernel)) (by decide +kernel)) (by decide +kernel)) (by decide +kernel)
    have c2' : (cel C).2 = C.2 := by
      unfold cel
      rw [mset_2a, mset_2a, mset_2a, k3]
      rfl
    -- the model's rows
    have nD : ∀ a, a ≠ 158 → a ≠ 160 → a ≠ 161 → a ≠ 165 → a ≠ 170 → (ceC (ceB (ceA D1))).1 a = D1.1 a := fun a q1 q2 q3 q4 q5 => by
      unfold ceC ceB ceA
      rw [mset_n q5, mset_n q5, mset_n q1, rset_n q4, rset_n q3, rset_n q2, mset_n q1, mset_n q1, mset_n q1]
    have e158 : ∀ j, j ≠ 20 → (ceC (ceB (ceA D1))).1 158 j = (ceA D1).1 158 j := fun j q => by
      unfold ceC ceB
      rw [mset_n (by decide), mset_n (by decide), mset_o q, rset_n (by decide), rset_n (by decide), rset_n (by decide)]
    have e20 : (ceC (ceB (ceA D1))).1 158 20 = 0 := by
      unfold ceC
      rw [mset_n (by decide), mset_n (by decide), mset_s]
    have e170 : (ceC (ceB (ceA D1))).1 170 0 = 0 ∧ (ceC (ceB (ceA D1))).1 170 1 = 0 := by
      unfold ceC
      rw [mset_o (by decide), mset_s, mset_s]
      exact ⟨rfl, rfl⟩
    have eA : ∀ a, a ≠ 158 → (ceA D1).1 a = D1.1 a := fun a q => by unfold ceA; rw [mset_n q, mset_n q, mset_n q]
    have e160 : ∀ j, j < 30 → (ceC (ceB (ceA D1))).1 160 j = D1.1 162 j := fun j hj => by
      unfold ceC ceB
      rw [mset_n (by decide), mset_n (by decide), mset_n (by decide), rset_n (by decide), rset_n (by decide), rset_1, cpyR_get, if_pos (by omega), Nat.sub_zero, eA 162 (by decide)]
    have e161 : ∀ j, j < 5 → (ceC (ceB (ceA D1))).1 161 j = D1.1 163 j := fun j hj => by
      unfold ceC ceB
      rw [mset_n (by decide), mset_n (by decide), mset_n (by decide), rset_n (by decide), rset_1, cpyR_get, if_pos (by omega), Nat.sub_zero, eA 163 (by decide)]
    have e165 : ∀ j, j < 52 → (ceC (ceB (ceA D1))).1 165 j = D1.1 164 j := fun j hj => by
      unfold ceC ceB
      rw [mset_n (by decide), mset_n (by decide), mset_n (by decide), rset_1, cpyR_get, if_pos (by omega), Nat.sub_zero, eA 164 (by decide)]
    have d4 : (ceC (ceB (ceA D1))).1 158 4 = nI (X 1 - 48) := by
      rw [e158 4 (by decide)]
      unfold ceA
      rw [mset_o (by decide), mset_o (by decide), mset_s]
      exact x1
    have d5 : (ceC (ceB (ceA D1))).1 158 5 = nI (X 2 - 48) := by
      rw [e158 5 (by decide)]
      unfold ceA
      rw [mset_o (by decide), mset_s]
      exact x2
    have d6 : (ceC (ceB (ceA D1))).1 158 6 = nI n := by
      rw [e158 6 (by decide)]
      unfold ceA
      rw [mset_s]
      exact c2
    have dj : ∀ j, j ≠ 4 → j ≠ 5 → j ≠ 6 → j ≠ 20 → (ceC (ceB (ceA D1))).1 158 j = D1.1 158 j := fun j q1 q2 q3 q4 => by
      rw [e158 j q4]
      unfold ceA
      rw [mset_o q3, mset_o q2, mset_o q1]
    have d2' : (ceC (ceB (ceA D1))).2 = D1.2 := rfl
    refine ⟨?_, RR_le (c := c) ⟨⟨cOF, ?_⟩, n, X 1 - 48, ?_⟩ (by omega), ⟨fun a ha' => ?_, ?_⟩, FL_t hF0 ⟨fun a ha' => ?_, ?_⟩⟩
    · show (cel C).1 4 2 = (ceC (ceB (ceA D1))).1 158 6
      rw [nC 4 (by decide) (by decide), c1, d6]
    · show ∀ u, u < 5 → ∃ m, m ≤ 6 ∧ (cel C).1 6 u = nI m
      rw [nC 6 (by decide) (by decide)]
      refine k5 ?_
      rw [r0 6 (by decide) (by decide)]
      exact hCL.2
    · show R2 n (X 1 - 48) c (cel C) (ceC (ceB (ceA D1)))
      refine ⟨⟨⟨⟨n5, ?_, d6⟩, ⟨by omega, ?_, d4⟩, ⟨X 2 - 48, by omega, by omega, ?_, d5⟩, fun u hu => ?_⟩, ⟨⟨fun u hu f hf => ?_, ?_, ?_⟩, 0, by omega, ?_⟩⟩, ⟨t', t1, ?_, ?_, fun i hi => ?_⟩, ⟨f, 0, a1, by omega, ?_, ?_, ?_, fun i hi => by omega⟩, fun s hs => ?_, ⟨z', z1, ?_, ?_, fun i hi => ?_⟩, ?_⟩
      · rw [nC 4 (by decide) (by decide)]; exact c1
      · rw [nC 4 (by decide) (by decide)]; exact q40
      · rw [nC 4 (by decide) (by decide)]; exact q41
      · obtain ⟨m, m1, m2, m3, m4, m5⟩ := c3 u hu
        refine ⟨m, m1, m2, by rw [nC 6 (by decide) (by decide)]; exact m3, by rw [e161 u (by omega)]; exact m4, fun i hi => ?_⟩
        obtain ⟨x, q1, q2, q3⟩ := m5 i hi
        exact ⟨x, q1, by rw [nC 5 (by decide) (by decide)]; exact q2, by rw [e160 _ (by omega)]; exact q3⟩
      · rw [nC (7 + 1 + 1 + u) (by omega) (by omega), e165 _ (by omega), show 7 + 1 + 1 + u = 9 + u by omega]
        exact c4 u hu f hf
      · rw [nC 7 (by decide) (by decide), e165 50 (by decide), q71, x3]
      · rw [nC 7 (by decide) (by decide), e165 51 (by decide), q72, x4]
      · rw [e165 51 (by decide), x4]; rfl
      · rw [nC 1 (by decide) (by decide), r4a 1 (by omega)]; exact t2
      · rw [dj 2 (by decide) (by decide) (by decide) (by decide), r3 158 2 (Or.inr ⟨by decide, by decide, by decide, by decide, by decide⟩) (by decide) (by decide) (by decide)]; exact t3
      · rw [nC 2 (by decide) (by decide), r4a 2 (by omega), nD 159 (by decide) (by decide) (by decide) (by decide) (by decide), r3 159 i (Or.inl (by decide)) (by decide) (by decide) (by decide)]
        exact t4' i hi
      · rw [c26.1]; exact a3
      · rw [c26.2]; rfl
      · rw [e20]; rfl
      · have : s = 0 ∨ s = 1 := by omega
        rcases this with rfl | rfl
        · exact Or.inl ⟨c141.1, e170.1⟩
        · exact Or.inl ⟨c141.2, e170.2⟩
      · rw [nC 151 (by decide) (by decide), r4a 151 (by omega)]; exact z2
      · rw [dj 23 (by decide) (by decide) (by decide) (by decide), r3 158 23 (Or.inr ⟨by decide, by decide, by decide, by decide, by decide⟩) (by decide) (by decide) (by decide)]; exact z3
      · rw [nC 152 (by decide) (by decide), r4a 152 (by omega), nC 153 (by decide) (by decide), r4a 153 (by omega), nC 154 (by decide) (by decide), r4a 154 (by omega), nC 155 (by decide) (by decide), r4a 155 (by omega), nC 156 (by decide) (by decide), r4a 156 (by omega), nD 171 (by decide) (by decide) (by decide) (by decide) (by decide), nD 172 (by decide) (by decide) (by decide) (by decide) (by decide), nD 173 (by decide) (by decide) (by decide) (by decide) (by decide), nD 174 (by decide) (by decide) (by decide) (by decide) (by decide), nD 175 (by decide) (by decide) (by decide) (by decide) (by decide), r3 171 i (Or.inl (by decide)) (by decide) (by decide) (by decide), r3 172 i (Or.inl (by decide)) (by decide) (by decide) (by decide), r3 173 i (Or.inl (by decide)) (by decide) (by decide) (by decide), r3 174 i (Or.inl (by decide)) (by decide) (by decide) (by decide), r3 175 i (Or.inl (by decide)) (by decide) (by decide) (by decide)]
        exact z4 i hi
      · rw [c2', d2', r4]; exact h7
    · show (cel C).1 a = C.1 a
      rw [nC a (by omega) (by omega), r4a a (by omega)]
    · show (cel C).2 158 = C.2 158
      rw [c2']
    · show (ceC (ceB (ceA D1))).1 a = D0.1 a
      rw [nD a (by omega) (by omega) (by omega) (by omega) (by omega)]
      exact (FL_rc r3 r4).1 a ha'
    · show (ceC (ceB (ceA D1))).2 0 = D0.2 0
      rw [d2', r4]
  · rw [if_neg g, if_neg g]
    exact ⟨rfl, RR_le (c := c) ⟨hCL, n0, B0, R2_DF h2' (DF_rc r3 r4)⟩ (by omega), ⟨fun _ _ => rfl, rfl⟩, FL_t hF0 (FL_rc r3 r4)⟩
