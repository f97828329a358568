/-! told doings, and what was seen -/
theorem hd_eq {n B c : Nat} {C0 D0 C D : mM} {h a b : Int32} (hc : c + 200 < 2 ^ 30) (hT : TT n B c 14 166 C0 D0 C D) (ha' : ∃ j, j ≤ 9 ∧ a = nI j) (hb : ∃ j, j ≤ 9 ∧ b = nI j) : (hd C 14 h a b).1 = (dz D h a b).1 ∧ TT n B (c + 100) 14 166 C0 D0 (hd C 14 h a b).2 (dz D h a b).2 := by
  obtain ⟨A, hA, rfl⟩ := ha'
  obtain ⟨E, hE, rfl⟩ := hb
  have hP := hT.2.1
  have hn := hP.1.1
  have up : ∀ {C D : mM} {m : Nat}, m ≤ 100 → TT n B (c + m) 14 166 C0 D0 C D → TT n B (c + 100) 14 166 C0 D0 C D := fun hm h => ⟨h.1, h.2.1, PVc_le h.2.2 (by omega)⟩
  have hT0 : TT n B (c + 100) 14 166 C0 D0 C D := up (m := 0) (by omega) hT
  have e10 : (10 : Int32) * nI A + nI E = nI (10 * A + E) := by rw [show (10 : Int32) = nI 10 from rfl, pk_mul, nI_add]
  unfold hd dz
  by_cases h1 : h.toInt = 1
  · rw [if_pos h1, if_pos h1]
    unfold hd1 dz1
    rw [e10, nI_clamp (by omega : 10 * A + E < 2 ^ 31)]
    have h3 := (TT_runs (m := 10 * A + E) (Or.inl ⟨rfl, rfl⟩) (by omega) hT).2
    refine ⟨?_, up (by omega) h3⟩
    show (if 0 < nI A then (1 : Int32) else if nI E ≤ 0 then 0 else 1) = if nI (10 * A + E) ≤ 0 then 0 else 1
    by_cases k1 : A = 0
    · subst k1
      rw [if_neg (by decide)]
      by_cases k2 : E = 0
      · subst k2; rfl
      · rw [if_neg (nI_nle (by omega) (by omega)), if_neg (nI_nle (by omega) (by omega))]
    · have k2 : (0 : Int32) < nI A := nI_lt (a := 0) (by omega) (by omega)
      rw [if_pos k2, if_neg (nI_nle (by omega) (by omega))]
  · rw [if_neg h1, if_neg h1]
    by_cases h2 : h.toInt = 2
    · rw [if_pos (Or.inl h2), if_pos h2]
      unfold hd2 dz2
      by_cases k0 : nI A = 0
      · rw [if_pos k0, if_pos k0]
        rcases has_nu (u := nI E) hP with ⟨g1, g2, j, hj, ej⟩ | ⟨g1, g2⟩
        · rw [if_neg g1, if_pos g2, ej, nI_clamp (by omega : j < 2 ^ 31)]
          refine ⟨rfl, ?_⟩
          have e2 : h = 2 := Int32.toInt_inj.mp (by rw [h2]; rfl)
          unfold tod
          simp only
          rw [if_pos e2, PV_e hT.2.2.1 hj (by decide)]
          have hv : (if D.1 166 (10 * j + 3) = 0 then (1 : Int32) else 0) = 1 - D.1 166 (10 * j + 3) ∧ VF 3 (1 - D.1 166 (10 * j + 3)) := by
            rcases VF3.mp (PV_v hT.2.2.1 hj (by decide)) with e | e
            · rw [e]; exact ⟨rfl, VF3.mpr (Or.inr rfl)⟩
            · rw [e]; exact ⟨rfl, VF3.mpr (Or.inl rfl)⟩
          rw [hv.1]
          exact TT_u (by omega) (by decide) hv.2 hT0
        · rw [if_pos g1, if_neg g2]
          exact ⟨rfl, hT0⟩
      · rw [if_neg k0, if_neg k0]
        exact ⟨rfl, hT0⟩
    · rw [if_neg h2]
      by_cases h3 : h.toInt = 3
      · rw [if_pos (Or.inr h3), if_pos h3]
        unfold hd2 dz3
        by_cases k0 : nI A = 0
        · rw [if_pos k0, if_pos k0]
          rcases has_nu (u := nI E) hP with ⟨g1, g2, j, hj, ej⟩ | ⟨g1, g2⟩
          · rw [if_neg g1, if_pos g2, ej, nI_clamp (by omega : j < 2 ^ 31)]
            refine ⟨rfl, ?_⟩
            have e2 : ¬ h = 2 := fun g => h2 (by rw [g]; rfl)
            unfold tod
            simp only
            rw [if_neg e2]
            exact TT_u (by omega) (by decide) (VF5.mpr ⟨0, by omega, rfl⟩) (TT_u (by omega) (by decide) (VF4.mpr ⟨0, by omega, rfl⟩) hT0)
          · rw [if_pos g1, if_neg g2]
            exact ⟨rfl, hT0⟩
        · rw [if_neg k0, if_neg k0]
          exact ⟨rfl, hT0⟩
      · rw [if_neg (by omega), if_neg h3]
        by_cases h4 : h.toInt = 4
        · rw [if_pos h4, if_pos h4]
          unfold hd4 dz4
          rcases has_nu (u := nI A) hP with ⟨g1, g2, j, hj, ej⟩ | ⟨g1, g2⟩
          · rw [if_neg g1, if_pos g2, ej, nI_clamp (by omega : j < 2 ^ 31)]
            by_cases k1 : E = 0
            · subst k1
              rw [if_pos (by decide), if_pos nI_0]
              exact ⟨rfl, hT0⟩
            · rw [if_neg (nI_nle (by omega) (by omega)), if_neg (nI_ne0 (by omega) (by omega))]
              exact ⟨rfl, TT_u (by omega) (by decide) (VF1.mpr ⟨E, by omega, hE, rfl⟩) hT0⟩
          · rw [if_pos g1, if_neg g2]
            exact ⟨rfl, hT0⟩
        · rw [if_neg h4, if_neg h4]
          by_cases h5 : h.toInt = 5
          · rw [if_pos h5, if_pos h5]
            unfold hd5 dz5
            rcases has_nu (u := nI A) hP with ⟨g1, g2, j, hj, ej⟩ | ⟨g1, g2⟩
            · rw [if_neg g1, if_pos g2, ej, nI_clamp (by omega : j < 2 ^ 31), PV_e hT.2.2.1 hj (by decide)]
              by_cases k1 : D.1 166 (10 * j + 7) = nI E
              · rw [if_pos k1, if_pos k1]; exact ⟨rfl, hT0⟩
              · rw [if_neg k1, if_neg k1]; exact ⟨rfl, hT0⟩
            · rw [if_pos g1, if_neg g2]
              exact ⟨rfl, hT0⟩
          · rw [if_neg h5, if_neg h5]
            by_cases h6 : h.toInt = 6
            · rw [if_pos h6, if_pos h6]
              unfold hd6 dz6
              rcases has_nu (u := nI A) hP with ⟨g1, g2, -⟩ | ⟨g1, g2⟩
              · rw [if_neg g1, if_pos g2, hP.2.1.2.1, hP.2.1.2.2]
                have hB := hP.2.1.1
                by_cases k1 : nI B ≤ nI E
                · rw [if_pos k1, if_pos k1]; exact ⟨rfl, hT0⟩
                · rw [if_neg k1, if_neg k1]
                  have kE : E < B := by
                    rcases Nat.lt_or_ge E B with g | g
                    · exact g
                    · exact absurd (nI_le g (by omega)) k1
                  have hw : ¬ wi (nI E) 0 3 = 0 := by
                    unfold wi
                    have g3 : ¬ (3 : Int32) < nI E := nI_nlt (a := 3) (b := E) (by omega) (by decide)
                    rw [if_neg (nI_pos (by omega)), if_neg g3]
                    decide
                  obtain ⟨-, h7, h8⟩ := TT_ro (f := 0) (Or.inr ⟨rfl, rfl⟩) (by omega) (TT_peek hT)
                  unfold hb
                  rw [if_neg hw, nI_clamp (by omega : E < 2 ^ 31)]
                  simp only
                  rw [h8 E kE]
                  refine ⟨rfl, h7.1, h7.2.1, ?_⟩
                  have hQ := TT_PQ (by omega) (by omega) (TT_peek hT)
                  have hPLC : PL (stc C 144 14) := (TT_peek hT).1.1.2.2.2
                  have f1 : ∀ a, 14 ≤ a → a < 21 → (ro (stc C 144 14) 144 0).2.1 a = C.1 a := fun a q1 q2 => by rw [f_ro k144 hPLC (by unfold fr; omega) (by unfold sc; omega), f_stc (by unfold fr; omega)]
                  have f2 : (so (wtM D) 167 0).2.1 166 = D.1 166 := by rw [(SM_so hQ).1 166 (by decide) (by decide) (by decide), wtM_n (by decide)]
                  rw [f2]
                  exact PVc_n hn hT0.2.2 (fun a q1 q2 => f1 a q1 (by omega))
              · rw [if_pos g1, if_neg g2]
                exact ⟨rfl, hT0⟩
            · rw [if_neg h6, if_neg h6]
              by_cases h7 : h.toInt = 7
              · rw [if_pos h7, if_pos h7]
                unfold hd7 dz7
                rcases has_nu (u := nI A) hP with ⟨g1, g2, j, hj, ej⟩ | ⟨g1, g2⟩
                · rw [if_neg g1, if_pos g2, ej, nI_clamp (by omega : j < 2 ^ 31)]
                  by_cases k1 : E ≤ 1
                  · have q1 : ¬ (1 : Int32) < nI E := nI_nlt (a := 1) (b := E) k1 (by decide)
                    have q2 : ¬ (2 : Int32) ≤ nI E := nI_ge (b := 2) (by omega) (by decide)
                    rw [if_neg q1, if_neg q2]
                    obtain ⟨q, hq, eq⟩ := VF4.mp (PV_v hT.2.2.1 hj (by decide))
                    obtain ⟨a, ha', ea⟩ := VF5.mp (PV_v hT.2.2.1 hj (by decide))
                    have ez : pz (C.1 (14 + 1 + 1 + j) 4 + C.1 (14 + 1 + 1 + j) 5) = ha D 166 j := by
                      rw [ha_v hq ha' eq ea, PV_e hT.2.2.1 hj (by decide), PV_e hT.2.2.1 hj (by decide), eq, ea, nI_add]
                      unfold pz
                      by_cases k2 : q = 0 ∧ a = 0
                      · rw [if_pos k2, if_pos (by rw [k2.1, k2.2]; decide)]
                      · rw [if_neg k2, if_neg (nI_nle (by omega) (by omega))]
                    rw [ez]
                    exact ⟨rfl, hT0⟩
                  · have q1 : (1 : Int32) < nI E := nI_lt (a := 1) (by omega) (by omega)
                    have q2 : (2 : Int32) ≤ nI E := nI_le (a := 2) (by omega) (by omega)
                    rw [if_pos q1, if_pos q2]
                    exact ⟨rfl, hT0⟩
                · rw [if_pos g1, if_neg g2]
                  exact ⟨rfl, hT0⟩
              · rw [if_neg h7, if_neg h7]
                exact ⟨rfl, hT0⟩
theorem jg_eq {n B N r : Nat} {C0 D0 : mM} (hN : N ≤ 4) (hr : r < 10 ^ 12) : ∀ (m p c : Nat) (C D : mM), p + m = N → c + 100 * m + 200 < 2 ^ 30 → TT n B c 14 166 C0 D0 C D → (fwL (lN r) N m p C).1 = (jgL (lN r) N m p D).1 ∧ AQ C0 (fwL (lN r) N m p C).2 ∧ AM D0 (jgL (lN r) N m p D).2
  | 0, p, c, C, D, _, _, h => ⟨rfl, h.1.1, h.1.2⟩
  | m + 1, p, c, C, D, hp, hc, h => by
    have ed := dgt_v (r := r) (N := N) (p := p) hr (by omega)
    have hlt : r / 1000 ^ (N - 1 - p) % 1000 < 1000 := Nat.mod_lt _ (by decide)
    have ga : ∃ j, j ≤ 9 ∧ rm (dgt (lN r) N p / 10) 10 = nI j := by
      refine ⟨r / 1000 ^ (N - 1 - p) % 1000 / 10 % 10, by omega, ?_⟩
      rw [ed, show (10 : Int32) = nI 10 from rfl, pk_div (by omega) (by decide) (by decide)]
      exact pk_rem (by omega) (by decide) (by decide)
    have gb : ∃ j, j ≤ 9 ∧ rm (dgt (lN r) N p) 10 = nI j := by
      refine ⟨r / 1000 ^ (N - 1 - p) % 1000 % 10, by omega, ?_⟩
      rw [ed]
      exact pk_rem (by omega) (by decide) (by decide)
    obtain ⟨e1, h2⟩ := hd_eq (h := dgt (lN r) N p / 100) (by omega) h ga gb
    rw [fwL, jgL, e1]
    by_cases g : (dz D (dgt (lN r) N p / 100) (rm (dgt (lN r) N p / 10) 10) (rm (dgt (lN r) N p) 10)).1 = 0
    · rw [if_pos g, if_pos g]
      exact ⟨rfl, h2.1.1, h2.1.2⟩
    · rw [if_neg g, if_neg g]
      exact jg_eq hN hr m (p + 1) (c + 100) _ _ (by omega) (by omega) h2
theorem op_judge {c : Nat} {C D : mM} {x : Int32} {row : Int64} (hc : c + 1000 < 2 ^ 30) (h : RR c C D) : OPS (c_judge C x row).1 (m_judge (m0 D) x row).1 c C (c_judge C x row).2 D (m_judge (m0 D) x row).2 := by
  have hG := RR_GD h
  have hz : ∀ v : Int32, OPS v v c C C D (m0 D) := fun v => ask_fin h rfl (AQ_r hG) AM_r
  obtain ⟨n, B, h2⟩ := h.2
  have h2' := R2_DF h2 DF_0
  have hT := TT_new (AQ_r hG) (AM_r (D := m0 D)) h2'.1.1 h2'.1.2
  unfold c_judge m_judge
  by_cases k1 : wi x 1 4 = 0
  · rw [if_pos k1, if_pos k1]; exact hz _
  · rw [if_neg k1, if_neg k1]
    obtain ⟨N, -, hN, rfl⟩ := wi_g (d := 1) (c := 4) rfl rfl (by decide) (by decide) k1
    rw [nI_clamp (by omega : N < 2 ^ 31)]
    by_cases k2 : row < 0
    · rw [if_pos k2, if_pos k2]; exact hz _
    · rw [if_neg k2, if_neg k2]
      by_cases k3 : row < uo N
      · rw [if_pos k3, if_pos k3]
        obtain ⟨r, hr, rfl⟩ := pk_lOf k2
        have hu := uo_v N hN
        have hr2 : r < 10 ^ 12 := by
          rw [hu.1] at k3
          have h5 := (pk_lLT hr hu.2.2.1).mp k3
          have : 1000 ^ N ≤ 1000 ^ 4 := Nat.pow_le_pow_right (by decide) hN
          omega
        obtain ⟨e1, e2, e3⟩ := jg_eq hN hr2 N 0 c _ _ (by omega) (by omega) hT
        exact ask_fin h e1 e2 e3
      · rw [if_neg k3, if_neg k3]; exact hz _
/-! which user may be off -/
def xs (C : mM) (i : Nat) : mM := (ru C 14 i).2
theorem itr_last {S : Type} (f : Nat → S → S) : ∀ (n i : Nat) (s : S), itr f i (n + 1) s = f (i + n) (itr f i n s)
  | 0, i, s => rfl
  | n + 1, i, s => by
    rw [itr, itr_last f n (i + 1), itr, show i + 1 + n = i + (n + 1) by omega]
theorem xs_s {C : mM} {i : Nat} : xs C (i + 1) = (ro (xs C i) 14 0).2 := by
  unfold xs ru
  rw [itr_last]
  rfl
theorem fiM_xs {C : mM} {i : Nat} (hi : i < 2 ^ 31) : fiM i (xs C (i - 1)) = xs C i := by
  unfold fiM
  rcases i with _ | i
  · rw [if_pos (by decide)]
  · rw [if_neg (nI_nle (by omega) hi), Nat.add_sub_cancel, xs_s]
theorem fbL_1 {M : mM} {k : Nat} {x : Int32} : ∀ (m i : Nat), ¬ fbL M k x m i = 0 ↔ ∀ j, i ≤ j → j < i + m → ¬ fbC M k x j = 0
  | 0, i => by
    rw [fbL]
    exact ⟨fun _ j h1 h2 => by omega, fun _ => by decide⟩
  | m + 1, i => by
    rw [fbL]
    by_cases g : fbC M k x i = 0
    · rw [if_pos g]
      exact ⟨fun h => absurd rfl h, fun h => absurd g (h i (Nat.le_refl _) (by omega))⟩
    · rw [if_neg g, fbL_1 m (i + 1)]
      refine ⟨fun h j h1 h2 => ?_, fun h j h1 h2 => h j (by omega) (by omega)⟩
      by_cases e : j = i
      · rw [e]; exact g
      · exact h j (by omega) (by omega)
theorem fbL_01 {M : mM} {k : Nat} {x : Int32} : ∀ (m i : Nat), fbL M k x m i = 0 ∨ fbL M k x m i = 1
  | 0, _ => Or.inr rfl
  | m + 1, i => by
    rw [fbL]
    split
    · exact Or.inl rfl
    · exact fbL_01 m (i + 1)
theorem fiL_1 {C : mM} {z : Nat} (hz : ∀ i, nZ (xs C i) = z) : ∀ (m i : Nat), i + m < 2 ^ 31 → (¬ (fiL m i (xs C (i - 1))).1 = 0 ↔ ∀ j, i ≤ j → j < i + m → ¬ fbL (xs C j) 14 (nI j) z 0 = 0) ∧ ∃ j, (fiL m i (xs C (i - 1))).2 = xs C j ∧ j ≤ i + m
  | 0, i, _ => ⟨⟨fun _ j h1 h2 => by omega, fun _ => by rw [fiL]; exact (by decide : ¬ (1 : Int32) = 0)⟩, i - 1, rfl, by omega⟩
  | m + 1, i, hi => by
    rw [fiL, fiM_xs (by omega), hz]
    by_cases g : fbL (xs C i) 14 (nI i) z 0 = 0
    · rw [if_pos g]
      exact ⟨⟨fun h => absurd rfl h, fun h => absurd g (h i (Nat.le_refl _) (by omega))⟩, i, rfl, by omega⟩
    · rw [if_neg g]
      obtain ⟨h1, j, h2, h3⟩ := fiL_1 hz m (i + 1) (by omega)
      rw [Nat.add_sub_cancel] at h1 h2
      refine ⟨?_, j, h2, by omega⟩
      rw [h1]
      refine ⟨fun h j h1 h2 => ?_, fun h j h1 h2 => h j (by omega) (by omega)⟩
      by_cases e : j = i
      · rw [e]; exact g
      · exact h j (by omega) (by omega)
theorem wkI_0 {u : Nat} {D0 : mM} : ∀ (m i : Nat) (w : Int32) (D : mM), (P : Nat → Prop) → (I : mM → Prop) → I D → (∀ j D, i ≤ j → j < i + m → I D → I (isF D u j).2 ∧ (¬ (isF D u j).1 = 0 ↔ P j)) → (¬ (itr (wkI u) i m (w, D)).1 = 0 ↔ ¬ w = 0 ∧ ∀ j, i ≤ j → j < i + m → P j) ∧ I (itr (wkI u) i m (w, D)).2
  | 0, i, w, D, P, I, hI, _ => ⟨⟨fun h => ⟨h, fun j h1 h2 => by omega⟩, fun h => h.1⟩, hI⟩
  | m + 1, i, w, D, P, I, hI, hs => by
    have step : wkI u i (w, D) = if w = 0 then (0, D) else (if (isF D u i).1 = 0 then 0 else 1, (isF D u i).2) := rfl
    rw [itr, step]
    by_cases g : w = 0
    · rw [if_pos g]
      obtain ⟨k1, k2⟩ := wkI_0 (D0 := D0) m (i + 1) 0 D P I hI (fun j D h1 h2 => hs j D (by omega) (by omega))
      refine ⟨?_, k2⟩
      rw [k1]
      exact ⟨fun h => absurd rfl h.1, fun h => absurd g h.1⟩
    · rw [if_neg g]
      obtain ⟨s1, s2⟩ := hs i D (Nat.le_refl _) (by omega) hI
      obtain ⟨k1, k2⟩ := wkI_0 (D0 := D0) m (i + 1) (if (isF D u i).1 = 0 then 0 else 1) (isF D u i).2 P I s1 (fun j D h1 h2 => hs j D (by omega) (by omega))
      refine ⟨?_, k2⟩
      rw [k1]
      have e : (¬ (if (isF D u i).1 = 0 then (0 : Int32) else 1) = 0) ↔ P i := by
        rw [← s2]
        by_cases g2 : (isF D u i).1 = 0
        · rw [if_pos g2]; exact ⟨fun h => absurd rfl h, fun h => absurd g2 h⟩
        · rw [if_neg g2]; exact ⟨fun _ => g2, fun _ => by decide⟩
      rw [e]
      refine ⟨fun h => ⟨g, fun j h1 h2 => ?_⟩, fun h => ⟨h.2 i (Nat.le_refl _) (by omega), fun j h1 h2 => h.2 j (by omega) (by omega)⟩⟩
      by_cases e2 : j = i
      · rw [e2]; exact h.1
      · exact h.2 j (by omega) (by omega)
/-- what was seen, held against the class's trial behind that many slots -/
theorem see_eq {n B c U k a : Nat} {C0 D0 C D : mM} (hc : c + 1000 < 2 ^ 30) (h0 : R2 n B c C0 D0) (hU : U < n) (hA : AQ C0 C) (hM : AM D0 D) (hz : ∃ z, k < z ∧ z ≤ 6 ∧ C0.1 151 6 = nI z) (ha' : a ≤ 9) (hak : C0.1 152 k = nI a) : (AM D0 (isF D U k).2 ∧ (¬ (isF D U k).1 = 0 ↔ ¬ fbC (xs (fi0 C U) a) 14 (nI a) k = 0)) ∧ ∀ i, i ≤ 9 → AQ C0 (xs (fi0 C U) i) := by
  obtain ⟨hT, h2⟩ := TT_next h0 hA hM
  have hP0 := h2.1.1
  have hn := hP0.1.1
  have hT1 : TT n B c 14 166 C0 D0 (fi0 C U) (is1 D U) := by
    unfold fi0 is1
    rw [show 16 + U = 14 + 1 + 1 + U by omega]
    exact TT_u (by omega) (by decide) (VF3.mpr (Or.inr rfl)) hT
  have hX : ∀ i, i ≤ 9 → TT n B (c + i) 14 166 C0 D0 (xs (fi0 C U) i) (sos (is1 D U) 166 i).2 := fun i hi => (TT_runs (m := i) (Or.inl ⟨rfl, rfl⟩) (by omega) hT1).2
  refine ⟨?_, fun i hi => (hX i hi).1.1⟩
  obtain ⟨z, hk, hz6, ez⟩ := hz
  obtain ⟨z', hz'6, z2, z3, z4⟩ := h2.2.2.2.2.1
  have ezz : z' = z := by
    rw [hA.1 151 (by omega), ez, nI_eq (by omega) (by omega)] at z2
    exact z2.symm
  subst ezz
  obtain ⟨⟨a', ha2, a1, a2⟩, e153, e154, e155, e156⟩ := z4 k hk
  have eaa : a' = a := by
    rw [hA.1 152 (by omega), hak, nI_eq (by omega) (by omega)] at a1
    exact a1.symm
  subst eaa
  have hTa := hX a' ha'
  have hAa := hTa.1.1
  have c1 : ∀ x, 151 ≤ x → (xs (fi0 C U) a').1 x = C.1 x := fun x hx => (hAa.1 x (by omega)).trans (hA.1 x (by omega)).symm
  have eI : isM D U k = (sos (is1 D U) 166 a').2 := by unfold isM; rw [a2, nI_clamp (by omega)]
  have d1 : ∀ x, x ≠ 166 → x ≠ 167 → x ≠ 176 → x ≠ 177 → (isM D U k).1 x = D.1 x := fun x q1 q2 q3 q4 => by rw [eI]; exact (hTa.1.2.1 x q1 q2 q3 q4).trans (hM.1 x q1 q2 q3 q4).symm
  have hasE : hasI (xs (fi0 C U) a') (C.1 153 k) = hasI C (C.1 153 k) := by
    unfold hasI
    rw [hAa.1 4 (by omega), hA.1 4 (by omega)]
  unfold isF fbC
  rw [c1 152 (by omega), c1 153 (by omega), c1 155 (by omega), c1 156 (by omega), a1, if_pos rfl, hasE]
  rcases has_nu (u := C.1 153 k) hP0 with ⟨g1, g2, j, hj, ej⟩ | ⟨g1, g2⟩
  · rw [e153] at g2
    rw [if_neg g1, if_pos g2]
    refine ⟨by rw [eI]; exact hTa.1.2, ?_⟩
    have eV : fg (xs (fi0 C U) a') 14 k = isV (isM D U k) (D.1 172 k).toNatClampNeg k := by
      unfold fg isV
      rw [c1 153 (by omega), c1 154 (by omega), d1 173 (by decide) (by decide) (by decide) (by decide), e154, ← e153, ej, nI_clamp (by omega : j < 2 ^ 31), eI, PV_e hTa.2.2.1 hj (by decide), PV_e hTa.2.2.1 hj (by decide), PV_e hTa.2.2.1 hj (by decide)]
    unfold isB
    rw [eV, d1 174 (by decide) (by decide) (by decide) (by decide), d1 175 (by decide) (by decide) (by decide) (by decide), e155, e156]
  · rw [e153] at g2
    rw [if_pos g1, if_neg g2]
    exact ⟨hM, Iff.rfl⟩
theorem ls_ge {M : mM} : ∀ (m i : Nat) (w L : Nat), L ≤ 9 → w ≤ 9 → (∀ j, i ≤ j → j < i + m → ∃ a, a ≤ 9 ∧ M.1 152 j = nI a) → itr (lsS M) i m (nI w) = nI L → w ≤ L ∧ ∀ j a, i ≤ j → j < i + m → a ≤ 9 → M.1 152 j = nI a → a ≤ L
  | 0, i, w, L, hL, hw, _, e => by
    rw [itr, nI_eq (by omega) (by omega)] at e
    exact ⟨by omega, fun j a h1 h2 => by omega⟩
  | m + 1, i, w, L, hL, hw, h, e => by
    rw [itr] at e
    obtain ⟨b, hb, eb⟩ := h i (Nat.le_refl _) (by omega)
    have es : lsS M i (nI w) = nI (max w b) := by
      unfold lsS mx
      rw [eb]
      by_cases g : w < b
      · rw [if_pos (nI_lt g (by omega)), Nat.max_eq_right (by omega)]
      · rw [if_neg (nI_nlt (by omega) (by omega)), Nat.max_eq_left (by omega)]
    rw [es] at e
    obtain ⟨k1, k2⟩ := ls_ge m (i + 1) (max w b) L hL (by omega) (fun j h1 h2 => h j (by omega) (by omega)) e
    refine ⟨by omega, fun j a h1 h2 ha' ea => ?_⟩
    by_cases ej : j = i
    · subst ej
      rw [eb, nI_eq (by omega) (by omega)] at ea
      omega
    · exact k2 j a (by omega) (by omega) ha' ea
theorem fbC_ne {M : mM} {k a i j : Nat} (ha' : a ≤ 9) (hi : i ≤ 10) (e : M.1 152 j = nI a) (hne : i ≠ a) : ¬ fbC M k (nI i) j = 0 := by
  unfold fbC
  rw [e, if_neg (by rw [nI_eq (by omega) (by omega)]; exact Ne.symm hne)]
  decide
theorem op_which {c : Nat} {C D : mM} (hc : c + 1000 < 2 ^ 30) (h : RR c C D) : OPS (suF C).1 (m_which (m0 D)).1 c C (suF C).2 D (m_which (m0 D)).2 := by
  have hG := RR_GD h
  obtain ⟨n, B, h2⟩ := h.2
  have h2' := R2_DF h2 DF_0
  have hP := h2'.1.1
  have hn := hP.1.1
  obtain ⟨n1, -, n3, -⟩ := PLR_n hP
  obtain ⟨z, hz6, z2, z3, z4⟩ := h2'.2.2.2.2.1
  have key := itr_rel suS wkO (fun _ p q => p.1 = q.1 ∧ AQ C p.2 ∧ AM (m0 D) q.2) n 0 (0, C) (0, m0 D) (fun U p q _ hU hR => by
    obtain ⟨s, C1⟩ := p
    obtain ⟨s', D1⟩ := q
    obtain ⟨r1, hA, hM⟩ := hR
    simp only at r1 hA hM
    subst r1
    have hU' : U < n := by omega
    have hb := (TT_next h2' hA hM).2
    have hnS : nS D1 = z := by
      unfold nS
      rw [hM.1 158 (by decide) (by decide) (by decide) (by decide), z3, nI_clamp (by omega)]
    have off : C1.1 (9 + U) 3 = D1.1 165 (10 * U + 3) := by
      rw [show 9 + U = 7 + 1 + 1 + U by omega]
      exact PV_e hb.1.2.1 hU' (by decide)
    -- the model's side
    have hmod := wkI_0 (u := U) (D0 := m0 D) z 0 (if D1.1 165 (10 * U + 3) = 0 then 1 else 0) D1 (fun k => ∃ a, a ≤ 9 ∧ C.1 152 k = nI a ∧ ¬ fbC (xs (fi0 C1 U) a) 14 (nI a) k = 0) (AM (m0 D)) hM (fun k D2 _ hk hM2 => by
      obtain ⟨⟨a, a1, a2, -⟩, -⟩ := z4 k (by omega)
      obtain ⟨⟨s1, s2⟩, -⟩ := see_eq hc h2' hU' hA hM2 ⟨z, by omega, hz6, z2⟩ a1 a2
      refine ⟨s1, s2.trans ⟨fun g => ⟨a, a1, a2, g⟩, fun ⟨a', b1, b2, b3⟩ => ?_⟩⟩
      rw [a2, nI_eq (by omega) (by omega)] at b2
      subst b2
      exact b3)
    have ewk : wkJ U D1 = itr (wkI U) 0 z (if D1.1 165 (10 * U + 3) = 0 then 1 else 0, D1) := by unfold wkJ; rw [hnS]
    rw [← ewk] at hmod
    unfold suS wkO
    simp only
    rw [off]
    by_cases g : D1.1 165 (10 * U + 3) = 0
    · rw [if_pos g]
      -- the class's side
      have hX : ∀ i, i ≤ 9 → AQ C (xs (fi0 C1 U) i) := by
        intro i hi
        have hT := (TT_next h2' hA hM).1
        have hT1 : TT n B c 14 166 C (m0 D) (fi0 C1 U) (is1 D1 U) := by
          unfold fi0 is1
          rw [show 16 + U = 14 + 1 + 1 + U by omega]
          exact TT_u (by omega) (by decide) (VF3.mpr (Or.inr rfl)) hT
        exact (TT_runs (m := i) (Or.inl ⟨rfl, rfl⟩) (by omega) hT1).2.1.1
      have hXn : ∀ i, nZ (xs (fi0 C1 U) i) = z ∧ ∀ x, 151 ≤ x → (xs (fi0 C1 U) i).1 x = C.1 x := by
        intro i
        have f0 : AQ C (fi0 C1 U) := hX 0 (by omega)
        have f1 : AQ C (xs (fi0 C1 U) i) := by
          have := itr_inv (ruS 14) (fun q => AQ C q.2) i 0 (0, fi0 C1 U) (fun j s _ _ hs => AQ_ro (Or.inl rfl) hs) f0
          exact this
        refine ⟨?_, fun x hx => f1.1 x (by omega)⟩
        unfold nZ
        rw [f1.1 151 (by omega), z2, nI_clamp (by omega)]
      have hSEE : SEE (fi0 C1 U) := SEE_of (R2_SEE h2) ((hX 0 (by omega)).1 151 (by omega)) ((hX 0 (by omega)).1 152 (by omega))
      obtain ⟨L, hL, eL⟩ := lsF_v hSEE
      have hcl := fiL_1 (C := fi0 C1 U) (fun i => (hXn i).1) (L + 1) 0 (by omega)
      have efi : fi C1 U = fiL (L + 1) 0 (fi0 C1 U) := by unfold fi; rw [eL, nI_clamp (by omega)]
      have q0 : (fi0 C1 U).1 152 = C.1 152 := (hX 0 (by omega)).1 152 (by omega)
      have hz0 : nZ (fi0 C1 U) = z := (hXn 0).1
      have h152 : ∀ j, j < z → ∃ a, a ≤ 9 ∧ (fi0 C1 U).1 152 j = nI a := by
        intro j hj
        obtain ⟨⟨a, a1, a2, -⟩, -⟩ := z4 j hj
        exact ⟨a, a1, by rw [q0]; exact a2⟩
      have hmax := ls_ge (M := fi0 C1 U) z 0 0 L hL (by omega) (fun j _ hj => h152 j (by omega)) (by
        have : lsF (fi0 C1 U) = itr (lsS (fi0 C1 U)) 0 z 0 := by unfold lsF; rw [hz0]
        rw [← eL, this]; rfl)
      have hiff : (¬ (fi C1 U).1 = 0) ↔ ∀ k, k < z → ∃ a, a ≤ 9 ∧ C.1 152 k = nI a ∧ ¬ fbC (xs (fi0 C1 U) a) 14 (nI a) k = 0 := by
        rw [efi]
        have h1 := hcl.1
        rw [show xs (fi0 C1 U) (0 - 1) = fi0 C1 U from rfl] at h1
        rw [h1]
        constructor
        · intro g1 k hk
          obtain ⟨⟨a, a1, a2, -⟩, -⟩ := z4 k hk
          have a3 : (fi0 C1 U).1 152 k = nI a := by rw [q0]; exact a2
          have hle := hmax.2 k a (by omega) (by omega) a1 a3
          exact ⟨a, a1, a2, (fbL_1 z 0).mp (g1 a (by omega) (by omega)) k (by omega) (by omega)⟩
        · intro g1 i _ hi
          rw [fbL_1]
          intro k _ hk
          obtain ⟨a, a1, a2, a3⟩ := g1 k (by omega)
          by_cases e : i = a
          · rw [e]; exact a3
          · exact fbC_ne a1 (by omega) (by rw [(hXn i).2 152 (by omega)]; exact a2) e
      have hAf : AQ C (fi C1 U).2 := by
        rw [efi]
        obtain ⟨j, e, hj⟩ := hcl.2
        rw [show xs (fi0 C1 U) (0 - 1) = fi0 C1 U from rfl] at e
        rw [e]
        exact itr_inv (ruS 14) (fun q => AQ C q.2) j 0 (0, fi0 C1 U) (fun j s _ _ hs => AQ_ro (Or.inl rfl) hs) (hX 0 (by omega))
      have hm1 : (¬ (wkJ U D1).1 = 0) ↔ ¬ (fi C1 U).1 = 0 := by
        rw [hmod.1, hiff, if_pos g]
        exact ⟨fun q k hk => q.2 k (by omega) (by omega), fun q => ⟨by decide, fun k _ hk => q k (by omega)⟩⟩
      by_cases k1 : (fi C1 U).1 = 0
      · have k2 : (wkJ U D1).1 = 0 := Decidable.byContradiction fun q => (hm1.mp q) k1
        rw [if_pos k1, if_pos k2]
        refine ⟨?_, hAf, hmod.2⟩
        show s = s ||| 0
        rw [Int32.or_zero]
      · rw [if_neg k1, if_neg (hm1.mpr k1)]
        exact ⟨rfl, hAf, hmod.2⟩
    · rw [if_neg g]
      have k2 : (wkJ U D1).1 = 0 := Decidable.byContradiction fun q => by
        have := (hmod.1.mp q).1
        rw [if_neg g] at this
        exact this rfl
      rw [if_pos k2]
      refine ⟨?_, hA, hmod.2⟩
      show s = s ||| 0
      rw [Int32.or_zero]) ⟨rfl, AQ_r hG, AM_r⟩
  unfold suF m_which
  rw [n1, n3]
  exact ask_fin h key.1 key.2.1 key.2.2
