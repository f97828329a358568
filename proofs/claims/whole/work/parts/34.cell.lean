/-! a user read: class and model -/
theorem bad9 {q : Int32 × mM} (h : q.1 = -9) (a b : Int32) : ruX q a b = (-9, q.2) := by unfold ruX; rw [if_pos h]
def UOK (C D D' : mM) (t p u m : Nat) (X : Nat → Nat) : Prop := 1 ≤ m ∧ m ≤ 6 ∧ u < 5 ∧ p + 5 + m ≤ t ∧ D'.1 158 3 = nI (p + 5 + m) ∧ D'.1 158 12 = nI (u + 1) ∧ MT D' t X ∧ ff C (t - p) 4 (nI u) p = ff C (t - (p + 5 + m)) 4 (nI (u + 1)) (p + 5 + m) ∧ (X (p + 4 + m) = 46 ∧ ∀ l, l < m → 48 ≤ X (p + 4 + l) ∧ X (p + 4 + l) ≤ 57 ∧ D'.1 162 (6 * u + l) = nI (X (p + 4 + l) - 48)) ∧ D'.1 163 u = nI m ∧ ((48 ≤ X (p + 1) ∧ X (p + 1) ≤ 57 ∧ D'.1 164 (10 * u + 0) = nI (X (p + 1) - 48)) ∧ (49 ≤ X (p + 2) ∧ X (p + 2) ≤ 57 ∧ D'.1 164 (10 * u + 1) = nI (X (p + 2) - 48)) ∧ (48 ≤ X (p + 3) ∧ X (p + 3) ≤ 57 ∧ D'.1 164 (10 * u + 2) = nI (X (p + 3) - 48))) ∧ ((∀ j, j < 6 * u ∨ 6 * u + 6 ≤ j → D'.1 162 j = D.1 162 j) ∧ (∀ j, j ≠ u → D'.1 163 j = D.1 163 j) ∧ ∀ j, j < 10 * u ∨ 10 * u + 2 < j → D'.1 164 j = D.1 164 j)
theorem user_eq {C D : mM} {t p u : Nat} {X : Nat → Nat} (hL : LT C t X) (hM : MT D t X) (hp : p < t) (hu : u ≤ 5) (ep : D.1 158 3 = nI p) (eu : D.1 158 12 = nI u) : ((rus D).1 = 0 ∧ ff C (t - p) 4 (nI u) p = (rus D).2.1 158 3 ∧ ∃ j, j ≤ 80 ∧ (rus D).2.1 158 3 = nI j) ∨ (¬ (rus D).1 = 0 ∧ ∃ m, UOK C D (rus D).2 t p u m X) := by
  have ht := hL.2.1
  have hX : ∀ i, i < t → X i < 256 := fun i hi => (hL.2.2 i hi).1
  have eP : PZ D = p := by unfold PZ; rw [ep, nI_clamp (by omega)]
  have h256 := hL.2.2 p hp
  obtain ⟨k, hk⟩ : ∃ k, t - p = k + 1 := ⟨t - p - 1, by omega⟩
  have eF : ff C (t - p) 4 (nI u) p = if u < 5 ∧ X p = 117 then ff C (t - (p + 1)) 5 (nI (u + 1)) (p + 1) else nI p := by
    have eU : ffU 4 (nI u) = nI (u + 1) := by unfold ffU; rw [if_pos rfl, nI_1]
    have eQ : ffP C 4 (nI u) p = if u < 5 ∧ X p = 117 then 5 else -1 := by
      unfold ffP
      rw [eU, bh_4, h256.2]
      by_cases g : u < 5
      · rw [if_pos (u05 (u + 1) (by omega))]
        by_cases g2 : X p = 117
        · rw [if_pos (show nI (X p) = 117 by rw [g2]; rfl), if_pos ⟨g, g2⟩]
        · have g' : ¬ nI (X p) = 117 := fun q => g2 ((nI_eq (b := 117) (by omega) (by decide)).mp q)
          rw [if_neg g', if_neg (fun q => g2 q.2)]
      · have g' : ¬ nI (u + 1) ≤ 5 := nI_ge (a := 5) (b := u + 1) (by omega) (by omega)
        rw [if_neg g', if_neg (fun q => g q.1)]
    rw [hk, ff, eU, eQ, show t - (p + 1) = k by omega]
    by_cases g : u < 5 ∧ X p = 117
    · rw [if_pos g, if_neg (by decide), if_pos g]
    · rw [if_neg g, if_pos rfl, if_neg g]
  rw [eF]
  unfold rus
  rw [eu, eP, hM.2 p hp, ep, nI_1]
  by_cases g : u < 5 ∧ X p = 117
  · have g5 : ¬ nI u = 5 := fun q => by have := (nI_eq (b := 5) (by omega) (by decide)).mp q; omega
    rw [if_pos g, if_neg g5, if_pos (show nI (X p) = 117 by rw [g.2]; rfl), nI_clamp (by omega : u < 2 ^ 31)]
    have hus := u05 (u + 1) (by omega)
    have hM1 : MT (mset D 158 3 (nI (p + 1))) t X := MT_m hM ⟨Or.inr (by decide), by decide⟩
    have p1 : (mset D 158 3 (nI (p + 1))).1 158 3 = nI (p + 1) := mset_s
    have n1 : ∀ a j, (a ≠ 158 ∨ j ≠ 3) → (mset D 158 3 (nI (p + 1))).1 a j = D.1 a j := fun a j q => by rw [mset_get, if_neg (by omega)]
    generalize mset D 158 3 (nI (p + 1)) = D1 at *
    unfold ru1
    have f1 := fgr_v (a := 0) (b := 9) hM1 ht hX (by omega) p1 (by decide) (by decide)
    have e1 := ff_dig (p := p + 1) (a := 0) (b := 9) hL (by omega) (by decide) (by decide) hus bh_5 (by decide) (by decide)
    rw [show fgr D1 0 9 = fgr D1 (nI 0) (nI 9) from rfl, f1, e1]
    by_cases c1 : p + 1 < t ∧ 48 + 0 ≤ X (p + 1) ∧ X (p + 1) ≤ 48 + 9
    · rw [if_pos c1, if_pos c1]
      have hM2 : MT (mset D1 158 3 (nI (p + 1 + 1))) t X := MT_m hM1 ⟨Or.inr (by decide), by decide⟩
      have p2 : (mset D1 158 3 (nI (p + 1 + 1))).1 158 3 = nI (p + 2) := mset_s
      have n2 : ∀ a j, (a ≠ 158 ∨ j ≠ 3) → (mset D1 158 3 (nI (p + 1 + 1))).1 a j = D.1 a j := fun a j q => by rw [mset_get, if_neg (by omega)]; exact n1 a j q
      generalize mset D1 158 3 (nI (p + 1 + 1)) = D2 at *
      have x2 : ruX (nI (X (p + 1) - 48), D2) 1 9 = fgr D2 (nI 1) (nI 9) := by unfold ruX; rw [if_neg (nIm9 (by omega))]; rfl
      have f2 := fgr_v (a := 1) (b := 9) hM2 ht hX (by omega) p2 (by decide) (by decide)
      have e2 := ff_dig (p := p + 2) (a := 1) (b := 9) hL (by omega) (by decide) (by decide) hus bh_6 (by decide) (by decide)
      rw [x2, f2, show p + 1 + 1 = p + 2 from rfl, e2]
      by_cases c2 : p + 2 < t ∧ 48 + 1 ≤ X (p + 2) ∧ X (p + 2) ≤ 48 + 9
      · rw [if_pos c2, if_pos c2]
        have hM3 : MT (mset D2 158 3 (nI (p + 2 + 1))) t X := MT_m hM2 ⟨Or.inr (by decide), by decide⟩
        have p3 : (mset D2 158 3 (nI (p + 2 + 1))).1 158 3 = nI (p + 3) := mset_s
        have n3 : ∀ a j, (a ≠ 158 ∨ j ≠ 3) → (mset D2 158 3 (nI (p + 2 + 1))).1 a j = D.1 a j := fun a j q => by rw [mset_get, if_neg (by omega)]; exact n2 a j q
        generalize mset D2 158 3 (nI (p + 2 + 1)) = D3 at *
        have x3 : ruX (nI (X (p + 2) - 48), D3) 0 9 = fgr D3 (nI 0) (nI 9) := by unfold ruX; rw [if_neg (nIm9 (by omega))]; rfl
        have f3 := fgr_v (a := 0) (b := 9) hM3 ht hX (by omega) p3 (by decide) (by decide)
        have e3 := ff_dig (p := p + 3) (a := 0) (b := 9) hL (by omega) (by decide) (by decide) hus bh_7 (by decide) (by decide)
        rw [x3, f3, show p + 2 + 1 = p + 3 from rfl, e3]
        by_cases c3 : p + 3 < t ∧ 48 + 0 ≤ X (p + 3) ∧ X (p + 3) ≤ 48 + 9
        · rw [if_pos c3, if_pos c3]
          have hM4 : MT (mset D3 158 3 (nI (p + 3 + 1))) t X := MT_m hM3 ⟨Or.inr (by decide), by decide⟩
          have p4 : (mset D3 158 3 (nI (p + 3 + 1))).1 158 3 = nI (p + 4) := mset_s
          have n4 : ∀ a j, (a ≠ 158 ∨ j ≠ 3) → (mset D3 158 3 (nI (p + 3 + 1))).1 a j = D.1 a j := fun a j q => by rw [mset_get, if_neg (by omega)]; exact n3 a j q
          generalize mset D3 158 3 (nI (p + 3 + 1)) = D4 at *
          have x4 : ruX (nI (X (p + 3) - 48), D4) 0 9 = fgr D4 (nI 0) (nI 9) := by unfold ruX; rw [if_neg (nIm9 (by omega))]; rfl
          have f4 := fgr_v (a := 0) (b := 9) hM4 ht hX (by omega) p4 (by decide) (by decide)
          have e4 := ff_dig (p := p + 4) (a := 0) (b := 9) hL (by omega) (by decide) (by decide) hus bh_8 (by decide) (by decide)
          rw [x4, f4, show p + 3 + 1 = p + 4 from rfl, e4]
          by_cases c4 : p + 4 < t ∧ 48 + 0 ≤ X (p + 4) ∧ X (p + 4) ≤ 48 + 9
          · rw [if_pos c4, if_pos c4]
            unfold ru5
            simp only
            rw [if_neg (nIm9 (by omega))]
            have hM5 : MT (mset (mset D4 158 3 (nI (p + 4 + 1))) 163 u 0) t X := MT_m (MT_m hM4 ⟨Or.inr (by decide), by decide⟩) ⟨Or.inl (by decide), by decide⟩
            have p5 : (mset (mset D4 158 3 (nI (p + 4 + 1))) 163 u 0).1 158 3 = nI (p + 4 + 0 + 1) := by rw [mset_n (by decide), mset_s]
            have c5 : (mset (mset D4 158 3 (nI (p + 4 + 1))) 163 u 0).1 163 u = nI 0 := by rw [mset_s]; rfl
            have n5 : ∀ a j, (a ≠ 158 ∨ j ≠ 3) → (a ≠ 163 ∨ j ≠ u) → (mset (mset D4 158 3 (nI (p + 4 + 1))) 163 u 0).1 a j = D.1 a j := fun a j q q2 => by rw [mset_get, if_neg (by omega), mset_get, if_neg (by omega)]; exact n4 a j q
            have hPS5 : PS (mset (mset D4 158 3 (nI (p + 4 + 1))) 163 u 0) := ⟨t, p + 5, ht, by omega, hM5.1, p5⟩
            generalize mset (mset D4 158 3 (nI (p + 4 + 1))) 163 u 0 = D5 at *
            obtain ⟨m, m1, m2, m3, m4, m5, m6, m7, m8, m9, ma, mb⟩ := rates_eq (q := p + 4) (u := u) hL hus 5 0 D5 rfl hM5 (by omega) (by rw [Nat.add_zero]; omega) (by rw [Nat.add_zero]; omega) c5 p5
            rw [Nat.add_zero] at m4 m5 m6 m7 m8 ma mb
            have mr := (rlL_f (u := u) 6 (nI (X (p + 4) - 48)) D5 hPS5).2
            rw [show (5 + 1 : Nat) = 6 from rfl] at m4 m5 m6 m7 ma mb
            generalize rlL u 6 (nI (X (p + 4) - 48)) D5 = D6 at *
            have e5 : ff C (t - (p + 4 + 1)) 9 (nI (u + 1)) (p + 4 + 1) = ff C (t - (p + 4 + m)) (nI (8 + m)) (nI (u + 1)) (p + 4 + m) := m8
            rw [e5]
            have eP6 : PZ D6 = p + 4 + m := by unfold PZ; rw [m5, nI_clamp (by omega)]
            unfold ru6
            rw [m5, m6.1, eP6]
            by_cases c6 : p + 4 + m = t
            · rw [if_pos (by rw [c6])]
              refine Or.inl ⟨rfl, ?_, p + 4 + m, by omega, m5⟩
              have h4 : ¬ nI (8 + m) = 4 := fun q => by have := (nI_eq (b := 4) (by omega) (by decide)).mp q; omega
              rw [c6, Nat.sub_self, ff, if_neg h4, hL.1]
              show nI t = D6.1 158 3
              rw [m5, c6]
            · have c6' : ¬ nI (p + 4 + m) = nI t := fun q => c6 ((nI_eq (by omega) (by omega)).mp q)
              rw [if_neg c6', m6.2 (p + 4 + m) (by omega), ff_rate hL m1 m2 (by omega) hus]
              have hx6 := hX (p + 4 + m) (by omega)
              by_cases c7 : X (p + 4 + m) = 46
              · rw [if_pos c7, if_pos (show nI (X (p + 4 + m)) = 46 by rw [c7]; rfl)]
                refine Or.inr ⟨(by decide : ¬ (1 : Int32) = 0), m, m1, m2, g.1, by omega, ?_, ?_, ?_, ?_, ⟨c7, fun l hl => ?_⟩, ?_, ⟨⟨by omega, by omega, ?_⟩, ⟨by omega, by omega, ?_⟩, by omega, by omega, ?_⟩, fun j hj => ?_, fun j hj => ?_, fun j hj => ?_⟩
                · show (ruZ u _ _ _ D6).1 158 3 = _
                  unfold ruZ
                  rw [mset_o (by decide), mset_n (by decide), mset_n (by decide), mset_n (by decide), mset_s, m5, nI_1]
                  congr 1
                  omega
                · show (ruZ u _ _ _ D6).1 158 12 = _
                  unfold ruZ
                  rw [mset_s, mr 158 12 (Or.inr (by decide)) (by decide) (by decide), n5 158 12 (Or.inr (by decide)) (Or.inl (by decide)), eu, nI_1]
                · show MT (ruZ u _ _ _ D6) t X
                  unfold ruZ
                  exact MT_m (MT_m (MT_m (MT_m (MT_m m6 ⟨Or.inr (by decide), by decide⟩) ⟨Or.inl (by decide), by decide⟩) ⟨Or.inl (by decide), by decide⟩) ⟨Or.inl (by decide), by decide⟩) ⟨Or.inr (by decide), by decide⟩
                · rw [eF, if_pos g, e1, if_pos c1, e2, if_pos c2, e3, if_pos c3, e4, if_pos c4, e5, ff_rate hL m1 m2 (by omega) hus, if_pos c7]
                  rw [show p + 4 + m + 1 = p + 5 + m by omega]
                · show _ ∧ _ ∧ (ruZ u _ _ _ D6).1 162 (6 * u + l) = _
                  unfold ruZ
                  rw [mset_n (by decide), mset_n (by decide), mset_n (by decide), mset_n (by decide), mset_n (by decide)]
                  exact m7 l (by omega) hl
                · show (ruZ u _ _ _ D6).1 163 u = _
                  unfold ruZ
                  rw [mset_n (by decide), mset_n (by decide), mset_n (by decide), mset_n (by decide), mset_n (by decide)]
                  exact m4
                · show (ruZ u _ _ _ D6).1 164 (10 * u + 0) = _
                  unfold ruZ
                  rw [mset_n (by decide), mset_o (by omega), mset_o (by omega), mset_s]
                · show (ruZ u _ _ _ D6).1 164 (10 * u + 1) = _
                  unfold ruZ
                  rw [mset_n (by decide), mset_o (by omega), mset_s]
                · show (ruZ u _ _ _ D6).1 164 (10 * u + 2) = _
                  unfold ruZ
                  rw [mset_n (by decide), mset_s]
                · show (ruZ u _ _ _ D6).1 162 j = _
                  unfold ruZ
                  rw [mset_n (by decide), mset_n (by decide), mset_n (by decide), mset_n (by decide), mset_n (by decide), ma j (by omega), n5 162 j (Or.inl (by decide)) (Or.inl (by decide))]
                · show (ruZ u _ _ _ D6).1 163 j = _
                  unfold ruZ
                  rw [mset_n (by decide), mset_n (by decide), mset_n (by decide), mset_n (by decide), mset_n (by decide), mb j hj, n5 163 j (Or.inl (by decide)) (Or.inr hj)]
                · show (ruZ u _ _ _ D6).1 164 j = _
                  unfold ruZ
                  rw [mset_n (by decide), mset_o (by omega), mset_o (by omega), mset_o (by omega), mset_n (by decide), mr 164 j (Or.inl (by decide)) (by decide) (by decide), n5 164 j (Or.inl (by decide)) (Or.inl (by decide))]
              · have c7' : ¬ nI (X (p + 4 + m)) = 46 := fun q => c7 ((nI_eq (b := 46) (by omega) (by decide)).mp q)
                rw [if_neg c7, if_neg c7', if_neg (fun q => m9 (by omega) q.2.2 ⟨q.1, q.2.1⟩)]
                exact Or.inl ⟨rfl, m5.symm, _, by omega, m5⟩
          · rw [if_neg c4, if_neg c4]
            unfold ru5
            rw [if_pos rfl]
            exact Or.inl ⟨rfl, p4.symm, _, by omega, p4⟩
        · rw [if_neg c3, if_neg c3]
          rw [bad9 (q := (-9, D3)) rfl]
          unfold ru5
          rw [if_pos rfl]
          exact Or.inl ⟨rfl, p3.symm, _, by omega, p3⟩
      · rw [if_neg c2, if_neg c2]
        rw [bad9 (q := (-9, D2)) rfl, bad9 (q := (-9, D2)) rfl]
        unfold ru5
        rw [if_pos rfl]
        exact Or.inl ⟨rfl, p2.symm, _, by omega, p2⟩
    · rw [if_neg c1, if_neg c1]
      rw [bad9 (q := (-9, D1)) rfl, bad9 (q := (-9, D1)) rfl, bad9 (q := (-9, D1)) rfl]
      unfold ru5
      rw [if_pos rfl]
      exact Or.inl ⟨rfl, p1.symm, _, by omega, p1⟩
  · rw [if_neg g]
    by_cases g5 : u = 5
    · subst g5
      rw [if_pos (show nI 5 = 5 from rfl)]
      exact Or.inl ⟨rfl, ep.symm, p, by omega, ep⟩
    · have g5' : ¬ nI u = 5 := fun q => g5 ((nI_eq (b := 5) (by omega) (by decide)).mp q)
      have g6 : ¬ X p = 117 := fun q => g ⟨by omega, q⟩
      have g6' : ¬ nI (X p) = 117 := fun q => g6 ((nI_eq (b := 117) (by omega) (by decide)).mp q)
      rw [if_neg g5', if_neg g6']
      exact Or.inl ⟨rfl, ep.symm, p, by omega, ep⟩
